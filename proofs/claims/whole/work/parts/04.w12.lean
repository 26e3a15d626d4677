set_option maxRecDepth 100000 in
theorem mm_ok207 : mm_okm 207 = true := by decide +kernel
set_option maxRecDepth 100000 in
theorem mm_ok208 : mm_okm 208 = true := by decide +kernel
set_option maxRecDepth 100000 in
theorem mm_ok209 : mm_okm 209 = true := by decide +kernel
set_option maxRecDepth 100000 in
theorem mm_ok210 : mm_okm 210 = true := by decide +kernel
set_option maxRecDepth 100000 in
theorem mm_ok211 : mm_okm 211 = true := by decide +kernel
set_option maxRecDepth 100000 in
theorem mm_ok212 : mm_okm 212 = true := by decide +kernel
set_option maxRecDepth 100000 in
theorem mm_ok213 : mm_okm 213 = true := by decide +kernel
set_option maxRecDepth 100000 in
theorem mm_ok214 : mm_okm 214 = true := by decide +kernel
set_option maxRecDepth 100000 in
theorem mm_ok215 : mm_okm 215 = true := by decide +kernel
set_option maxRecDepth 100000 in
theorem mm_ok216 : mm_okm 216 = true := by decide +kernel
set_option maxRecDepth 100000 in
theorem mm_ok217 : mm_okm 217 = true := by decide +kernel
set_option maxRecDepth 100000 in
theorem mm_ok218 : mm_okm 218 = true := by decide +kernel
set_option maxRecDepth 100000 in
theorem mm_ok219 : mm_okm 219 = true := by decide +kernel
set_option maxRecDepth 100000 in
theorem mm_ok220 : mm_okm 220 = true := by decide +kernel
set_option maxRecDepth 100000 in
theorem mm_ok221 : mm_okm 221 = true := by decide +kernel
set_option maxRecDepth 100000 in
theorem mm_ok222 : mm_okm 222 = true := by decide +kernel
set_option maxRecDepth 100000 in
theorem mm_ok223 : mm_okm 223 = true := by decide +kernel
set_option maxRecDepth 100000 in
theorem mm_ok224 : mm_okm 224 = true := by decide +kernel
set_option maxRecDepth 100000 in
theorem mm_ok225 : mm_okm 225 = true := by decide +kernel
set_option maxRecDepth 100000 in
theorem mm_ok226 : mm_okm 226 = true := by decide +kernel
set_option maxRecDepth 100000 in
theorem mm_ok227 : mm_okm 227 = true := by decide +kernel
set_option maxRecDepth 100000 in
theorem mm_ok228 : mm_okm 228 = true := by decide +kernel
set_option maxRecDepth 100000 in
theorem mm_ok229 : mm_okm 229 = true := by decide +kernel
set_option maxRecDepth 100000 in
theorem mm_ok230 : mm_okm 230 = true := by decide +kernel
set_option maxRecDepth 100000 in
theorem mm_ok231 : mm_okm 231 = true := by decide +kernel
set_option maxRecDepth 100000 in
theorem mm_ok232 : mm_okm 232 = true := by decide +kernel
set_option maxRecDepth 100000 in
theorem mm_ok233 : mm_okm 233 = true := by decide +kernel
set_option maxRecDepth 100000 in
theorem mm_ok234 : mm_okm 234 = true := by decide +kernel
set_option maxRecDepth 100000 in
theorem mm_ok235 : mm_okm 235 = true := by decide +kernel
set_option maxRecDepth 100000 in
theorem mm_ok236 : mm_okm 236 = true := by decide +kernel
set_option maxRecDepth 100000 in
theorem mm_ok237 : mm_okm 237 = true := by decide +kernel
set_option maxRecDepth 100000 in
theorem mm_ok238 : mm_okm 238 = true := by decide +kernel
set_option maxRecDepth 100000 in
theorem mm_ok239 : mm_okm 239 = true := by decide +kernel
set_option maxRecDepth 100000 in
theorem mm_ok240 : mm_okm 240 = true := by decide +kernel
set_option maxRecDepth 100000 in
theorem mm_ok241 : mm_okm 241 = true := by decide +kernel
set_option maxRecDepth 100000 in
theorem mm_ok242 : mm_okm 242 = true := by decide +kernel
set_option maxRecDepth 100000 in
theorem mm_ok243 : mm_okm 243 = true := by decide +kernel
set_option maxRecDepth 100000 in
theorem mm_ok244 : mm_okm 244 = true := by decide +kernel
set_option maxRecDepth 100000 in
theorem mm_ok245 : mm_okm 245 = true := by decide +kernel
set_option maxRecDepth 100000 in
theorem mm_ok246 : mm_okm 246 = true := by decide +kernel
set_option maxRecDepth 100000 in
theorem mm_ok247 : mm_okm 247 = true := by decide +kernel
set_option maxRecDepth 100000 in
theorem mm_ok248 : mm_okm 248 = true := by decide +kernel
set_option maxRecDepth 100000 in
theorem mm_ok249 : mm_okm 249 = true := by decide +kernel
set_option maxRecDepth 100000 in
theorem mm_ok250 : mm_okm 250 = true := by decide +kernel
set_option maxRecDepth 100000 in
theorem mm_ok251 : mm_okm 251 = true := by decide +kernel
set_option maxRecDepth 100000 in
theorem mm_ok252 : mm_okm 252 = true := by decide +kernel
set_option maxRecDepth 100000 in
theorem mm_ok253 : mm_okm 253 = true := by decide +kernel
set_option maxRecDepth 100000 in
theorem mm_ok254 : mm_okm 254 = true := by decide +kernel
set_option maxRecDepth 100000 in
theorem mm_ok255 : mm_okm 255 = true := by decide +kernel
set_option maxRecDepth 100000 in
theorem mm_ok256 : mm_okm 256 = true := by decide +kernel
set_option maxRecDepth 100000 in
theorem mm_ok257 : mm_okm 257 = true := by decide +kernel
set_option maxRecDepth 100000 in
theorem mm_ok258 : mm_okm 258 = true := by decide +kernel
set_option maxRecDepth 100000 in
theorem mm_ok259 : mm_okm 259 = true := by decide +kernel
set_option maxRecDepth 100000 in
theorem mm_ok260 : mm_okm 260 = true := by decide +kernel
set_option maxRecDepth 100000 in
theorem mm_ok261 : mm_okm 261 = true := by decide +kernel
set_option maxRecDepth 100000 in
theorem mm_ok262 : mm_okm 262 = true := by decide +kernel
set_option maxRecDepth 100000 in
theorem mm_ok263 : mm_okm 263 = true := by decide +kernel
set_option maxRecDepth 100000 in
theorem mm_ok264 : mm_okm 264 = true := by decide +kernel
set_option maxRecDepth 100000 in
theorem mm_ok265 : mm_okm 265 = true := by decide +kernel
set_option maxRecDepth 100000 in
theorem mm_ok266 : mm_okm 266 = true := by decide +kernel
set_option maxRecDepth 100000 in
theorem mm_ok267 : mm_okm 267 = true := by decide +kernel
set_option maxRecDepth 100000 in
theorem mm_ok268 : mm_okm 268 = true := by decide +kernel
set_option maxRecDepth 100000 in
theorem mm_ok269 : mm_okm 269 = true := by decide +kernel
set_option maxRecDepth 100000 in
theorem mm_ok270 : mm_okm 270 = true := by decide +kernel
set_option maxRecDepth 100000 in
theorem mm_ok271 : mm_okm 271 = true := by decide +kernel
set_option maxRecDepth 100000 in
theorem mm_ok272 : mm_okm 272 = true := by decide +kernel
set_option maxRecDepth 100000 in
theorem mm_ok273 : mm_okm 273 = true := by decide +kernel
set_option maxRecDepth 100000 in
theorem mm_ok274 : mm_okm 274 = true := by decide +kernel
set_option maxRecDepth 100000 in
theorem mm_ok275 : mm_okm 275 = true := by decide +kernel
set_option maxRecDepth 100000 in
theorem mm_ok276 : mm_okm 276 = true := by decide +kernel
set_option maxRecDepth 100000 in
theorem mm_ok277 : mm_okm 277 = true := by decide +kernel
set_option maxRecDepth 100000 in
theorem mm_ok278 : mm_okm 278 = true := by decide +kernel
set_option maxRecDepth 100000 in
theorem mm_ok279 : mm_okm 279 = true := by decide +kernel
set_option maxRecDepth 100000 in
theorem mm_ok280 : mm_okm 280 = true := by decide +kernel
set_option maxRecDepth 100000 in
theorem mm_ok281 : mm_okm 281 = true := by decide +kernel
set_option maxRecDepth 100000 in
theorem mm_ok282 : mm_okm 282 = true := by decide +kernel
set_option maxRecDepth 100000 in
theorem mm_ok283 : mm_okm 283 = true := by decide +kernel
set_option maxRecDepth 100000 in
theorem mm_ok284 : mm_okm 284 = true := by decide +kernel
set_option maxRecDepth 100000 in
theorem mm_ok285 : mm_okm 285 = true := by decide +kernel
set_option maxRecDepth 100000 in
theorem mm_ok286 : mm_okm 286 = true := by decide +kernel
