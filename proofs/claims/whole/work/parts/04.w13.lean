set_option maxRecDepth 100000 in
theorem mm_ok287 : mm_okm 287 = true := by decide +kernel
set_option maxRecDepth 100000 in
theorem mm_ok288 : mm_okm 288 = true := by decide +kernel
set_option maxRecDepth 100000 in
theorem mm_ok289 : mm_okm 289 = true := by decide +kernel
set_option maxRecDepth 100000 in
theorem mm_ok290 : mm_okm 290 = true := by decide +kernel
set_option maxRecDepth 100000 in
theorem mm_ok291 : mm_okm 291 = true := by decide +kernel
set_option maxRecDepth 100000 in
theorem mm_ok292 : mm_okm 292 = true := by decide +kernel
set_option maxRecDepth 100000 in
theorem mm_ok293 : mm_okm 293 = true := by decide +kernel
set_option maxRecDepth 100000 in
theorem mm_ok294 : mm_okm 294 = true := by decide +kernel
set_option maxRecDepth 100000 in
theorem mm_ok295 : mm_okm 295 = true := by decide +kernel
set_option maxRecDepth 100000 in
theorem mm_ok296 : mm_okm 296 = true := by decide +kernel
set_option maxRecDepth 100000 in
theorem mm_ok297 : mm_okm 297 = true := by decide +kernel
set_option maxRecDepth 100000 in
theorem mm_ok298 : mm_okm 298 = true := by decide +kernel
set_option maxRecDepth 100000 in
theorem mm_ok299 : mm_okm 299 = true := by decide +kernel
set_option maxRecDepth 100000 in
theorem mm_ok300 : mm_okm 300 = true := by decide +kernel
set_option maxRecDepth 100000 in
theorem mm_ok301 : mm_okm 301 = true := by decide +kernel
set_option maxRecDepth 100000 in
theorem mm_ok302 : mm_okm 302 = true := by decide +kernel
set_option maxRecDepth 100000 in
theorem mm_ok303 : mm_okm 303 = true := by decide +kernel
set_option maxRecDepth 100000 in
theorem mm_ok304 : mm_okm 304 = true := by decide +kernel
set_option maxRecDepth 100000 in
theorem mm_ok305 : mm_okm 305 = true := by decide +kernel
set_option maxRecDepth 100000 in
theorem mm_ok306 : mm_okm 306 = true := by decide +kernel
set_option maxRecDepth 100000 in
theorem mm_ok307 : mm_okm 307 = true := by decide +kernel
set_option maxRecDepth 100000 in
theorem mm_ok308 : mm_okm 308 = true := by decide +kernel
set_option maxRecDepth 100000 in
theorem mm_ok309 : mm_okm 309 = true := by decide +kernel
set_option maxRecDepth 100000 in
theorem mm_ok310 : mm_okm 310 = true := by decide +kernel
set_option maxRecDepth 100000 in
theorem mm_ok311 : mm_okm 311 = true := by decide +kernel
set_option maxRecDepth 100000 in
theorem mm_ok312 : mm_okm 312 = true := by decide +kernel
set_option maxRecDepth 100000 in
theorem mm_ok313 : mm_okm 313 = true := by decide +kernel
set_option maxRecDepth 100000 in
theorem mm_ok314 : mm_okm 314 = true := by decide +kernel
set_option maxRecDepth 100000 in
theorem mm_ok315 : mm_okm 315 = true := by decide +kernel
set_option maxRecDepth 100000 in
theorem mm_ok316 : mm_okm 316 = true := by decide +kernel
set_option maxRecDepth 100000 in
theorem mm_ok317 : mm_okm 317 = true := by decide +kernel
set_option maxRecDepth 100000 in
theorem mm_ok318 : mm_okm 318 = true := by decide +kernel
set_option maxRecDepth 100000 in
theorem mm_ok319 : mm_okm 319 = true := by decide +kernel
set_option maxRecDepth 100000 in
theorem mm_ok320 : mm_okm 320 = true := by decide +kernel
set_option maxRecDepth 100000 in
theorem mm_ok321 : mm_okm 321 = true := by decide +kernel
set_option maxRecDepth 100000 in
theorem mm_ok322 : mm_okm 322 = true := by decide +kernel
set_option maxRecDepth 100000 in
theorem mm_ok323 : mm_okm 323 = true := by decide +kernel
set_option maxRecDepth 100000 in
theorem mm_ok324 : mm_okm 324 = true := by decide +kernel
set_option maxRecDepth 100000 in
theorem mm_ok325 : mm_okm 325 = true := by decide +kernel
set_option maxRecDepth 100000 in
theorem mm_ok326 : mm_okm 326 = true := by decide +kernel
set_option maxRecDepth 100000 in
theorem mm_ok327 : mm_okm 327 = true := by decide +kernel
set_option maxRecDepth 100000 in
theorem mm_ok328 : mm_okm 328 = true := by decide +kernel
set_option maxRecDepth 100000 in
theorem mm_ok329 : mm_okm 329 = true := by decide +kernel
set_option maxRecDepth 100000 in
theorem mm_ok330 : mm_okm 330 = true := by decide +kernel
set_option maxRecDepth 100000 in
theorem mm_ok331 : mm_okm 331 = true := by decide +kernel
set_option maxRecDepth 100000 in
theorem mm_ok332 : mm_okm 332 = true := by decide +kernel
set_option maxRecDepth 100000 in
theorem mm_ok333 : mm_okm 333 = true := by decide +kernel
set_option maxRecDepth 100000 in
theorem mm_ok334 : mm_okm 334 = true := by decide +kernel
set_option maxRecDepth 100000 in
theorem mm_ok335 : mm_okm 335 = true := by decide +kernel
set_option maxRecDepth 100000 in
theorem mm_ok336 : mm_okm 336 = true := by decide +kernel
set_option maxRecDepth 100000 in
theorem mm_ok337 : mm_okm 337 = true := by decide +kernel
set_option maxRecDepth 100000 in
theorem mm_ok338 : mm_okm 338 = true := by decide +kernel
set_option maxRecDepth 100000 in
theorem mm_ok339 : mm_okm 339 = true := by decide +kernel
set_option maxRecDepth 100000 in
theorem mm_ok340 : mm_okm 340 = true := by decide +kernel
set_option maxRecDepth 100000 in
theorem mm_ok341 : mm_okm 341 = true := by decide +kernel
set_option maxRecDepth 100000 in
theorem mm_ok342 : mm_okm 342 = true := by decide +kernel
set_option maxRecDepth 100000 in
theorem mm_ok343 : mm_okm 343 = true := by decide +kernel
set_option maxRecDepth 100000 in
theorem mm_ok344 : mm_okm 344 = true := by decide +kernel
set_option maxRecDepth 100000 in
theorem mm_ok345 : mm_okm 345 = true := by decide +kernel
set_option maxRecDepth 100000 in
theorem mm_ok346 : mm_okm 346 = true := by decide +kernel
set_option maxRecDepth 100000 in
theorem mm_ok347 : mm_okm 347 = true := by decide +kernel
set_option maxRecDepth 100000 in
theorem mm_ok348 : mm_okm 348 = true := by decide +kernel
set_option maxRecDepth 100000 in
theorem mm_ok349 : mm_okm 349 = true := by decide +kernel
