set_option maxRecDepth 100000 in
theorem mm_ok97 : mm_okm 97 = true := by decide +kernel
set_option maxRecDepth 100000 in
theorem mm_ok98 : mm_okm 98 = true := by decide +kernel
set_option maxRecDepth 100000 in
theorem mm_ok99 : mm_okm 99 = true := by decide +kernel
set_option maxRecDepth 100000 in
theorem mm_ok100 : mm_okm 100 = true := by decide +kernel
set_option maxRecDepth 100000 in
theorem mm_ok101 : mm_okm 101 = true := by decide +kernel
set_option maxRecDepth 100000 in
theorem mm_ok102 : mm_okm 102 = true := by decide +kernel
set_option maxRecDepth 100000 in
theorem mm_ok103 : mm_okm 103 = true := by decide +kernel
set_option maxRecDepth 100000 in
theorem mm_ok104 : mm_okm 104 = true := by decide +kernel
set_option maxRecDepth 100000 in
theorem mm_ok105 : mm_okm 105 = true := by decide +kernel
set_option maxRecDepth 100000 in
theorem mm_ok106 : mm_okm 106 = true := by decide +kernel
set_option maxRecDepth 100000 in
theorem mm_ok107 : mm_okm 107 = true := by decide +kernel
set_option maxRecDepth 100000 in
theorem mm_ok108 : mm_okm 108 = true := by decide +kernel
set_option maxRecDepth 100000 in
theorem mm_ok109 : mm_okm 109 = true := by decide +kernel
set_option maxRecDepth 100000 in
theorem mm_ok110 : mm_okm 110 = true := by decide +kernel
set_option maxRecDepth 100000 in
theorem mm_ok111 : mm_okm 111 = true := by decide +kernel
set_option maxRecDepth 100000 in
theorem mm_ok112 : mm_okm 112 = true := by decide +kernel
set_option maxRecDepth 100000 in
theorem mm_ok113 : mm_okm 113 = true := by decide +kernel
set_option maxRecDepth 100000 in
theorem mm_ok114 : mm_okm 114 = true := by decide +kernel
set_option maxRecDepth 100000 in
theorem mm_ok115 : mm_okm 115 = true := by decide +kernel
set_option maxRecDepth 100000 in
theorem mm_ok116 : mm_okm 116 = true := by decide +kernel
set_option maxRecDepth 100000 in
theorem mm_ok117 : mm_okm 117 = true := by decide +kernel
set_option maxRecDepth 100000 in
theorem mm_ok118 : mm_okm 118 = true := by decide +kernel
set_option maxRecDepth 100000 in
theorem mm_ok119 : mm_okm 119 = true := by decide +kernel
set_option maxRecDepth 100000 in
theorem mm_ok120 : mm_okm 120 = true := by decide +kernel
set_option maxRecDepth 100000 in
theorem mm_ok121 : mm_okm 121 = true := by decide +kernel
set_option maxRecDepth 100000 in
theorem mm_ok122 : mm_okm 122 = true := by decide +kernel
set_option maxRecDepth 100000 in
theorem mm_ok123 : mm_okm 123 = true := by decide +kernel
set_option maxRecDepth 100000 in
theorem mm_ok124 : mm_okm 124 = true := by decide +kernel
set_option maxRecDepth 100000 in
theorem mm_ok125 : mm_okm 125 = true := by decide +kernel
set_option maxRecDepth 100000 in
theorem mm_ok126 : mm_okm 126 = true := by decide +kernel
set_option maxRecDepth 100000 in
theorem mm_ok127 : mm_okm 127 = true := by decide +kernel
set_option maxRecDepth 100000 in
theorem mm_ok128 : mm_okm 128 = true := by decide +kernel
set_option maxRecDepth 100000 in
theorem mm_ok129 : mm_okm 129 = true := by decide +kernel
set_option maxRecDepth 100000 in
theorem mm_ok130 : mm_okm 130 = true := by decide +kernel
set_option maxRecDepth 100000 in
theorem mm_ok131 : mm_okm 131 = true := by decide +kernel
set_option maxRecDepth 100000 in
theorem mm_ok132 : mm_okm 132 = true := by decide +kernel
set_option maxRecDepth 100000 in
theorem mm_ok133 : mm_okm 133 = true := by decide +kernel
set_option maxRecDepth 100000 in
theorem mm_ok134 : mm_okm 134 = true := by decide +kernel
set_option maxRecDepth 100000 in
theorem mm_ok135 : mm_okm 135 = true := by decide +kernel
set_option maxRecDepth 100000 in
theorem mm_ok136 : mm_okm 136 = true := by decide +kernel
set_option maxRecDepth 100000 in
theorem mm_ok137 : mm_okm 137 = true := by decide +kernel
set_option maxRecDepth 100000 in
theorem mm_ok138 : mm_okm 138 = true := by decide +kernel
set_option maxRecDepth 100000 in
theorem mm_ok139 : mm_okm 139 = true := by decide +kernel
set_option maxRecDepth 100000 in
theorem mm_ok140 : mm_okm 140 = true := by decide +kernel
set_option maxRecDepth 100000 in
theorem mm_ok141 : mm_okm 141 = true := by decide +kernel
set_option maxRecDepth 100000 in
theorem mm_ok142 : mm_okm 142 = true := by decide +kernel
set_option maxRecDepth 100000 in
theorem mm_ok143 : mm_okm 143 = true := by decide +kernel
set_option maxRecDepth 100000 in
theorem mm_ok144 : mm_okm 144 = true := by decide +kernel
set_option maxRecDepth 100000 in
theorem mm_ok145 : mm_okm 145 = true := by decide +kernel
set_option maxRecDepth 100000 in
theorem mm_ok146 : mm_okm 146 = true := by decide +kernel
set_option maxRecDepth 100000 in
theorem mm_ok147 : mm_okm 147 = true := by decide +kernel
set_option maxRecDepth 100000 in
theorem mm_ok148 : mm_okm 148 = true := by decide +kernel
set_option maxRecDepth 100000 in
theorem mm_ok149 : mm_okm 149 = true := by decide +kernel
set_option maxRecDepth 100000 in
theorem mm_ok150 : mm_okm 150 = true := by decide +kernel
set_option maxRecDepth 100000 in
theorem mm_ok151 : mm_okm 151 = true := by decide +kernel
set_option maxRecDepth 100000 in
theorem mm_ok152 : mm_okm 152 = true := by decide +kernel
set_option maxRecDepth 100000 in
theorem mm_ok153 : mm_okm 153 = true := by decide +kernel
set_option maxRecDepth 100000 in
theorem mm_ok154 : mm_okm 154 = true := by decide +kernel
set_option maxRecDepth 100000 in
theorem mm_ok155 : mm_okm 155 = true := by decide +kernel
set_option maxRecDepth 100000 in
theorem mm_ok156 : mm_okm 156 = true := by decide +kernel
set_option maxRecDepth 100000 in
theorem mm_ok157 : mm_okm 157 = true := by decide +kernel
set_option maxRecDepth 100000 in
theorem mm_ok158 : mm_okm 158 = true := by decide +kernel
set_option maxRecDepth 100000 in
theorem mm_ok159 : mm_okm 159 = true := by decide +kernel
set_option maxRecDepth 100000 in
theorem mm_ok160 : mm_okm 160 = true := by decide +kernel
set_option maxRecDepth 100000 in
theorem mm_ok161 : mm_okm 161 = true := by decide +kernel
set_option maxRecDepth 100000 in
theorem mm_ok162 : mm_okm 162 = true := by decide +kernel
set_option maxRecDepth 100000 in
theorem mm_ok163 : mm_okm 163 = true := by decide +kernel
set_option maxRecDepth 100000 in
theorem mm_ok164 : mm_okm 164 = true := by decide +kernel
set_option maxRecDepth 100000 in
theorem mm_ok165 : mm_okm 165 = true := by decide +kernel
set_option maxRecDepth 100000 in
theorem mm_ok166 : mm_okm 166 = true := by decide +kernel
set_option maxRecDepth 100000 in
theorem mm_ok167 : mm_okm 167 = true := by decide +kernel
set_option maxRecDepth 100000 in
theorem mm_ok168 : mm_okm 168 = true := by decide +kernel
set_option maxRecDepth 100000 in
theorem mm_ok169 : mm_okm 169 = true := by decide +kernel
set_option maxRecDepth 100000 in
theorem mm_ok170 : mm_okm 170 = true := by decide +kernel
set_option maxRecDepth 100000 in
theorem mm_ok171 : mm_okm 171 = true := by decide +kernel
set_option maxRecDepth 100000 in
theorem mm_ok172 : mm_okm 172 = true := by decide +kernel
set_option maxRecDepth 100000 in
theorem mm_ok173 : mm_okm 173 = true := by decide +kernel
set_option maxRecDepth 100000 in
theorem mm_ok174 : mm_okm 174 = true := by decide +kernel
set_option maxRecDepth 100000 in
theorem mm_ok175 : mm_okm 175 = true := by decide +kernel
set_option maxRecDepth 100000 in
theorem mm_ok176 : mm_okm 176 = true := by decide +kernel
set_option maxRecDepth 100000 in
theorem mm_ok177 : mm_okm 177 = true := by decide +kernel
set_option maxRecDepth 100000 in
theorem mm_ok178 : mm_okm 178 = true := by decide +kernel
set_option maxRecDepth 100000 in
theorem mm_ok179 : mm_okm 179 = true := by decide +kernel
set_option maxRecDepth 100000 in
theorem mm_ok180 : mm_okm 180 = true := by decide +kernel
set_option maxRecDepth 100000 in
theorem mm_ok181 : mm_okm 181 = true := by decide +kernel
set_option maxRecDepth 100000 in
theorem mm_ok182 : mm_okm 182 = true := by decide +kernel
set_option maxRecDepth 100000 in
theorem mm_ok183 : mm_okm 183 = true := by decide +kernel
set_option maxRecDepth 100000 in
theorem mm_ok184 : mm_okm 184 = true := by decide +kernel
set_option maxRecDepth 100000 in
theorem mm_ok185 : mm_okm 185 = true := by decide +kernel
set_option maxRecDepth 100000 in
theorem mm_ok186 : mm_okm 186 = true := by decide +kernel
set_option maxRecDepth 100000 in
theorem mm_ok187 : mm_okm 187 = true := by decide +kernel
set_option maxRecDepth 100000 in
theorem mm_ok188 : mm_okm 188 = true := by decide +kernel
set_option maxRecDepth 100000 in
theorem mm_ok189 : mm_okm 189 = true := by decide +kernel
set_option maxRecDepth 100000 in
theorem mm_ok190 : mm_okm 190 = true := by decide +kernel
set_option maxRecDepth 100000 in
theorem mm_ok191 : mm_okm 191 = true := by decide +kernel
set_option maxRecDepth 100000 in
theorem mm_ok192 : mm_okm 192 = true := by decide +kernel
set_option maxRecDepth 100000 in
theorem mm_ok193 : mm_okm 193 = true := by decide +kernel
set_option maxRecDepth 100000 in
theorem mm_ok194 : mm_okm 194 = true := by decide +kernel
set_option maxRecDepth 100000 in
theorem mm_ok195 : mm_okm 195 = true := by decide +kernel
set_option maxRecDepth 100000 in
theorem mm_ok196 : mm_okm 196 = true := by decide +kernel
set_option maxRecDepth 100000 in
theorem mm_ok197 : mm_okm 197 = true := by decide +kernel
set_option maxRecDepth 100000 in
theorem mm_ok198 : mm_okm 198 = true := by decide +kernel
set_option maxRecDepth 100000 in
theorem mm_ok199 : mm_okm 199 = true := by decide +kernel
set_option maxRecDepth 100000 in
theorem mm_ok200 : mm_okm 200 = true := by decide +kernel
set_option maxRecDepth 100000 in
theorem mm_ok201 : mm_okm 201 = true := by decide +kernel
set_option maxRecDepth 100000 in
theorem mm_ok202 : mm_okm 202 = true := by decide +kernel
set_option maxRecDepth 100000 in
theorem mm_ok203 : mm_okm 203 = true := by decide +kernel
set_option maxRecDepth 100000 in
theorem mm_ok204 : mm_okm 204 = true := by decide +kernel
set_option maxRecDepth 100000 in
theorem mm_ok205 : mm_okm 205 = true := by decide +kernel
set_option maxRecDepth 100000 in
theorem mm_ok206 : mm_okm 206 = true := by decide +kernel
