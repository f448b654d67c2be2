theorem ki_m8 : Int32.ofInt (-8) = (-8) := by decide
theorem ki_m1 : Int32.ofInt (-1) = (-1) := by decide
theorem ki_0 : Int32.ofInt 0 = 0 := by decide
theorem ki_1 : Int32.ofInt 1 = 1 := by decide
theorem ki_2 : Int32.ofInt 2 = 2 := by decide
theorem ki_3 : Int32.ofInt 3 = 3 := by decide
theorem ki_4 : Int32.ofInt 4 = 4 := by decide
theorem kb_m126 : (Int8.ofInt (-126)).toInt32 = (-126) := by decide
theorem kb_m3 : (Int8.ofInt (-3)).toInt32 = (-3) := by decide
theorem kb_m2 : (Int8.ofInt (-2)).toInt32 = (-2) := by decide
theorem kb_6 : (Int8.ofInt 6).toInt32 = 6 := by decide
theorem kb_8 : (Int8.ofInt 8).toInt32 = 8 := by decide
theorem kb_9 : (Int8.ofInt 9).toInt32 = 9 := by decide
theorem kb_10 : (Int8.ofInt 10).toInt32 = 10 := by decide
theorem kb_11 : (Int8.ofInt 11).toInt32 = 11 := by decide
theorem kb_12 : (Int8.ofInt 12).toInt32 = 12 := by decide
theorem kb_16 : (Int8.ofInt 16).toInt32 = 16 := by decide
theorem kb_20 : (Int8.ofInt 20).toInt32 = 20 := by decide
theorem kb_24 : (Int8.ofInt 24).toInt32 = 24 := by decide
theorem kb_32 : (Int8.ofInt 32).toInt32 = 32 := by decide
theorem kb_40 : (Int8.ofInt 40).toInt32 = 40 := by decide
theorem kb_41 : (Int8.ofInt 41).toInt32 = 41 := by decide
theorem kb_42 : (Int8.ofInt 42).toInt32 = 42 := by decide
theorem kb_43 : (Int8.ofInt 43).toInt32 = 43 := by decide
theorem kb_44 : (Int8.ofInt 44).toInt32 = 44 := by decide
theorem kb_45 : (Int8.ofInt 45).toInt32 = 45 := by decide
theorem kb_47 : (Int8.ofInt 47).toInt32 = 47 := by decide
theorem kb_48 : (Int8.ofInt 48).toInt32 = 48 := by decide
theorem kb_57 : (Int8.ofInt 57).toInt32 = 57 := by decide
theorem kb_59 : (Int8.ofInt 59).toInt32 = 59 := by decide
theorem kb_60 : (Int8.ofInt 60).toInt32 = 60 := by decide
theorem kb_61 : (Int8.ofInt 61).toInt32 = 61 := by decide
theorem kb_62 : (Int8.ofInt 62).toInt32 = 62 := by decide
theorem kb_63 : (Int8.ofInt 63).toInt32 = 63 := by decide
theorem kb_76 : (Int8.ofInt 76).toInt32 = 76 := by decide
theorem kb_80 : (Int8.ofInt 80).toInt32 = 80 := by decide
theorem kb_97 : (Int8.ofInt 97).toInt32 = 97 := by decide
theorem kb_98 : (Int8.ofInt 98).toInt32 = 98 := by decide
theorem kb_99 : (Int8.ofInt 99).toInt32 = 99 := by decide
theorem kb_100 : (Int8.ofInt 100).toInt32 = 100 := by decide
theorem kb_104 : (Int8.ofInt 104).toInt32 = 104 := by decide
theorem kb_105 : (Int8.ofInt 105).toInt32 = 105 := by decide
theorem kb_106 : (Int8.ofInt 106).toInt32 = 106 := by decide
theorem kb_107 : (Int8.ofInt 107).toInt32 = 107 := by decide
theorem kb_108 : (Int8.ofInt 108).toInt32 = 108 := by decide
theorem kb_109 : (Int8.ofInt 109).toInt32 = 109 := by decide
theorem kb_110 : (Int8.ofInt 110).toInt32 = 110 := by decide
theorem kb_113 : (Int8.ofInt 113).toInt32 = 113 := by decide
theorem kb_115 : (Int8.ofInt 115).toInt32 = 115 := by decide
theorem kb_116 : (Int8.ofInt 116).toInt32 = 116 := by decide
theorem kb_117 : (Int8.ofInt 117).toInt32 = 117 := by decide
theorem kb_119 : (Int8.ofInt 119).toInt32 = 119 := by decide
theorem kb_124 : (Int8.ofInt 124).toInt32 = 124 := by decide
theorem ks_255 : (Int16.ofInt 255).toInt32 = 255 := by decide
theorem ks_256 : (Int16.ofInt 256).toInt32 = 256 := by decide
theorem ks_999 : (Int16.ofInt 999).toInt32 = 999 := by decide
theorem ks_1023 : (Int16.ofInt 1023).toInt32 = 1023 := by decide
theorem ks_1265 : (Int16.ofInt 1265).toInt32 = 1265 := by decide
theorem ks_20000 : (Int16.ofInt 20000).toInt32 = 20000 := by decide
theorem h0 : mTab.mt 0 = some mm0 := rfl
theorem h1 : mTab.mt 1 = some mm1 := rfl
theorem h2 : mTab.mt 2 = some mm2 := rfl
theorem h3 : mTab.mt 3 = some mm3 := rfl
theorem h4 : mTab.mt 4 = some mm4 := rfl
theorem h5 : mTab.mt 5 = some mm5 := rfl
theorem h6 : mTab.mt 6 = some mm6 := rfl
theorem h7 : mTab.mt 7 = some mm7 := rfl
theorem h8 : mTab.mt 8 = some mm8 := rfl
theorem h9 : mTab.mt 9 = some mm9 := rfl
theorem h10 : mTab.mt 10 = some mm10 := rfl
theorem h11 : mTab.mt 11 = some mm11 := rfl
theorem h12 : mTab.mt 12 = some mm12 := rfl
theorem h13 : mTab.mt 13 = some mm13 := rfl
theorem h14 : mTab.mt 14 = some mm14 := rfl
theorem h15 : mTab.mt 15 = some mm15 := rfl
theorem h16 : mTab.mt 16 = some mm16 := rfl
theorem h17 : mTab.mt 17 = some mm17 := rfl
theorem h18 : mTab.mt 18 = some mm18 := rfl
theorem h19 : mTab.mt 19 = some mm19 := rfl
theorem h20 : mTab.mt 20 = some mm20 := rfl
theorem h21 : mTab.mt 21 = some mm21 := rfl
theorem h22 : mTab.mt 22 = some mm22 := rfl
theorem h23 : mTab.mt 23 = some mm23 := rfl
theorem h24 : mTab.mt 24 = some mm24 := rfl
theorem h25 : mTab.mt 25 = some mm25 := rfl
theorem h26 : mTab.mt 26 = some mm26 := rfl
theorem h27 : mTab.mt 27 = some mm27 := rfl
theorem h28 : mTab.mt 28 = some mm28 := rfl
theorem h29 : mTab.mt 29 = some mm29 := rfl
theorem h30 : mTab.mt 30 = some mm30 := rfl
theorem h31 : mTab.mt 31 = some mm31 := rfl
theorem h32 : mTab.mt 32 = some mm32 := rfl
theorem h33 : mTab.mt 33 = some mm33 := rfl
theorem h34 : mTab.mt 34 = some mm34 := rfl
theorem h35 : mTab.mt 35 = some mm35 := rfl
theorem h36 : mTab.mt 36 = some mm36 := rfl
theorem h37 : mTab.mt 37 = some mm37 := rfl
theorem h38 : mTab.mt 38 = some mm38 := rfl
theorem h39 : mTab.mt 39 = some mm39 := rfl
theorem h40 : mTab.mt 40 = some mm40 := rfl
theorem h41 : mTab.mt 41 = some mm41 := rfl
theorem h42 : mTab.mt 42 = some mm42 := rfl
theorem h43 : mTab.mt 43 = some mm43 := rfl
theorem h44 : mTab.mt 44 = some mm44 := rfl
theorem h45 : mTab.mt 45 = some mm45 := rfl
theorem h46 : mTab.mt 46 = some mm46 := rfl
theorem h47 : mTab.mt 47 = some mm47 := rfl
theorem h48 : mTab.mt 48 = some mm48 := rfl
theorem h49 : mTab.mt 49 = some mm49 := rfl
theorem h50 : mTab.mt 50 = some mm50 := rfl
theorem h51 : mTab.mt 51 = some mm51 := rfl
theorem h52 : mTab.mt 52 = some mm52 := rfl
theorem h53 : mTab.mt 53 = some mm53 := rfl
theorem h54 : mTab.mt 54 = some mm54 := rfl
theorem h55 : mTab.mt 55 = some mm55 := rfl
theorem h56 : mTab.mt 56 = some mm56 := rfl
theorem h57 : mTab.mt 57 = some mm57 := rfl
theorem h58 : mTab.mt 58 = some mm58 := rfl
theorem h59 : mTab.mt 59 = some mm59 := rfl
theorem h60 : mTab.mt 60 = some mm60 := rfl
theorem h61 : mTab.mt 61 = some mm61 := rfl
theorem h62 : mTab.mt 62 = some mm62 := rfl
theorem h63 : mTab.mt 63 = some mm63 := rfl
theorem h64 : mTab.mt 64 = some mm64 := rfl
theorem h65 : mTab.mt 65 = some mm65 := rfl
theorem h66 : mTab.mt 66 = some mm66 := rfl
theorem h67 : mTab.mt 67 = some mm67 := rfl
theorem h68 : mTab.mt 68 = some mm68 := rfl
theorem h69 : mTab.mt 69 = some mm69 := rfl
theorem h70 : mTab.mt 70 = some mm70 := rfl
theorem h71 : mTab.mt 71 = some mm71 := rfl
theorem h72 : mTab.mt 72 = some mm72 := rfl
theorem h73 : mTab.mt 73 = some mm73 := rfl
theorem h74 : mTab.mt 74 = some mm74 := rfl
theorem h75 : mTab.mt 75 = some mm75 := rfl
theorem h76 : mTab.mt 76 = some mm76 := rfl
theorem h77 : mTab.mt 77 = some mm77 := rfl
theorem h78 : mTab.mt 78 = some mm78 := rfl
theorem h79 : mTab.mt 79 = some mm79 := rfl
theorem h80 : mTab.mt 80 = some mm80 := rfl
theorem h81 : mTab.mt 81 = some mm81 := rfl
theorem h82 : mTab.mt 82 = some mm82 := rfl
theorem h83 : mTab.mt 83 = some mm83 := rfl
theorem h84 : mTab.mt 84 = some mm84 := rfl
theorem h85 : mTab.mt 85 = some mm85 := rfl
theorem h86 : mTab.mt 86 = some mm86 := rfl
theorem h87 : mTab.mt 87 = some mm87 := rfl
theorem h88 : mTab.mt 88 = some mm88 := rfl
theorem h89 : mTab.mt 89 = some mm89 := rfl
theorem h90 : mTab.mt 90 = some mm90 := rfl
theorem h91 : mTab.mt 91 = some mm91 := rfl
theorem h92 : mTab.mt 92 = some mm92 := rfl
theorem h93 : mTab.mt 93 = some mm93 := rfl
theorem h94 : mTab.mt 94 = some mm94 := rfl
theorem h95 : mTab.mt 95 = some mm95 := rfl
theorem h96 : mTab.mt 96 = some mm96 := rfl
theorem h97 : mTab.mt 97 = some mm97 := rfl
theorem h98 : mTab.mt 98 = some mm98 := rfl
theorem h99 : mTab.mt 99 = some mm99 := rfl
theorem h100 : mTab.mt 100 = some mm100 := rfl
theorem h101 : mTab.mt 101 = some mm101 := rfl
theorem h102 : mTab.mt 102 = some mm102 := rfl
theorem h103 : mTab.mt 103 = some mm103 := rfl
theorem h104 : mTab.mt 104 = some mm104 := rfl
theorem h105 : mTab.mt 105 = some mm105 := rfl
theorem h106 : mTab.mt 106 = some mm106 := rfl
theorem h107 : mTab.mt 107 = some mm107 := rfl
theorem h108 : mTab.mt 108 = some mm108 := rfl
theorem h109 : mTab.mt 109 = some mm109 := rfl
theorem h110 : mTab.mt 110 = some mm110 := rfl
theorem h111 : mTab.mt 111 = some mm111 := rfl
theorem h112 : mTab.mt 112 = some mm112 := rfl
theorem h113 : mTab.mt 113 = some mm113 := rfl
theorem h114 : mTab.mt 114 = some mm114 := rfl
theorem h115 : mTab.mt 115 = some mm115 := rfl
theorem h116 : mTab.mt 116 = some mm116 := rfl
theorem h117 : mTab.mt 117 = some mm117 := rfl
theorem h118 : mTab.mt 118 = some mm118 := rfl
theorem h119 : mTab.mt 119 = some mm119 := rfl
theorem h120 : mTab.mt 120 = some mm120 := rfl
theorem h121 : mTab.mt 121 = some mm121 := rfl
theorem h122 : mTab.mt 122 = some mm122 := rfl
theorem h123 : mTab.mt 123 = some mm123 := rfl
theorem h124 : mTab.mt 124 = some mm124 := rfl
theorem h125 : mTab.mt 125 = some mm125 := rfl
theorem h126 : mTab.mt 126 = some mm126 := rfl
theorem h127 : mTab.mt 127 = some mm127 := rfl
theorem h128 : mTab.mt 128 = some mm128 := rfl
theorem h129 : mTab.mt 129 = some mm129 := rfl
theorem h130 : mTab.mt 130 = some mm130 := rfl
theorem h131 : mTab.mt 131 = some mm131 := rfl
theorem h132 : mTab.mt 132 = some mm132 := rfl
theorem h133 : mTab.mt 133 = some mm133 := rfl
theorem h134 : mTab.mt 134 = some mm134 := rfl
theorem h135 : mTab.mt 135 = some mm135 := rfl
theorem h136 : mTab.mt 136 = some mm136 := rfl
theorem h137 : mTab.mt 137 = some mm137 := rfl
theorem h138 : mTab.mt 138 = some mm138 := rfl
theorem h139 : mTab.mt 139 = some mm139 := rfl
theorem h140 : mTab.mt 140 = some mm140 := rfl
theorem h141 : mTab.mt 141 = some mm141 := rfl
theorem h142 : mTab.mt 142 = some mm142 := rfl
theorem h143 : mTab.mt 143 = some mm143 := rfl
theorem h144 : mTab.mt 144 = some mm144 := rfl
theorem h145 : mTab.mt 145 = some mm145 := rfl
theorem h146 : mTab.mt 146 = some mm146 := rfl
theorem h147 : mTab.mt 147 = some mm147 := rfl
theorem h148 : mTab.mt 148 = some mm148 := rfl
theorem h149 : mTab.mt 149 = some mm149 := rfl
theorem h150 : mTab.mt 150 = some mm150 := rfl
theorem h151 : mTab.mt 151 = some mm151 := rfl
theorem h152 : mTab.mt 152 = some mm152 := rfl
theorem h153 : mTab.mt 153 = some mm153 := rfl
theorem h154 : mTab.mt 154 = some mm154 := rfl
theorem h155 : mTab.mt 155 = some mm155 := rfl
theorem h156 : mTab.mt 156 = some mm156 := rfl
theorem h157 : mTab.mt 157 = some mm157 := rfl
theorem h158 : mTab.mt 158 = some mm158 := rfl
theorem h159 : mTab.mt 159 = some mm159 := rfl
theorem h160 : mTab.mt 160 = some mm160 := rfl
theorem h161 : mTab.mt 161 = some mm161 := rfl
theorem h162 : mTab.mt 162 = some mm162 := rfl
theorem h163 : mTab.mt 163 = some mm163 := rfl
theorem h164 : mTab.mt 164 = some mm164 := rfl
theorem h165 : mTab.mt 165 = some mm165 := rfl
theorem h166 : mTab.mt 166 = some mm166 := rfl
theorem h167 : mTab.mt 167 = some mm167 := rfl
theorem h168 : mTab.mt 168 = some mm168 := rfl
theorem h169 : mTab.mt 169 = some mm169 := rfl
theorem h170 : mTab.mt 170 = some mm170 := rfl
theorem h171 : mTab.mt 171 = some mm171 := rfl
theorem h172 : mTab.mt 172 = some mm172 := rfl
theorem h173 : mTab.mt 173 = some mm173 := rfl
theorem h174 : mTab.mt 174 = some mm174 := rfl
theorem h175 : mTab.mt 175 = some mm175 := rfl
theorem h176 : mTab.mt 176 = some mm176 := rfl
theorem h177 : mTab.mt 177 = some mm177 := rfl
theorem h178 : mTab.mt 178 = some mm178 := rfl
theorem h179 : mTab.mt 179 = some mm179 := rfl
theorem h180 : mTab.mt 180 = some mm180 := rfl
theorem h181 : mTab.mt 181 = some mm181 := rfl
theorem h182 : mTab.mt 182 = some mm182 := rfl
theorem h183 : mTab.mt 183 = some mm183 := rfl
theorem h184 : mTab.mt 184 = some mm184 := rfl
theorem h185 : mTab.mt 185 = some mm185 := rfl
theorem h186 : mTab.mt 186 = some mm186 := rfl
theorem h187 : mTab.mt 187 = some mm187 := rfl
theorem h188 : mTab.mt 188 = some mm188 := rfl
theorem h189 : mTab.mt 189 = some mm189 := rfl
theorem h190 : mTab.mt 190 = some mm190 := rfl
theorem h191 : mTab.mt 191 = some mm191 := rfl
theorem h192 : mTab.mt 192 = some mm192 := rfl
theorem h193 : mTab.mt 193 = some mm193 := rfl
theorem h194 : mTab.mt 194 = some mm194 := rfl
theorem h195 : mTab.mt 195 = some mm195 := rfl
theorem h196 : mTab.mt 196 = some mm196 := rfl
theorem h197 : mTab.mt 197 = some mm197 := rfl
theorem h198 : mTab.mt 198 = some mm198 := rfl
theorem h199 : mTab.mt 199 = some mm199 := rfl
theorem h200 : mTab.mt 200 = some mm200 := rfl
theorem h201 : mTab.mt 201 = some mm201 := rfl
theorem h202 : mTab.mt 202 = some mm202 := rfl
theorem h203 : mTab.mt 203 = some mm203 := rfl
theorem h204 : mTab.mt 204 = some mm204 := rfl
theorem h205 : mTab.mt 205 = some mm205 := rfl
theorem h206 : mTab.mt 206 = some mm206 := rfl
theorem h207 : mTab.mt 207 = some mm207 := rfl
theorem h208 : mTab.mt 208 = some mm208 := rfl
theorem h209 : mTab.mt 209 = some mm209 := rfl
theorem h210 : mTab.mt 210 = some mm210 := rfl
theorem h211 : mTab.mt 211 = some mm211 := rfl
theorem h212 : mTab.mt 212 = some mm212 := rfl
theorem h213 : mTab.mt 213 = some mm213 := rfl
theorem h214 : mTab.mt 214 = some mm214 := rfl
theorem h215 : mTab.mt 215 = some mm215 := rfl
theorem h216 : mTab.mt 216 = some mm216 := rfl
theorem h217 : mTab.mt 217 = some mm217 := rfl
theorem h218 : mTab.mt 218 = some mm218 := rfl
theorem h219 : mTab.mt 219 = some mm219 := rfl
theorem h220 : mTab.mt 220 = some mm220 := rfl
theorem h221 : mTab.mt 221 = some mm221 := rfl
theorem h222 : mTab.mt 222 = some mm222 := rfl
theorem h223 : mTab.mt 223 = some mm223 := rfl
theorem h224 : mTab.mt 224 = some mm224 := rfl
theorem h225 : mTab.mt 225 = some mm225 := rfl
theorem h226 : mTab.mt 226 = some mm226 := rfl
theorem h227 : mTab.mt 227 = some mm227 := rfl
theorem h228 : mTab.mt 228 = some mm228 := rfl
theorem h229 : mTab.mt 229 = some mm229 := rfl
theorem h230 : mTab.mt 230 = some mm230 := rfl
theorem h231 : mTab.mt 231 = some mm231 := rfl
theorem h232 : mTab.mt 232 = some mm232 := rfl
theorem h233 : mTab.mt 233 = some mm233 := rfl
theorem h234 : mTab.mt 234 = some mm234 := rfl
theorem h235 : mTab.mt 235 = some mm235 := rfl
theorem h236 : mTab.mt 236 = some mm236 := rfl
theorem h237 : mTab.mt 237 = some mm237 := rfl
theorem h238 : mTab.mt 238 = some mm238 := rfl
theorem h239 : mTab.mt 239 = some mm239 := rfl
theorem h240 : mTab.mt 240 = some mm240 := rfl
theorem h241 : mTab.mt 241 = some mm241 := rfl
theorem h242 : mTab.mt 242 = some mm242 := rfl
theorem h243 : mTab.mt 243 = some mm243 := rfl
theorem h244 : mTab.mt 244 = some mm244 := rfl
theorem h245 : mTab.mt 245 = some mm245 := rfl
theorem h246 : mTab.mt 246 = some mm246 := rfl
theorem h247 : mTab.mt 247 = some mm247 := rfl
theorem h248 : mTab.mt 248 = some mm248 := rfl
theorem h249 : mTab.mt 249 = some mm249 := rfl
theorem h250 : mTab.mt 250 = some mm250 := rfl
theorem h251 : mTab.mt 251 = some mm251 := rfl
theorem h252 : mTab.mt 252 = some mm252 := rfl
theorem h253 : mTab.mt 253 = some mm253 := rfl
theorem h254 : mTab.mt 254 = some mm254 := rfl
theorem h255 : mTab.mt 255 = some mm255 := rfl
theorem h256 : mTab.mt 256 = some mm256 := rfl
theorem h257 : mTab.mt 257 = some mm257 := rfl
theorem h258 : mTab.mt 258 = some mm258 := rfl
theorem h259 : mTab.mt 259 = some mm259 := rfl
theorem h260 : mTab.mt 260 = some mm260 := rfl
theorem h261 : mTab.mt 261 = some mm261 := rfl
theorem h262 : mTab.mt 262 = some mm262 := rfl
theorem h263 : mTab.mt 263 = some mm263 := rfl
theorem h264 : mTab.mt 264 = some mm264 := rfl
theorem h265 : mTab.mt 265 = some mm265 := rfl
theorem h266 : mTab.mt 266 = some mm266 := rfl
theorem h267 : mTab.mt 267 = some mm267 := rfl
theorem h268 : mTab.mt 268 = some mm268 := rfl
theorem h269 : mTab.mt 269 = some mm269 := rfl
theorem h270 : mTab.mt 270 = some mm270 := rfl
theorem h271 : mTab.mt 271 = some mm271 := rfl
theorem h272 : mTab.mt 272 = some mm272 := rfl
theorem h273 : mTab.mt 273 = some mm273 := rfl
theorem h274 : mTab.mt 274 = some mm274 := rfl
theorem h275 : mTab.mt 275 = some mm275 := rfl
theorem h276 : mTab.mt 276 = some mm276 := rfl
theorem h277 : mTab.mt 277 = some mm277 := rfl
theorem h278 : mTab.mt 278 = some mm278 := rfl
theorem h279 : mTab.mt 279 = some mm279 := rfl
theorem h280 : mTab.mt 280 = some mm280 := rfl
theorem h281 : mTab.mt 281 = some mm281 := rfl
theorem h282 : mTab.mt 282 = some mm282 := rfl
theorem h283 : mTab.mt 283 = some mm283 := rfl
theorem h284 : mTab.mt 284 = some mm284 := rfl
theorem h285 : mTab.mt 285 = some mm285 := rfl
theorem h286 : mTab.mt 286 = some mm286 := rfl
theorem h287 : mTab.mt 287 = some mm287 := rfl
theorem h288 : mTab.mt 288 = some mm288 := rfl
theorem h289 : mTab.mt 289 = some mm289 := rfl
theorem h290 : mTab.mt 290 = some mm290 := rfl
theorem h291 : mTab.mt 291 = some mm291 := rfl
theorem h292 : mTab.mt 292 = some mm292 := rfl
theorem h293 : mTab.mt 293 = some mm293 := rfl
theorem h294 : mTab.mt 294 = some mm294 := rfl
theorem h295 : mTab.mt 295 = some mm295 := rfl
theorem h296 : mTab.mt 296 = some mm296 := rfl
theorem h297 : mTab.mt 297 = some mm297 := rfl
theorem h298 : mTab.mt 298 = some mm298 := rfl
theorem h299 : mTab.mt 299 = some mm299 := rfl
theorem h300 : mTab.mt 300 = some mm300 := rfl
theorem h301 : mTab.mt 301 = some mm301 := rfl
theorem h302 : mTab.mt 302 = some mm302 := rfl
theorem h303 : mTab.mt 303 = some mm303 := rfl
theorem h304 : mTab.mt 304 = some mm304 := rfl
theorem h305 : mTab.mt 305 = some mm305 := rfl
theorem h306 : mTab.mt 306 = some mm306 := rfl
theorem h307 : mTab.mt 307 = some mm307 := rfl
theorem h308 : mTab.mt 308 = some mm308 := rfl
theorem h309 : mTab.mt 309 = some mm309 := rfl
theorem h310 : mTab.mt 310 = some mm310 := rfl
theorem h311 : mTab.mt 311 = some mm311 := rfl
theorem h312 : mTab.mt 312 = some mm312 := rfl
theorem h313 : mTab.mt 313 = some mm313 := rfl
theorem h314 : mTab.mt 314 = some mm314 := rfl
theorem h315 : mTab.mt 315 = some mm315 := rfl
theorem h316 : mTab.mt 316 = some mm316 := rfl
theorem h317 : mTab.mt 317 = some mm317 := rfl
theorem h318 : mTab.mt 318 = some mm318 := rfl
theorem h319 : mTab.mt 319 = some mm319 := rfl
theorem h320 : mTab.mt 320 = some mm320 := rfl
theorem h321 : mTab.mt 321 = some mm321 := rfl
theorem h322 : mTab.mt 322 = some mm322 := rfl
theorem h323 : mTab.mt 323 = some mm323 := rfl
theorem h324 : mTab.mt 324 = some mm324 := rfl
theorem h325 : mTab.mt 325 = some mm325 := rfl
theorem h326 : mTab.mt 326 = some mm326 := rfl
theorem h327 : mTab.mt 327 = some mm327 := rfl
theorem h328 : mTab.mt 328 = some mm328 := rfl
theorem h329 : mTab.mt 329 = some mm329 := rfl
theorem h330 : mTab.mt 330 = some mm330 := rfl
theorem h331 : mTab.mt 331 = some mm331 := rfl
theorem h332 : mTab.mt 332 = some mm332 := rfl
theorem f_0_11 : mTab.fr 0 11 = some (0, 0) := rfl
theorem f_0_15 : mTab.fr 0 15 = some (0, 1) := rfl
theorem f_0_18 : mTab.fr 0 18 = some (0, 2) := rfl
theorem f_0_21 : mTab.fr 0 21 = some (0, 3) := rfl
theorem f_1_9 : mTab.fr 1 9 = some (1, 0) := rfl
theorem f_1_15 : mTab.fr 1 15 = some (1, 1) := rfl
theorem f_1_18 : mTab.fr 1 18 = some (1, 2) := rfl
theorem f_1_21 : mTab.fr 1 21 = some (1, 3) := rfl
theorem f_2_11 : mTab.fr 2 11 = some (2, 0) := rfl
theorem f_2_17 : mTab.fr 2 17 = some (2, 1) := rfl
theorem f_2_20 : mTab.fr 2 20 = some (2, 2) := rfl
theorem f_2_23 : mTab.fr 2 23 = some (2, 3) := rfl
theorem f_2_26 : mTab.fr 2 26 = some (2, 4) := rfl
theorem f_3_11 : mTab.fr 3 11 = some (3, 0) := rfl
theorem f_3_15 : mTab.fr 3 15 = some (3, 3) := rfl
theorem f_3_18 : mTab.fr 3 18 = some (3, 2) := rfl
theorem f_3_22 : mTab.fr 3 22 = some (3, 1) := rfl
theorem f_3_38 : mTab.fr 3 38 = some (3, 4) := rfl
theorem f_4_9 : mTab.fr 4 9 = some (4, 0) := rfl
theorem f_4_15 : mTab.fr 4 15 = some (4, 1) := rfl
theorem f_4_18 : mTab.fr 4 18 = some (4, 2) := rfl
theorem f_4_21 : mTab.fr 4 21 = some (4, 3) := rfl
theorem f_4_60 : mTab.fr 4 60 = some (4, 4) := rfl
theorem f_4_92 : mTab.fr 4 92 = some (4, 5) := rfl
theorem f_4_99 : mTab.fr 4 99 = some (4, 6) := rfl
theorem f_4_102 : mTab.fr 4 102 = some (4, 7) := rfl
theorem f_5_7 : mTab.fr 5 7 = some (5, 0) := rfl
theorem f_5_13 : mTab.fr 5 13 = some (5, 1) := rfl
theorem f_6_9 : mTab.fr 6 9 = some (6, 0) := rfl
theorem f_6_15 : mTab.fr 6 15 = some (6, 3) := rfl
theorem f_6_34 : mTab.fr 6 34 = some (6, 1) := rfl
theorem f_6_38 : mTab.fr 6 38 = some (6, 2) := rfl
theorem f_7_11 : mTab.fr 7 11 = some (7, 0) := rfl
theorem f_7_15 : mTab.fr 7 15 = some (7, 1) := rfl
theorem f_7_18 : mTab.fr 7 18 = some (7, 2) := rfl
theorem f_7_21 : mTab.fr 7 21 = some (7, 3) := rfl
theorem f_7_24 : mTab.fr 7 24 = some (7, 4) := rfl
theorem f_7_43 : mTab.fr 7 43 = some (7, 5) := rfl
theorem f_7_74 : mTab.fr 7 74 = some (7, 6) := rfl
theorem f_8_11 : mTab.fr 8 11 = some (8, 1) := rfl
theorem f_8_15 : mTab.fr 8 15 = some (8, 2) := rfl
theorem f_8_18 : mTab.fr 8 18 = some (8, 3) := rfl
theorem f_8_21 : mTab.fr 8 21 = some (8, 0) := rfl
theorem f_9_11 : mTab.fr 9 11 = some (9, 0) := rfl
theorem f_9_15 : mTab.fr 9 15 = some (9, 4) := rfl
theorem f_9_19 : mTab.fr 9 19 = some (9, 1) := rfl
theorem f_9_28 : mTab.fr 9 28 = some (9, 2) := rfl
theorem f_9_31 : mTab.fr 9 31 = some (9, 3) := rfl
theorem f_10_9 : mTab.fr 10 9 = some (10, 0) := rfl
theorem f_10_15 : mTab.fr 10 15 = some (10, 1) := rfl
theorem f_10_18 : mTab.fr 10 18 = some (10, 4) := rfl
theorem f_10_21 : mTab.fr 10 21 = some (10, 5) := rfl
theorem f_10_24 : mTab.fr 10 24 = some (10, 6) := rfl
theorem f_10_27 : mTab.fr 10 27 = some (10, 7) := rfl
theorem f_10_30 : mTab.fr 10 30 = some (10, 8) := rfl
theorem f_10_33 : mTab.fr 10 33 = some (10, 11) := rfl
theorem f_10_36 : mTab.fr 10 36 = some (10, 12) := rfl
theorem f_10_39 : mTab.fr 10 39 = some (10, 2) := rfl
theorem f_10_43 : mTab.fr 10 43 = some (10, 9) := rfl
theorem f_10_65 : mTab.fr 10 65 = some (10, 3) := rfl
theorem f_10_68 : mTab.fr 10 68 = some (10, 10) := rfl
theorem f_11_10 : mTab.fr 11 10 = some (11, 0) := rfl
theorem f_11_19 : mTab.fr 11 19 = some (11, 1) := rfl
theorem f_11_26 : mTab.fr 11 26 = some (11, 2) := rfl
theorem f_11_33 : mTab.fr 11 33 = some (11, 3) := rfl
theorem f_11_37 : mTab.fr 11 37 = some (11, 4) := rfl
theorem f_11_40 : mTab.fr 11 40 = some (11, 5) := rfl
theorem f_11_43 : mTab.fr 11 43 = some (11, 6) := rfl
theorem f_11_46 : mTab.fr 11 46 = some (11, 7) := rfl
theorem f_11_52 : mTab.fr 11 52 = some (11, 8) := rfl
theorem f_11_61 : mTab.fr 11 61 = some (11, 9) := rfl
theorem f_11_65 : mTab.fr 11 65 = some (11, 10) := rfl
theorem f_11_71 : mTab.fr 11 71 = some (11, 11) := rfl
theorem f_11_78 : mTab.fr 11 78 = some (11, 12) := rfl
theorem f_11_85 : mTab.fr 11 85 = some (11, 13) := rfl
theorem f_11_92 : mTab.fr 11 92 = some (11, 14) := rfl
theorem f_11_99 : mTab.fr 11 99 = some (11, 15) := rfl
theorem f_12_9 : mTab.fr 12 9 = some (12, 0) := rfl
theorem f_12_13 : mTab.fr 12 13 = some (12, 2) := rfl
theorem f_12_16 : mTab.fr 12 16 = some (12, 3) := rfl
theorem f_12_19 : mTab.fr 12 19 = some (12, 4) := rfl
theorem f_12_22 : mTab.fr 12 22 = some (12, 5) := rfl
theorem f_12_25 : mTab.fr 12 25 = some (12, 7) := rfl
theorem f_12_28 : mTab.fr 12 28 = some (12, 8) := rfl
theorem f_12_31 : mTab.fr 12 31 = some (12, 9) := rfl
theorem f_12_34 : mTab.fr 12 34 = some (12, 10) := rfl
theorem f_12_37 : mTab.fr 12 37 = some (12, 11) := rfl
theorem f_12_40 : mTab.fr 12 40 = some (12, 12) := rfl
theorem f_12_43 : mTab.fr 12 43 = some (12, 14) := rfl
theorem f_12_47 : mTab.fr 12 47 = some (12, 16) := rfl
theorem f_12_50 : mTab.fr 12 50 = some (12, 24) := rfl
theorem f_12_53 : mTab.fr 12 53 = some (12, 25) := rfl
theorem f_12_56 : mTab.fr 12 56 = some (12, 26) := rfl
theorem f_12_59 : mTab.fr 12 59 = some (12, 28) := rfl
theorem f_12_63 : mTab.fr 12 63 = some (12, 30) := rfl
theorem f_12_66 : mTab.fr 12 66 = some (12, 32) := rfl
theorem f_12_69 : mTab.fr 12 69 = some (12, 33) := rfl
theorem f_12_72 : mTab.fr 12 72 = some (12, 34) := rfl
theorem f_12_75 : mTab.fr 12 75 = some (12, 35) := rfl
theorem f_12_78 : mTab.fr 12 78 = some (12, 36) := rfl
theorem f_12_81 : mTab.fr 12 81 = some (12, 37) := rfl
theorem f_12_85 : mTab.fr 12 85 = some (12, 39) := rfl
theorem f_12_88 : mTab.fr 12 88 = some (12, 40) := rfl
theorem f_12_91 : mTab.fr 12 91 = some (12, 41) := rfl
theorem f_12_94 : mTab.fr 12 94 = some (12, 44) := rfl
theorem f_12_97 : mTab.fr 12 97 = some (12, 45) := rfl
theorem f_12_101 : mTab.fr 12 101 = some (12, 46) := rfl
theorem f_12_104 : mTab.fr 12 104 = some (12, 18) := rfl
theorem f_12_107 : mTab.fr 12 107 = some (12, 17) := rfl
theorem f_12_110 : mTab.fr 12 110 = some (12, 6) := rfl
theorem f_12_117 : mTab.fr 12 117 = some (12, 1) := rfl
theorem f_12_120 : mTab.fr 12 120 = some (12, 15) := rfl
theorem f_12_123 : mTab.fr 12 123 = some (12, 19) := rfl
theorem f_12_126 : mTab.fr 12 126 = some (12, 20) := rfl
theorem f_12_129 : mTab.fr 12 129 = some (12, 21) := rfl
theorem f_12_132 : mTab.fr 12 132 = some (12, 22) := rfl
theorem f_12_135 : mTab.fr 12 135 = some (12, 23) := rfl
theorem f_12_170 : mTab.fr 12 170 = some (12, 31) := rfl
theorem f_12_173 : mTab.fr 12 173 = some (12, 43) := rfl
theorem f_12_202 : mTab.fr 12 202 = some (12, 27) := rfl
theorem f_12_205 : mTab.fr 12 205 = some (12, 29) := rfl
theorem f_12_243 : mTab.fr 12 243 = some (12, 13) := rfl
theorem f_12_342 : mTab.fr 12 342 = some (12, 38) := rfl
theorem f_12_361 : mTab.fr 12 361 = some (12, 42) := rfl
theorem pI_1_0 : ((mTab.sh 1).1 = 11 ∧ 0 < (mTab.sh 1).2) ∧ mTab.rf 1 0 = 2 := by decide +kernel
theorem pI_1_1 : ((mTab.sh 1).1 = 11 ∧ 1 < (mTab.sh 1).2) ∧ mTab.rf 1 1 = 4 := by decide +kernel
theorem pI_1_2 : ((mTab.sh 1).1 = 11 ∧ 2 < (mTab.sh 1).2) ∧ mTab.rf 1 2 = 6 := by decide +kernel
theorem pI_1_3 : ((mTab.sh 1).1 = 11 ∧ 3 < (mTab.sh 1).2) ∧ mTab.rf 1 3 = 16 := by decide +kernel
theorem pI_1_4 : ((mTab.sh 1).1 = 11 ∧ 4 < (mTab.sh 1).2) ∧ mTab.rf 1 4 = 19 := by decide +kernel
theorem pI_1_5 : ((mTab.sh 1).1 = 11 ∧ 5 < (mTab.sh 1).2) ∧ mTab.rf 1 5 = 22 := by decide +kernel
theorem pI_1_6 : ((mTab.sh 1).1 = 11 ∧ 6 < (mTab.sh 1).2) ∧ mTab.rf 1 6 = 25 := by decide +kernel
theorem pI_1_7 : ((mTab.sh 1).1 = 11 ∧ 7 < (mTab.sh 1).2) ∧ mTab.rf 1 7 = 28 := by decide +kernel
theorem pI_1_8 : ((mTab.sh 1).1 = 11 ∧ 8 < (mTab.sh 1).2) ∧ mTab.rf 1 8 = 31 := by decide +kernel
theorem pI_1_9 : ((mTab.sh 1).1 = 11 ∧ 9 < (mTab.sh 1).2) ∧ mTab.rf 1 9 = 36 := by decide +kernel
theorem pI_1_10 : ((mTab.sh 1).1 = 11 ∧ 10 < (mTab.sh 1).2) ∧ mTab.rf 1 10 = 40 := by decide +kernel
theorem pI_1_11 : ((mTab.sh 1).1 = 11 ∧ 11 < (mTab.sh 1).2) ∧ mTab.rf 1 11 = 44 := by decide +kernel
theorem pI_1_12 : ((mTab.sh 1).1 = 11 ∧ 12 < (mTab.sh 1).2) ∧ mTab.rf 1 12 = 47 := by decide +kernel
theorem pI_1_13 : ((mTab.sh 1).1 = 11 ∧ 13 < (mTab.sh 1).2) ∧ mTab.rf 1 13 = 53 := by decide +kernel
theorem pI_1_14 : ((mTab.sh 1).1 = 11 ∧ 14 < (mTab.sh 1).2) ∧ mTab.rf 1 14 = 58 := by decide +kernel
theorem pI_1_15 : ((mTab.sh 1).1 = 11 ∧ 15 < (mTab.sh 1).2) ∧ mTab.rf 1 15 = 63 := by decide +kernel
theorem pI_2_0 : ((mTab.sh 2).1 = 9 ∧ 0 < (mTab.sh 2).2) ∧ mTab.rf 2 0 = 3 := by decide +kernel
theorem pI_2_1 : ((mTab.sh 2).1 = 9 ∧ 1 < (mTab.sh 2).2) ∧ mTab.rf 2 1 = 0 ∧ mTab.mr 2 1 = false := by decide +kernel
theorem pI_2_2 : ((mTab.sh 2).1 = 9 ∧ 2 < (mTab.sh 2).2) ∧ mTab.rf 2 2 = 0 ∧ mTab.mr 2 2 = false := by decide +kernel
theorem pI_2_3 : ((mTab.sh 2).1 = 9 ∧ 3 < (mTab.sh 2).2) ∧ mTab.rf 2 3 = 0 ∧ mTab.mr 2 3 = false := by decide +kernel
theorem pI_2_4 : ((mTab.sh 2).1 = 9 ∧ 4 < (mTab.sh 2).2) ∧ mTab.rf 2 4 = 0 ∧ mTab.mr 2 4 = false := by decide +kernel
theorem pI_4_0 : ((mTab.sh 4).1 = 5 ∧ 0 < (mTab.sh 4).2) ∧ mTab.rf 4 0 = 5 := by decide +kernel
theorem pI_4_1 : ((mTab.sh 4).1 = 5 ∧ 1 < (mTab.sh 4).2) ∧ mTab.rf 4 1 = 0 ∧ mTab.mr 4 1 = false := by decide +kernel
theorem pI_6_0 : ((mTab.sh 6).1 = 10 ∧ 0 < (mTab.sh 6).2) ∧ mTab.rf 6 0 = 7 := by decide +kernel
theorem pI_6_1 : ((mTab.sh 6).1 = 10 ∧ 1 < (mTab.sh 6).2) ∧ mTab.rf 6 1 = 8 := by decide +kernel
theorem pI_6_2 : ((mTab.sh 6).1 = 10 ∧ 2 < (mTab.sh 6).2) ∧ mTab.rf 6 2 = 0 ∧ mTab.mr 6 2 = false := by decide +kernel
theorem pI_6_3 : ((mTab.sh 6).1 = 10 ∧ 3 < (mTab.sh 6).2) ∧ mTab.rf 6 3 = 0 ∧ mTab.mr 6 3 = false := by decide +kernel
theorem pI_6_4 : ((mTab.sh 6).1 = 10 ∧ 4 < (mTab.sh 6).2) ∧ mTab.rf 6 4 = 9 := by decide +kernel
theorem pI_6_5 : ((mTab.sh 6).1 = 10 ∧ 5 < (mTab.sh 6).2) ∧ mTab.rf 6 5 = 10 := by decide +kernel
theorem pI_6_6 : ((mTab.sh 6).1 = 10 ∧ 6 < (mTab.sh 6).2) ∧ mTab.rf 6 6 = 11 := by decide +kernel
theorem pI_6_7 : ((mTab.sh 6).1 = 10 ∧ 7 < (mTab.sh 6).2) ∧ mTab.rf 6 7 = 12 := by decide +kernel
theorem pI_6_8 : ((mTab.sh 6).1 = 10 ∧ 8 < (mTab.sh 6).2) ∧ mTab.rf 6 8 = 13 := by decide +kernel
theorem pI_6_9 : ((mTab.sh 6).1 = 10 ∧ 9 < (mTab.sh 6).2) ∧ mTab.rf 6 9 = 0 ∧ mTab.mr 6 9 = false := by decide +kernel
theorem pI_6_10 : ((mTab.sh 6).1 = 10 ∧ 10 < (mTab.sh 6).2) ∧ mTab.rf 6 10 = 0 ∧ mTab.mr 6 10 = false := by decide +kernel
theorem pI_6_11 : ((mTab.sh 6).1 = 10 ∧ 11 < (mTab.sh 6).2) ∧ mTab.rf 6 11 = 14 := by decide +kernel
theorem pI_6_12 : ((mTab.sh 6).1 = 10 ∧ 12 < (mTab.sh 6).2) ∧ mTab.rf 6 12 = 15 := by decide +kernel
theorem pI_16_0 : ((mTab.sh 16).1 = 6 ∧ 0 < (mTab.sh 16).2) ∧ mTab.rf 16 0 = 17 := by decide +kernel
theorem pI_16_1 : ((mTab.sh 16).1 = 6 ∧ 1 < (mTab.sh 16).2) ∧ mTab.rf 16 1 = 0 ∧ mTab.mr 16 1 = false := by decide +kernel
theorem pI_16_2 : ((mTab.sh 16).1 = 6 ∧ 2 < (mTab.sh 16).2) ∧ mTab.rf 16 2 = 0 ∧ mTab.mr 16 2 = false := by decide +kernel
theorem pI_16_3 : ((mTab.sh 16).1 = 6 ∧ 3 < (mTab.sh 16).2) ∧ mTab.rf 16 3 = 18 := by decide +kernel
theorem pI_19_0 : ((mTab.sh 19).1 = 6 ∧ 0 < (mTab.sh 19).2) ∧ mTab.rf 19 0 = 20 := by decide +kernel
theorem pI_19_1 : ((mTab.sh 19).1 = 6 ∧ 1 < (mTab.sh 19).2) ∧ mTab.rf 19 1 = 0 ∧ mTab.mr 19 1 = false := by decide +kernel
theorem pI_19_2 : ((mTab.sh 19).1 = 6 ∧ 2 < (mTab.sh 19).2) ∧ mTab.rf 19 2 = 0 ∧ mTab.mr 19 2 = false := by decide +kernel
theorem pI_22_0 : ((mTab.sh 22).1 = 6 ∧ 0 < (mTab.sh 22).2) ∧ mTab.rf 22 0 = 23 := by decide +kernel
theorem pI_22_1 : ((mTab.sh 22).1 = 6 ∧ 1 < (mTab.sh 22).2) ∧ mTab.rf 22 1 = 0 ∧ mTab.mr 22 1 = false := by decide +kernel
theorem pI_22_2 : ((mTab.sh 22).1 = 6 ∧ 2 < (mTab.sh 22).2) ∧ mTab.rf 22 2 = 0 ∧ mTab.mr 22 2 = false := by decide +kernel
theorem pI_22_3 : ((mTab.sh 22).1 = 6 ∧ 3 < (mTab.sh 22).2) ∧ mTab.rf 22 3 = 24 := by decide +kernel
theorem pI_25_0 : ((mTab.sh 25).1 = 6 ∧ 0 < (mTab.sh 25).2) ∧ mTab.rf 25 0 = 26 := by decide +kernel
theorem pI_25_1 : ((mTab.sh 25).1 = 6 ∧ 1 < (mTab.sh 25).2) ∧ mTab.rf 25 1 = 0 ∧ mTab.mr 25 1 = false := by decide +kernel
theorem pI_25_2 : ((mTab.sh 25).1 = 6 ∧ 2 < (mTab.sh 25).2) ∧ mTab.rf 25 2 = 0 ∧ mTab.mr 25 2 = false := by decide +kernel
theorem pI_25_3 : ((mTab.sh 25).1 = 6 ∧ 3 < (mTab.sh 25).2) ∧ mTab.rf 25 3 = 27 := by decide +kernel
theorem pI_28_0 : ((mTab.sh 28).1 = 6 ∧ 0 < (mTab.sh 28).2) ∧ mTab.rf 28 0 = 29 := by decide +kernel
theorem pI_28_1 : ((mTab.sh 28).1 = 6 ∧ 1 < (mTab.sh 28).2) ∧ mTab.rf 28 1 = 0 ∧ mTab.mr 28 1 = false := by decide +kernel
theorem pI_28_2 : ((mTab.sh 28).1 = 6 ∧ 2 < (mTab.sh 28).2) ∧ mTab.rf 28 2 = 0 ∧ mTab.mr 28 2 = false := by decide +kernel
theorem pI_28_3 : ((mTab.sh 28).1 = 6 ∧ 3 < (mTab.sh 28).2) ∧ mTab.rf 28 3 = 30 := by decide +kernel
theorem pI_31_0 : ((mTab.sh 31).1 = 2 ∧ 0 < (mTab.sh 31).2) ∧ mTab.rf 31 0 = 32 := by decide +kernel
theorem pI_31_1 : ((mTab.sh 31).1 = 2 ∧ 1 < (mTab.sh 31).2) ∧ mTab.rf 31 1 = 33 := by decide +kernel
theorem pI_31_2 : ((mTab.sh 31).1 = 2 ∧ 2 < (mTab.sh 31).2) ∧ mTab.rf 31 2 = 34 := by decide +kernel
theorem pI_31_3 : ((mTab.sh 31).1 = 2 ∧ 3 < (mTab.sh 31).2) ∧ mTab.rf 31 3 = 35 := by decide +kernel
theorem pI_31_4 : ((mTab.sh 31).1 = 2 ∧ 4 < (mTab.sh 31).2) ∧ mTab.rf 31 4 = 0 ∧ mTab.mr 31 4 = false := by decide +kernel
theorem pI_36_0 : ((mTab.sh 36).1 = 8 ∧ 0 < (mTab.sh 36).2) ∧ mTab.rf 36 0 = 6 := by decide +kernel
theorem pI_36_1 : ((mTab.sh 36).1 = 8 ∧ 1 < (mTab.sh 36).2) ∧ mTab.rf 36 1 = 37 := by decide +kernel
theorem pI_36_2 : ((mTab.sh 36).1 = 8 ∧ 2 < (mTab.sh 36).2) ∧ mTab.rf 36 2 = 38 := by decide +kernel
theorem pI_36_3 : ((mTab.sh 36).1 = 8 ∧ 3 < (mTab.sh 36).2) ∧ mTab.rf 36 3 = 39 := by decide +kernel
theorem pI_40_0 : ((mTab.sh 40).1 = 8 ∧ 0 < (mTab.sh 40).2) ∧ mTab.rf 40 0 = 6 := by decide +kernel
theorem pI_40_1 : ((mTab.sh 40).1 = 8 ∧ 1 < (mTab.sh 40).2) ∧ mTab.rf 40 1 = 41 := by decide +kernel
theorem pI_40_2 : ((mTab.sh 40).1 = 8 ∧ 2 < (mTab.sh 40).2) ∧ mTab.rf 40 2 = 42 := by decide +kernel
theorem pI_44_0 : ((mTab.sh 44).1 = 3 ∧ 0 < (mTab.sh 44).2) ∧ mTab.rf 44 0 = 45 := by decide +kernel
theorem pI_44_1 : ((mTab.sh 44).1 = 3 ∧ 1 < (mTab.sh 44).2) ∧ mTab.rf 44 1 = 0 ∧ mTab.mr 44 1 = false := by decide +kernel
theorem pI_44_2 : ((mTab.sh 44).1 = 3 ∧ 2 < (mTab.sh 44).2) ∧ mTab.rf 44 2 = 0 ∧ mTab.mr 44 2 = false := by decide +kernel
theorem pI_44_3 : ((mTab.sh 44).1 = 3 ∧ 3 < (mTab.sh 44).2) ∧ mTab.rf 44 3 = 46 := by decide +kernel
theorem pI_44_4 : ((mTab.sh 44).1 = 3 ∧ 4 < (mTab.sh 44).2) ∧ mTab.rf 44 4 = 0 ∧ mTab.mr 44 4 = false := by decide +kernel
theorem pI_47_0 : ((mTab.sh 47).1 = 7 ∧ 0 < (mTab.sh 47).2) ∧ mTab.rf 47 0 = 48 := by decide +kernel
theorem pI_47_1 : ((mTab.sh 47).1 = 7 ∧ 1 < (mTab.sh 47).2) ∧ mTab.rf 47 1 = 49 := by decide +kernel
theorem pI_47_2 : ((mTab.sh 47).1 = 7 ∧ 2 < (mTab.sh 47).2) ∧ mTab.rf 47 2 = 50 := by decide +kernel
theorem pI_47_3 : ((mTab.sh 47).1 = 7 ∧ 3 < (mTab.sh 47).2) ∧ mTab.rf 47 3 = 51 := by decide +kernel
theorem pI_47_4 : ((mTab.sh 47).1 = 7 ∧ 4 < (mTab.sh 47).2) ∧ mTab.rf 47 4 = 52 := by decide +kernel
theorem pI_47_5 : ((mTab.sh 47).1 = 7 ∧ 5 < (mTab.sh 47).2) ∧ mTab.rf 47 5 = 0 ∧ mTab.mr 47 5 = false := by decide +kernel
theorem pI_47_6 : ((mTab.sh 47).1 = 7 ∧ 6 < (mTab.sh 47).2) ∧ mTab.rf 47 6 = 0 ∧ mTab.mr 47 6 = false := by decide +kernel
theorem pI_53_0 : ((mTab.sh 53).1 = 4 ∧ 0 < (mTab.sh 53).2) ∧ mTab.rf 53 0 = 54 := by decide +kernel
theorem pI_53_1 : ((mTab.sh 53).1 = 4 ∧ 1 < (mTab.sh 53).2) ∧ mTab.rf 53 1 = 55 := by decide +kernel
theorem pI_53_2 : ((mTab.sh 53).1 = 4 ∧ 2 < (mTab.sh 53).2) ∧ mTab.rf 53 2 = 56 := by decide +kernel
theorem pI_53_3 : ((mTab.sh 53).1 = 4 ∧ 3 < (mTab.sh 53).2) ∧ mTab.rf 53 3 = 57 := by decide +kernel
theorem pI_53_4 : ((mTab.sh 53).1 = 4 ∧ 4 < (mTab.sh 53).2) ∧ mTab.rf 53 4 = 0 ∧ mTab.mr 53 4 = false := by decide +kernel
theorem pI_53_5 : ((mTab.sh 53).1 = 4 ∧ 5 < (mTab.sh 53).2) ∧ mTab.rf 53 5 = 0 ∧ mTab.mr 53 5 = false := by decide +kernel
theorem pI_53_6 : ((mTab.sh 53).1 = 4 ∧ 6 < (mTab.sh 53).2) ∧ mTab.rf 53 6 = 0 ∧ mTab.mr 53 6 = false := by decide +kernel
theorem pI_53_7 : ((mTab.sh 53).1 = 4 ∧ 7 < (mTab.sh 53).2) ∧ mTab.rf 53 7 = 0 ∧ mTab.mr 53 7 = false := by decide +kernel
theorem pI_58_0 : ((mTab.sh 58).1 = 1 ∧ 0 < (mTab.sh 58).2) ∧ mTab.rf 58 0 = 59 := by decide +kernel
theorem pI_58_1 : ((mTab.sh 58).1 = 1 ∧ 1 < (mTab.sh 58).2) ∧ mTab.rf 58 1 = 60 := by decide +kernel
theorem pI_58_2 : ((mTab.sh 58).1 = 1 ∧ 2 < (mTab.sh 58).2) ∧ mTab.rf 58 2 = 61 := by decide +kernel
theorem pI_58_3 : ((mTab.sh 58).1 = 1 ∧ 3 < (mTab.sh 58).2) ∧ mTab.rf 58 3 = 62 := by decide +kernel
theorem pI_63_0 : ((mTab.sh 63).1 = 0 ∧ 0 < (mTab.sh 63).2) ∧ mTab.rf 63 0 = 64 := by decide +kernel
theorem pI_63_1 : ((mTab.sh 63).1 = 0 ∧ 1 < (mTab.sh 63).2) ∧ mTab.rf 63 1 = 65 := by decide +kernel
theorem pI_63_2 : ((mTab.sh 63).1 = 0 ∧ 2 < (mTab.sh 63).2) ∧ mTab.rf 63 2 = 66 := by decide +kernel
theorem pI_63_3 : ((mTab.sh 63).1 = 0 ∧ 3 < (mTab.sh 63).2) ∧ mTab.rf 63 3 = 0 ∧ mTab.mr 63 3 = false := by decide +kernel
theorem pI_67_0 : ((mTab.sh 67).1 = 12 ∧ 0 < (mTab.sh 67).2) ∧ mTab.rf 67 0 = 68 := by decide +kernel
theorem pI_67_1 : ((mTab.sh 67).1 = 12 ∧ 1 < (mTab.sh 67).2) ∧ mTab.rf 67 1 = 0 ∧ mTab.mr 67 1 = false := by decide +kernel
theorem pI_67_2 : ((mTab.sh 67).1 = 12 ∧ 2 < (mTab.sh 67).2) ∧ mTab.rf 67 2 = 69 := by decide +kernel
theorem pI_67_3 : ((mTab.sh 67).1 = 12 ∧ 3 < (mTab.sh 67).2) ∧ mTab.rf 67 3 = 70 := by decide +kernel
theorem pI_67_4 : ((mTab.sh 67).1 = 12 ∧ 4 < (mTab.sh 67).2) ∧ mTab.rf 67 4 = 71 := by decide +kernel
theorem pI_67_5 : ((mTab.sh 67).1 = 12 ∧ 5 < (mTab.sh 67).2) ∧ mTab.rf 67 5 = 72 := by decide +kernel
theorem pI_67_6 : ((mTab.sh 67).1 = 12 ∧ 6 < (mTab.sh 67).2) ∧ mTab.rf 67 6 = 0 ∧ mTab.mr 67 6 = false := by decide +kernel
theorem pI_67_7 : ((mTab.sh 67).1 = 12 ∧ 7 < (mTab.sh 67).2) ∧ mTab.rf 67 7 = 73 := by decide +kernel
theorem pI_67_8 : ((mTab.sh 67).1 = 12 ∧ 8 < (mTab.sh 67).2) ∧ mTab.rf 67 8 = 74 := by decide +kernel
theorem pI_67_9 : ((mTab.sh 67).1 = 12 ∧ 9 < (mTab.sh 67).2) ∧ mTab.rf 67 9 = 75 := by decide +kernel
theorem pI_67_10 : ((mTab.sh 67).1 = 12 ∧ 10 < (mTab.sh 67).2) ∧ mTab.rf 67 10 = 76 := by decide +kernel
theorem pI_67_11 : ((mTab.sh 67).1 = 12 ∧ 11 < (mTab.sh 67).2) ∧ mTab.rf 67 11 = 77 := by decide +kernel
theorem pI_67_12 : ((mTab.sh 67).1 = 12 ∧ 12 < (mTab.sh 67).2) ∧ mTab.rf 67 12 = 78 := by decide +kernel
theorem pI_67_13 : ((mTab.sh 67).1 = 12 ∧ 13 < (mTab.sh 67).2) ∧ mTab.rf 67 13 = 0 ∧ mTab.mr 67 13 = false := by decide +kernel
theorem pI_67_14 : ((mTab.sh 67).1 = 12 ∧ 14 < (mTab.sh 67).2) ∧ mTab.rf 67 14 = 79 := by decide +kernel
theorem pI_67_15 : ((mTab.sh 67).1 = 12 ∧ 15 < (mTab.sh 67).2) ∧ mTab.rf 67 15 = 0 ∧ mTab.mr 67 15 = false := by decide +kernel
theorem pI_67_16 : ((mTab.sh 67).1 = 12 ∧ 16 < (mTab.sh 67).2) ∧ mTab.rf 67 16 = 80 := by decide +kernel
theorem pI_67_17 : ((mTab.sh 67).1 = 12 ∧ 17 < (mTab.sh 67).2) ∧ mTab.rf 67 17 = 0 ∧ mTab.mr 67 17 = false := by decide +kernel
theorem pI_67_18 : ((mTab.sh 67).1 = 12 ∧ 18 < (mTab.sh 67).2) ∧ mTab.rf 67 18 = 0 ∧ mTab.mr 67 18 = false := by decide +kernel
theorem pI_67_19 : ((mTab.sh 67).1 = 12 ∧ 19 < (mTab.sh 67).2) ∧ mTab.rf 67 19 = 0 ∧ mTab.mr 67 19 = true := by decide +kernel
theorem pI_67_20 : ((mTab.sh 67).1 = 12 ∧ 20 < (mTab.sh 67).2) ∧ mTab.rf 67 20 = 0 ∧ mTab.mr 67 20 = false := by decide +kernel
theorem pI_67_21 : ((mTab.sh 67).1 = 12 ∧ 21 < (mTab.sh 67).2) ∧ mTab.rf 67 21 = 0 ∧ mTab.mr 67 21 = false := by decide +kernel
theorem pI_67_22 : ((mTab.sh 67).1 = 12 ∧ 22 < (mTab.sh 67).2) ∧ mTab.rf 67 22 = 0 ∧ mTab.mr 67 22 = false := by decide +kernel
theorem pI_67_23 : ((mTab.sh 67).1 = 12 ∧ 23 < (mTab.sh 67).2) ∧ mTab.rf 67 23 = 0 ∧ mTab.mr 67 23 = false := by decide +kernel
theorem pI_67_24 : ((mTab.sh 67).1 = 12 ∧ 24 < (mTab.sh 67).2) ∧ mTab.rf 67 24 = 81 := by decide +kernel
theorem pI_67_25 : ((mTab.sh 67).1 = 12 ∧ 25 < (mTab.sh 67).2) ∧ mTab.rf 67 25 = 82 := by decide +kernel
theorem pI_67_26 : ((mTab.sh 67).1 = 12 ∧ 26 < (mTab.sh 67).2) ∧ mTab.rf 67 26 = 83 := by decide +kernel
theorem pI_67_27 : ((mTab.sh 67).1 = 12 ∧ 27 < (mTab.sh 67).2) ∧ mTab.rf 67 27 = 0 ∧ mTab.mr 67 27 = false := by decide +kernel
theorem pI_67_28 : ((mTab.sh 67).1 = 12 ∧ 28 < (mTab.sh 67).2) ∧ mTab.rf 67 28 = 0 ∧ mTab.mr 67 28 = false := by decide +kernel
theorem pI_67_29 : ((mTab.sh 67).1 = 12 ∧ 29 < (mTab.sh 67).2) ∧ mTab.rf 67 29 = 0 ∧ mTab.mr 67 29 = false := by decide +kernel
theorem pI_67_30 : ((mTab.sh 67).1 = 12 ∧ 30 < (mTab.sh 67).2) ∧ mTab.rf 67 30 = 84 := by decide +kernel
theorem pI_67_31 : ((mTab.sh 67).1 = 12 ∧ 31 < (mTab.sh 67).2) ∧ mTab.rf 67 31 = 0 ∧ mTab.mr 67 31 = false := by decide +kernel
theorem pI_67_32 : ((mTab.sh 67).1 = 12 ∧ 32 < (mTab.sh 67).2) ∧ mTab.rf 67 32 = 85 := by decide +kernel
theorem pI_67_33 : ((mTab.sh 67).1 = 12 ∧ 33 < (mTab.sh 67).2) ∧ mTab.rf 67 33 = 86 := by decide +kernel
theorem pI_67_34 : ((mTab.sh 67).1 = 12 ∧ 34 < (mTab.sh 67).2) ∧ mTab.rf 67 34 = 87 := by decide +kernel
theorem pI_67_35 : ((mTab.sh 67).1 = 12 ∧ 35 < (mTab.sh 67).2) ∧ mTab.rf 67 35 = 88 := by decide +kernel
theorem pI_67_36 : ((mTab.sh 67).1 = 12 ∧ 36 < (mTab.sh 67).2) ∧ mTab.rf 67 36 = 89 := by decide +kernel
theorem pI_67_37 : ((mTab.sh 67).1 = 12 ∧ 37 < (mTab.sh 67).2) ∧ mTab.rf 67 37 = 90 := by decide +kernel
theorem pI_67_38 : ((mTab.sh 67).1 = 12 ∧ 38 < (mTab.sh 67).2) ∧ mTab.rf 67 38 = 0 ∧ mTab.mr 67 38 = false := by decide +kernel
theorem pI_67_39 : ((mTab.sh 67).1 = 12 ∧ 39 < (mTab.sh 67).2) ∧ mTab.rf 67 39 = 91 := by decide +kernel
theorem pI_67_40 : ((mTab.sh 67).1 = 12 ∧ 40 < (mTab.sh 67).2) ∧ mTab.rf 67 40 = 92 := by decide +kernel
theorem pI_67_41 : ((mTab.sh 67).1 = 12 ∧ 41 < (mTab.sh 67).2) ∧ mTab.rf 67 41 = 93 := by decide +kernel
theorem pI_67_42 : ((mTab.sh 67).1 = 12 ∧ 42 < (mTab.sh 67).2) ∧ mTab.rf 67 42 = 0 ∧ mTab.mr 67 42 = false := by decide +kernel
theorem pI_67_43 : ((mTab.sh 67).1 = 12 ∧ 43 < (mTab.sh 67).2) ∧ mTab.rf 67 43 = 0 ∧ mTab.mr 67 43 = false := by decide +kernel
theorem pI_67_44 : ((mTab.sh 67).1 = 12 ∧ 44 < (mTab.sh 67).2) ∧ mTab.rf 67 44 = 94 := by decide +kernel
theorem pI_67_45 : ((mTab.sh 67).1 = 12 ∧ 45 < (mTab.sh 67).2) ∧ mTab.rf 67 45 = 95 := by decide +kernel
theorem pI_67_46 : ((mTab.sh 67).1 = 12 ∧ 46 < (mTab.sh 67).2) ∧ mTab.rf 67 46 = 96 := by decide +kernel
theorem sh_3 : mTab.sh 3 = (21, 80) := rfl
theorem sh_5 : mTab.sh 5 = (20, 16) := rfl
theorem sh_7 : mTab.sh 7 = (20, 10) := rfl
theorem sh_8 : mTab.sh 8 = (20, 10) := rfl
theorem sh_9 : mTab.sh 9 = (20, 12) := rfl
theorem sh_10 : mTab.sh 10 = (20, 12) := rfl
theorem sh_11 : mTab.sh 11 = (20, 96) := rfl
theorem sh_12 : mTab.sh 12 = (20, 120) := rfl
theorem sh_13 : mTab.sh 13 = (20, 8) := rfl
theorem sh_14 : mTab.sh 14 = (20, 8) := rfl
theorem sh_15 : mTab.sh 15 = (20, 8) := rfl
theorem sh_17 : mTab.sh 17 = (20, 40) := rfl
theorem sh_18 : mTab.sh 18 = (20, 40) := rfl
theorem sh_20 : mTab.sh 20 = (20, 40) := rfl
theorem sh_23 : mTab.sh 23 = (20, 40) := rfl
theorem sh_24 : mTab.sh 24 = (20, 40) := rfl
theorem sh_26 : mTab.sh 26 = (20, 40) := rfl
theorem sh_27 : mTab.sh 27 = (20, 40) := rfl
theorem sh_29 : mTab.sh 29 = (20, 40) := rfl
theorem sh_30 : mTab.sh 30 = (20, 40) := rfl
theorem sh_32 : mTab.sh 32 = (20, 60) := rfl
theorem sh_33 : mTab.sh 33 = (20, 60) := rfl
theorem sh_34 : mTab.sh 34 = (20, 60) := rfl
theorem sh_35 : mTab.sh 35 = (20, 60) := rfl
theorem sh_37 : mTab.sh 37 = (20, 124) := rfl
theorem sh_38 : mTab.sh 38 = (20, 8) := rfl
theorem sh_39 : mTab.sh 39 = (20, 10) := rfl
theorem sh_41 : mTab.sh 41 = (20, 124) := rfl
theorem sh_42 : mTab.sh 42 = (20, 8) := rfl
theorem sh_45 : mTab.sh 45 = (20, 1488) := rfl
theorem sh_46 : mTab.sh 46 = (20, 248) := rfl
theorem sh_48 : mTab.sh 48 = (20, 2560) := rfl
theorem sh_49 : mTab.sh 49 = (20, 256) := rfl
theorem sh_50 : mTab.sh 50 = (20, 10) := rfl
theorem sh_51 : mTab.sh 51 = (20, 256) := rfl
theorem sh_52 : mTab.sh 52 = (20, 10) := rfl
theorem sh_54 : mTab.sh 54 = (20, 10) := rfl
theorem sh_55 : mTab.sh 55 = (20, 8) := rfl
theorem sh_56 : mTab.sh 56 = (20, 8) := rfl
theorem sh_57 : mTab.sh 57 = (20, 9) := rfl
theorem sh_59 : mTab.sh 59 = (20, 12) := rfl
theorem sh_60 : mTab.sh 60 = (20, 13) := rfl
theorem sh_61 : mTab.sh 61 = (20, 12) := rfl
theorem sh_62 : mTab.sh 62 = (20, 4096) := rfl
theorem sh_64 : mTab.sh 64 = (20, 12) := rfl
theorem sh_65 : mTab.sh 65 = (20, 12) := rfl
theorem sh_66 : mTab.sh 66 = (20, 12) := rfl
theorem sh_68 : mTab.sh 68 = (20, 10) := rfl
theorem sh_69 : mTab.sh 69 = (20, 12) := rfl
theorem sh_70 : mTab.sh 70 = (20, 12) := rfl
theorem sh_71 : mTab.sh 71 = (20, 96) := rfl
theorem sh_72 : mTab.sh 72 = (20, 120) := rfl
theorem sh_73 : mTab.sh 73 = (20, 8) := rfl
theorem sh_74 : mTab.sh 74 = (20, 8) := rfl
theorem sh_75 : mTab.sh 75 = (20, 8) := rfl
theorem sh_76 : mTab.sh 76 = (20, 80) := rfl
theorem sh_77 : mTab.sh 77 = (20, 8) := rfl
theorem sh_78 : mTab.sh 78 = (20, 8) := rfl
theorem sh_79 : mTab.sh 79 = (22, 80) := rfl
theorem sh_80 : mTab.sh 80 = (20, 16) := rfl
theorem sh_81 : mTab.sh 81 = (20, 10) := rfl
theorem sh_82 : mTab.sh 82 = (20, 8) := rfl
theorem sh_83 : mTab.sh 83 = (22, 40) := rfl
theorem sh_84 : mTab.sh 84 = (20, 1380) := rfl
theorem sh_85 : mTab.sh 85 = (20, 320) := rfl
theorem sh_86 : mTab.sh 86 = (20, 115) := rfl
theorem sh_87 : mTab.sh 87 = (20, 256) := rfl
theorem sh_88 : mTab.sh 88 = (20, 8) := rfl
theorem sh_89 : mTab.sh 89 = (20, 8) := rfl
theorem sh_90 : mTab.sh 90 = (20, 10) := rfl
theorem sh_91 : mTab.sh 91 = (20, 49152) := rfl
theorem sh_92 : mTab.sh 92 = (20, 12) := rfl
theorem sh_93 : mTab.sh 93 = (20, 36) := rfl
theorem sh_94 : mTab.sh 94 = (20, 230) := rfl
theorem sh_95 : mTab.sh 95 = (23, 2) := rfl
theorem sh_96 : mTab.sh 96 = (20, 2) := rfl
theorem c_0_25 : mTab.cr 0 25 = some 3 := rfl
theorem c_1_24 : mTab.cr 1 24 = some 332 := rfl
theorem c_1_30 : mTab.cr 1 30 = some 150 := rfl
theorem c_1_36 : mTab.cr 1 36 = some 154 := rfl
theorem c_1_40 : mTab.cr 1 40 = some 163 := rfl
theorem c_1_44 : mTab.cr 1 44 = some 219 := rfl
theorem c_1_48 : mTab.cr 1 48 = some 6 := rfl
theorem c_1_51 : mTab.cr 1 51 = some 9 := rfl
theorem c_1_54 : mTab.cr 1 54 = some 50 := rfl
theorem c_1_60 : mTab.cr 1 60 = some 11 := rfl
theorem c_1_63 : mTab.cr 1 63 = some 12 := rfl
theorem c_1_67 : mTab.cr 1 67 = some 14 := rfl
theorem c_1_70 : mTab.cr 1 70 = some 15 := rfl
theorem c_1_74 : mTab.cr 1 74 = some 13 := rfl
theorem c_1_77 : mTab.cr 1 77 = some 331 := rfl
theorem c_1_87 : mTab.cr 1 87 = some 17 := rfl
theorem c_1_91 : mTab.cr 1 91 = some 19 := rfl
theorem c_1_94 : mTab.cr 1 94 = some 18 := rfl
theorem c_1_97 : mTab.cr 1 97 = some 157 := rfl
theorem c_2_30 : mTab.cr 2 30 = some 131 := rfl
theorem c_2_34 : mTab.cr 2 34 = some 135 := rfl
theorem c_2_38 : mTab.cr 2 38 = some 26 := rfl
theorem c_2_42 : mTab.cr 2 42 = some 142 := rfl
theorem c_2_46 : mTab.cr 2 46 = some 132 := rfl
theorem c_2_49 : mTab.cr 2 49 = some 133 := rfl
theorem c_2_52 : mTab.cr 2 52 = some 136 := rfl
theorem c_2_56 : mTab.cr 2 56 = some 28 := rfl
theorem c_2_59 : mTab.cr 2 59 = some 138 := rfl
theorem c_2_62 : mTab.cr 2 62 = some 137 := rfl
theorem c_2_65 : mTab.cr 2 65 = some 146 := rfl
theorem c_2_69 : mTab.cr 2 69 = some 27 := rfl
theorem c_2_73 : mTab.cr 2 73 = some 145 := rfl
theorem c_2_76 : mTab.cr 2 76 = some 141 := rfl
theorem c_3_25 : mTab.cr 3 25 = some 91 := rfl
theorem c_3_35 : mTab.cr 3 35 = some 92 := rfl
theorem c_3_41 : mTab.cr 3 41 = some 219 := rfl
theorem c_4_24 : mTab.cr 4 24 = some 93 := rfl
theorem c_4_30 : mTab.cr 4 30 = some 151 := rfl
theorem c_4_36 : mTab.cr 4 36 = some 95 := rfl
theorem c_4_40 : mTab.cr 4 40 = some 94 := rfl
theorem c_4_44 : mTab.cr 4 44 = some 36 := rfl
theorem c_4_48 : mTab.cr 4 48 = some 150 := rfl
theorem c_4_51 : mTab.cr 4 51 = some 155 := rfl
theorem c_4_54 : mTab.cr 4 54 = some 152 := rfl
theorem c_4_57 : mTab.cr 4 57 = some 158 := rfl
theorem c_4_64 : mTab.cr 4 64 = some 39 := rfl
theorem c_4_74 : mTab.cr 4 74 = some 40 := rfl
theorem c_4_77 : mTab.cr 4 77 = some 41 := rfl
theorem c_4_81 : mTab.cr 4 81 = some 42 := rfl
theorem c_4_85 : mTab.cr 4 85 = some 157 := rfl
theorem c_4_89 : mTab.cr 4 89 = some 101 := rfl
theorem c_4_95 : mTab.cr 4 95 = some 46 := rfl
theorem c_4_105 : mTab.cr 4 105 = some 48 := rfl
theorem c_4_109 : mTab.cr 4 109 = some 47 := rfl
theorem c_4_112 : mTab.cr 4 112 = some 154 := rfl
theorem c_6_18 : mTab.cr 6 18 = some 57 := rfl
theorem c_6_21 : mTab.cr 6 21 = some 59 := rfl
theorem c_6_25 : mTab.cr 6 25 = some 58 := rfl
theorem c_6_42 : mTab.cr 6 42 = some 131 := rfl
theorem c_6_45 : mTab.cr 6 45 = some 135 := rfl
theorem c_6_49 : mTab.cr 6 49 = some 53 := rfl
theorem c_6_53 : mTab.cr 6 53 = some 60 := rfl
theorem c_6_57 : mTab.cr 6 57 = some 132 := rfl
theorem c_6_60 : mTab.cr 6 60 = some 133 := rfl
theorem c_6_63 : mTab.cr 6 63 = some 61 := rfl
theorem c_6_66 : mTab.cr 6 66 = some 136 := rfl
theorem c_6_70 : mTab.cr 6 70 = some 137 := rfl
theorem c_6_73 : mTab.cr 6 73 = some 62 := rfl
theorem c_6_76 : mTab.cr 6 76 = some 63 := rfl
theorem c_6_79 : mTab.cr 6 79 = some 64 := rfl
theorem c_6_82 : mTab.cr 6 82 = some 143 := rfl
theorem c_6_85 : mTab.cr 6 85 = some 146 := rfl
theorem c_6_89 : mTab.cr 6 89 = some 65 := rfl
theorem c_6_93 : mTab.cr 6 93 = some 141 := rfl
theorem c_6_96 : mTab.cr 6 96 = some 138 := rfl
theorem c_6_99 : mTab.cr 6 99 = some 124 := rfl
theorem c_6_105 : mTab.cr 6 105 = some 67 := rfl
theorem c_7_27 : mTab.cr 7 27 = some 70 := rfl
theorem c_7_31 : mTab.cr 7 31 = some 93 := rfl
theorem c_7_37 : mTab.cr 7 37 = some 152 := rfl
theorem c_7_47 : mTab.cr 7 47 = some 219 := rfl
theorem c_7_51 : mTab.cr 7 51 = some 71 := rfl
theorem c_7_54 : mTab.cr 7 54 = some 158 := rfl
theorem c_7_57 : mTab.cr 7 57 = some 107 := rfl
theorem c_7_61 : mTab.cr 7 61 = some 106 := rfl
theorem c_7_64 : mTab.cr 7 64 = some 109 := rfl
theorem c_7_68 : mTab.cr 7 68 = some 104 := rfl
theorem c_7_71 : mTab.cr 7 71 = some 101 := rfl
theorem c_7_82 : mTab.cr 7 82 = some 76 := rfl
theorem c_7_85 : mTab.cr 7 85 = some 79 := rfl
theorem c_7_89 : mTab.cr 7 89 = some 77 := rfl
theorem c_7_92 : mTab.cr 7 92 = some 331 := rfl
theorem c_7_97 : mTab.cr 7 97 = some 80 := rfl
theorem c_7_100 : mTab.cr 7 100 = some 83 := rfl
theorem c_7_103 : mTab.cr 7 103 = some 332 := rfl
theorem c_7_108 : mTab.cr 7 108 = some 85 := rfl
theorem c_7_112 : mTab.cr 7 112 = some 88 := rfl
theorem c_7_115 : mTab.cr 7 115 = some 89 := rfl
theorem c_7_118 : mTab.cr 7 118 = some 50 := rfl
theorem c_8_31 : mTab.cr 8 31 = some 104 := rfl
theorem c_8_35 : mTab.cr 8 35 = some 95 := rfl
theorem c_8_39 : mTab.cr 8 39 = some 94 := rfl
theorem c_8_43 : mTab.cr 8 43 = some 157 := rfl
theorem c_8_48 : mTab.cr 8 48 = some 97 := rfl
theorem c_8_51 : mTab.cr 8 51 = some 98 := rfl
theorem c_8_54 : mTab.cr 8 54 = some 158 := rfl
theorem c_8_57 : mTab.cr 8 57 = some 152 := rfl
theorem c_8_60 : mTab.cr 8 60 = some 113 := rfl
theorem c_8_63 : mTab.cr 8 63 = some 118 := rfl
theorem c_8_66 : mTab.cr 8 66 = some 154 := rfl
theorem c_8_69 : mTab.cr 8 69 = some 107 := rfl
theorem c_8_72 : mTab.cr 8 72 = some 101 := rfl
theorem c_8_80 : mTab.cr 8 80 = some 115 := rfl
theorem c_8_84 : mTab.cr 8 84 = some 96 := rfl
theorem c_8_87 : mTab.cr 8 87 = some 149 := rfl
theorem c_8_90 : mTab.cr 8 90 = some 218 := rfl
theorem c_8_95 : mTab.cr 8 95 = some 135 := rfl
theorem c_8_99 : mTab.cr 8 99 = some 133 := rfl
theorem c_8_102 : mTab.cr 8 102 = some 145 := rfl
theorem c_8_106 : mTab.cr 8 106 = some 159 := rfl
theorem c_8_109 : mTab.cr 8 109 = some 99 := rfl
theorem c_8_112 : mTab.cr 8 112 = some 100 := rfl
theorem c_8_115 : mTab.cr 8 115 = some 155 := rfl
theorem c_8_118 : mTab.cr 8 118 = some 102 := rfl
theorem c_8_121 : mTab.cr 8 121 = some 126 := rfl
theorem c_8_125 : mTab.cr 8 125 = some 110 := rfl
theorem c_8_128 : mTab.cr 8 128 = some 219 := rfl
theorem c_8_132 : mTab.cr 8 132 = some 55 := rfl
theorem c_8_137 : mTab.cr 8 137 = some 66 := rfl
theorem c_8_141 : mTab.cr 8 141 = some 127 := rfl
theorem c_8_144 : mTab.cr 8 144 = some 117 := rfl
theorem c_9_34 : mTab.cr 9 34 = some 140 := rfl
theorem c_9_38 : mTab.cr 9 38 = some 136 := rfl
theorem c_9_42 : mTab.cr 9 42 = some 138 := rfl
theorem c_9_46 : mTab.cr 9 46 = some 137 := rfl
theorem c_9_49 : mTab.cr 9 49 = some 144 := rfl
theorem c_9_52 : mTab.cr 9 52 = some 143 := rfl
theorem c_9_55 : mTab.cr 9 55 = some 146 := rfl
theorem c_9_59 : mTab.cr 9 59 = some 139 := rfl
theorem c_10_46 : mTab.cr 10 46 = some 157 := rfl
theorem c_10_56 : mTab.cr 10 56 = some 156 := rfl
theorem c_10_73 : mTab.cr 10 73 = some 131 := rfl
theorem c_10_77 : mTab.cr 10 77 = some 135 := rfl
theorem c_10_81 : mTab.cr 10 81 = some 165 := rfl
theorem c_10_85 : mTab.cr 10 85 = some 142 := rfl
theorem c_10_89 : mTab.cr 10 89 = some 132 := rfl
theorem c_10_92 : mTab.cr 10 92 = some 133 := rfl
theorem c_10_95 : mTab.cr 10 95 = some 134 := rfl
theorem c_10_99 : mTab.cr 10 99 = some 136 := rfl
theorem c_10_102 : mTab.cr 10 102 = some 169 := rfl
theorem c_10_105 : mTab.cr 10 105 = some 145 := rfl
theorem c_10_108 : mTab.cr 10 108 = some 143 := rfl
theorem c_10_111 : mTab.cr 10 111 = some 166 := rfl
theorem c_10_115 : mTab.cr 10 115 = some 167 := rfl
theorem c_10_118 : mTab.cr 10 118 = some 146 := rfl
theorem c_10_121 : mTab.cr 10 121 = some 139 := rfl
theorem c_10_124 : mTab.cr 10 124 = some 144 := rfl
theorem c_10_127 : mTab.cr 10 127 = some 138 := rfl
theorem c_10_130 : mTab.cr 10 130 = some 141 := rfl
theorem c_10_133 : mTab.cr 10 133 = some 168 := rfl
theorem c_10_137 : mTab.cr 10 137 = some 137 := rfl
theorem c_10_140 : mTab.cr 10 140 = some 147 := rfl
theorem c_11_107 : mTab.cr 11 107 = some 128 := rfl
theorem c_11_111 : mTab.cr 11 111 = some 130 := rfl
theorem c_11_115 : mTab.cr 11 115 = some 129 := rfl
theorem c_11_118 : mTab.cr 11 118 = some 164 := rfl
theorem c_11_122 : mTab.cr 11 122 = some 114 := rfl
theorem c_11_125 : mTab.cr 11 125 = some 32 := rfl
theorem c_11_128 : mTab.cr 11 128 = some 56 := rfl
theorem c_11_131 : mTab.cr 11 131 = some 134 := rfl
theorem c_11_134 : mTab.cr 11 134 = some 54 := rfl
theorem c_11_138 : mTab.cr 11 138 = some 218 := rfl
theorem c_11_141 : mTab.cr 11 141 = some 49 := rfl
theorem c_11_145 : mTab.cr 11 145 = some 152 := rfl
theorem c_11_149 : mTab.cr 11 149 = some 50 := rfl
theorem c_11_153 : mTab.cr 11 153 = some 112 := rfl
theorem c_11_156 : mTab.cr 11 156 = some 101 := rfl
theorem c_11_159 : mTab.cr 11 159 = some 148 := rfl
theorem c_11_162 : mTab.cr 11 162 = some 154 := rfl
theorem c_11_165 : mTab.cr 11 165 = some 156 := rfl
theorem c_11_169 : mTab.cr 11 169 = some 155 := rfl
theorem c_11_172 : mTab.cr 11 172 = some 149 := rfl
theorem c_11_182 : mTab.cr 11 182 = some 158 := rfl
theorem c_11_185 : mTab.cr 11 185 = some 159 := rfl
theorem c_11_188 : mTab.cr 11 188 = some 94 := rfl
theorem c_11_191 : mTab.cr 11 191 = some 105 := rfl
theorem c_11_194 : mTab.cr 11 194 = some 96 := rfl
theorem c_11_197 : mTab.cr 11 197 = some 97 := rfl
theorem c_11_200 : mTab.cr 11 200 = some 99 := rfl
theorem c_11_203 : mTab.cr 11 203 = some 100 := rfl
theorem c_11_206 : mTab.cr 11 206 = some 95 := rfl
theorem c_11_207 : mTab.cr 11 207 = some 66 := rfl
theorem c_11_213 : mTab.cr 11 213 = some 104 := rfl
theorem c_11_216 : mTab.cr 11 216 = some 160 := rfl
theorem c_11_219 : mTab.cr 11 219 = some 161 := rfl
theorem c_11_222 : mTab.cr 11 222 = some 113 := rfl
theorem c_11_225 : mTab.cr 11 225 = some 221 := rfl
theorem c_11_236 : mTab.cr 11 236 = some 153 := rfl
theorem c_11_240 : mTab.cr 11 240 = some 102 := rfl
theorem c_11_243 : mTab.cr 11 243 = some 30 := rfl
theorem c_11_247 : mTab.cr 11 247 = some 116 := rfl
theorem c_11_250 : mTab.cr 11 250 = some 117 := rfl
theorem c_11_253 : mTab.cr 11 253 = some 118 := rfl
theorem c_11_256 : mTab.cr 11 256 = some 119 := rfl
theorem c_11_260 : mTab.cr 11 260 = some 120 := rfl
theorem c_11_263 : mTab.cr 11 263 = some 220 := rfl
theorem c_11_266 : mTab.cr 11 266 = some 125 := rfl
theorem c_11_270 : mTab.cr 11 270 = some 111 := rfl
theorem c_11_273 : mTab.cr 11 273 = some 109 := rfl
theorem c_11_276 : mTab.cr 11 276 = some 110 := rfl
theorem c_11_279 : mTab.cr 11 279 = some 25 := rfl
theorem c_11_280 : mTab.cr 11 280 = some 20 := rfl
theorem c_11_281 : mTab.cr 11 281 = some 222 := rfl
theorem c_11_284 : mTab.cr 11 284 = some 90 := rfl
theorem c_11_286 : mTab.cr 11 286 = some 223 := rfl
theorem c_11_290 : mTab.cr 11 290 = some 51 := rfl
theorem c_11_291 : mTab.cr 11 291 = some 52 := rfl
theorem c_11_294 : mTab.cr 11 294 = some 31 := rfl
theorem c_11_298 : mTab.cr 11 298 = some 29 := rfl
theorem c_11_299 : mTab.cr 11 299 = some 224 := rfl
theorem c_11_303 : mTab.cr 11 303 = some 98 := rfl
theorem c_11_306 : mTab.cr 11 306 = some 121 := rfl
theorem c_11_309 : mTab.cr 11 309 = some 151 := rfl
theorem c_11_312 : mTab.cr 11 312 = some 225 := rfl
theorem c_11_316 : mTab.cr 11 316 = some 108 := rfl
theorem c_11_319 : mTab.cr 11 319 = some 68 := rfl
theorem c_11_323 : mTab.cr 11 323 = some 78 := rfl
theorem c_11_326 : mTab.cr 11 326 = some 81 := rfl
theorem c_11_329 : mTab.cr 11 329 = some 331 := rfl
theorem c_11_334 : mTab.cr 11 334 = some 83 := rfl
theorem c_11_337 : mTab.cr 11 337 = some 74 := rfl
theorem c_11_338 : mTab.cr 11 338 = some 76 := rfl
theorem c_11_341 : mTab.cr 11 341 = some 72 := rfl
theorem c_11_344 : mTab.cr 11 344 = some 86 := rfl
theorem c_11_347 : mTab.cr 11 347 = some 87 := rfl
theorem c_11_351 : mTab.cr 11 351 = some 226 := rfl
theorem c_11_355 : mTab.cr 11 355 = some 35 := rfl
theorem c_11_358 : mTab.cr 11 358 = some 37 := rfl
theorem c_11_362 : mTab.cr 11 362 = some 38 := rfl
theorem c_11_365 : mTab.cr 11 365 = some 150 := rfl
theorem c_11_368 : mTab.cr 11 368 = some 162 := rfl
theorem c_11_371 : mTab.cr 11 371 = some 131 := rfl
theorem c_11_375 : mTab.cr 11 375 = some 123 := rfl
theorem c_11_378 : mTab.cr 11 378 = some 132 := rfl
theorem c_11_381 : mTab.cr 11 381 = some 133 := rfl
theorem c_11_385 : mTab.cr 11 385 = some 5 := rfl
theorem c_11_388 : mTab.cr 11 388 = some 10 := rfl
theorem c_11_391 : mTab.cr 11 391 = some 16 := rfl
theorem c_11_395 : mTab.cr 11 395 = some 7 := rfl
theorem c_11_398 : mTab.cr 11 398 = some 8 := rfl
theorem c_11_402 : mTab.cr 11 402 = some 43 := rfl
theorem c_11_405 : mTab.cr 11 405 = some 44 := rfl
theorem c_11_408 : mTab.cr 11 408 = some 45 := rfl
theorem c_11_411 : mTab.cr 11 411 = some 106 := rfl
theorem c_11_414 : mTab.cr 11 414 = some 84 := rfl
theorem c_11_417 : mTab.cr 11 417 = some 75 := rfl
theorem c_11_420 : mTab.cr 11 420 = some 69 := rfl
theorem c_11_423 : mTab.cr 11 423 = some 73 := rfl
theorem c_11_426 : mTab.cr 11 426 = some 82 := rfl
theorem c_11_429 : mTab.cr 11 429 = some 2 := rfl
theorem c_11_432 : mTab.cr 11 432 = some 0 := rfl
theorem c_11_433 : mTab.cr 11 433 = some 4 := rfl
theorem c_11_436 : mTab.cr 11 436 = some 3 := rfl
theorem c_11_439 : mTab.cr 11 439 = some 1 := rfl
theorem c_11_441 : mTab.cr 11 441 = some 33 := rfl
theorem c_11_445 : mTab.cr 11 445 = some 34 := rfl
theorem c_11_448 : mTab.cr 11 448 = some 103 := rfl
theorem c_11_453 : mTab.cr 11 453 = some 22 := rfl
theorem c_11_456 : mTab.cr 11 456 = some 23 := rfl
theorem c_11_459 : mTab.cr 11 459 = some 21 := rfl
theorem c_11_462 : mTab.cr 11 462 = some 180 := rfl
theorem c_11_465 : mTab.cr 11 465 = some 181 := rfl
theorem c_11_468 : mTab.cr 11 468 = some 182 := rfl
theorem c_11_471 : mTab.cr 11 471 = some 24 := rfl
theorem c_11_474 : mTab.cr 11 474 = some 183 := rfl
theorem c_11_477 : mTab.cr 11 477 = some 184 := rfl
theorem c_11_480 : mTab.cr 11 480 = some 122 := rfl
theorem c_12_113 : mTab.cr 12 113 = some 228 := rfl
theorem c_12_138 : mTab.cr 12 138 = some 239 := rfl
theorem c_12_142 : mTab.cr 12 142 = some 238 := rfl
theorem c_12_146 : mTab.cr 12 146 = some 241 := rfl
theorem c_12_150 : mTab.cr 12 150 = some 240 := rfl
theorem c_12_154 : mTab.cr 12 154 = some 237 := rfl
theorem c_12_158 : mTab.cr 12 158 = some 243 := rfl
theorem c_12_162 : mTab.cr 12 162 = some 242 := rfl
theorem c_12_166 : mTab.cr 12 166 = some 246 := rfl
theorem c_12_176 : mTab.cr 12 176 = some 244 := rfl
theorem c_12_180 : mTab.cr 12 180 = some 248 := rfl
theorem c_12_183 : mTab.cr 12 183 = some 249 := rfl
theorem c_12_186 : mTab.cr 12 186 = some 250 := rfl
theorem c_12_189 : mTab.cr 12 189 = some 247 := rfl
theorem c_12_192 : mTab.cr 12 192 = some 251 := rfl
theorem c_12_196 : mTab.cr 12 196 = some 256 := rfl
theorem c_12_199 : mTab.cr 12 199 = some 254 := rfl
theorem c_12_208 : mTab.cr 12 208 = some 255 := rfl
theorem c_12_211 : mTab.cr 12 211 = some 257 := rfl
theorem c_12_214 : mTab.cr 12 214 = some 258 := rfl
theorem c_12_217 : mTab.cr 12 217 = some 234 := rfl
theorem c_12_220 : mTab.cr 12 220 = some 231 := rfl
theorem c_12_223 : mTab.cr 12 223 = some 233 := rfl
theorem c_12_226 : mTab.cr 12 226 = some 232 := rfl
theorem c_12_229 : mTab.cr 12 229 = some 230 := rfl
theorem c_12_232 : mTab.cr 12 232 = some 253 := rfl
theorem c_12_246 : mTab.cr 12 246 = some 267 := rfl
theorem c_12_250 : mTab.cr 12 250 = some 269 := rfl
theorem c_12_253 : mTab.cr 12 253 = some 270 := rfl
theorem c_12_256 : mTab.cr 12 256 = some 272 := rfl
theorem c_12_259 : mTab.cr 12 259 = some 271 := rfl
theorem c_12_262 : mTab.cr 12 262 = some 277 := rfl
theorem c_12_265 : mTab.cr 12 265 = some 276 := rfl
theorem c_12_268 : mTab.cr 12 268 = some 278 := rfl
theorem c_12_272 : mTab.cr 12 272 = some 229 := rfl
theorem c_12_276 : mTab.cr 12 276 = some 280 := rfl
theorem c_12_279 : mTab.cr 12 279 = some 259 := rfl
theorem c_12_282 : mTab.cr 12 282 = some 281 := rfl
theorem c_12_285 : mTab.cr 12 285 = some 260 := rfl
theorem c_12_288 : mTab.cr 12 288 = some 284 := rfl
theorem c_12_291 : mTab.cr 12 291 = some 285 := rfl
theorem c_12_294 : mTab.cr 12 294 = some 273 := rfl
theorem c_12_297 : mTab.cr 12 297 = some 274 := rfl
theorem c_12_300 : mTab.cr 12 300 = some 275 := rfl
theorem c_12_303 : mTab.cr 12 303 = some 279 := rfl
theorem c_12_306 : mTab.cr 12 306 = some 282 := rfl
theorem c_12_308 : mTab.cr 12 308 = some 268 := rfl
theorem c_12_311 : mTab.cr 12 311 = some 291 := rfl
theorem c_12_314 : mTab.cr 12 314 = some 292 := rfl
theorem c_12_317 : mTab.cr 12 317 = some 293 := rfl
theorem c_12_320 : mTab.cr 12 320 = some 331 := rfl
theorem c_12_325 : mTab.cr 12 325 = some 296 := rfl
theorem c_12_332 : mTab.cr 12 332 = some 302 := rfl
theorem c_12_335 : mTab.cr 12 335 = some 301 := rfl
theorem c_12_338 : mTab.cr 12 338 = some 303 := rfl
theorem c_12_345 : mTab.cr 12 345 = some 307 := rfl
theorem c_12_349 : mTab.cr 12 349 = some 311 := rfl
theorem c_12_352 : mTab.cr 12 352 = some 313 := rfl
theorem c_12_355 : mTab.cr 12 355 = some 314 := rfl
theorem c_12_358 : mTab.cr 12 358 = some 320 := rfl
theorem c_12_364 : mTab.cr 12 364 = some 323 := rfl
theorem z_1_24 : mTab.ac 1 24 = 0 := rfl
theorem z_1_44 : mTab.ac 1 44 = 0 := rfl
theorem z_1_51 : mTab.ac 1 51 = 0 := rfl
theorem z_1_77 : mTab.ac 1 77 = 0 := rfl
theorem z_1_82 : mTab.ac 1 82 = 2 := rfl
theorem z_1_87 : mTab.ac 1 87 = 0 := rfl
theorem z_1_91 : mTab.ac 1 91 = 0 := rfl
theorem z_2_56 : mTab.ac 2 56 = 0 := rfl
theorem z_2_69 : mTab.ac 2 69 = 0 := rfl
theorem z_3_29 : mTab.ac 3 29 = 3 := rfl
theorem z_3_41 : mTab.ac 3 41 = 0 := rfl
theorem z_4_44 : mTab.ac 4 44 = 0 := rfl
theorem z_4_68 : mTab.ac 4 68 = 1 := rfl
theorem z_6_28 : mTab.ac 6 28 = 1 := rfl
theorem z_6_89 : mTab.ac 6 89 = 0 := rfl
theorem z_6_105 : mTab.ac 6 105 = 0 := rfl
theorem z_7_47 : mTab.ac 7 47 = 0 := rfl
theorem z_7_77 : mTab.ac 7 77 = 2 := rfl
theorem z_7_92 : mTab.ac 7 92 = 0 := rfl
theorem z_7_103 : mTab.ac 7 103 = 0 := rfl
theorem z_7_124 : mTab.ac 7 124 = 3 := rfl
theorem z_8_25 : mTab.ac 8 25 = 1 := rfl
theorem z_8_75 : mTab.ac 8 75 = 3 := rfl
theorem z_8_90 : mTab.ac 8 90 = 0 := rfl
theorem z_8_128 : mTab.ac 8 128 = 0 := rfl
theorem z_8_147 : mTab.ac 8 147 = 2 := rfl
theorem z_9_22 : mTab.ac 9 22 = 3 := rfl
theorem z_10_50 : mTab.ac 10 50 = 4 := rfl
theorem z_10_59 : mTab.ac 10 59 = 1 := rfl
theorem z_11_138 : mTab.ac 11 138 = 0 := rfl
theorem z_11_225 : mTab.ac 11 225 = 0 := rfl
theorem z_11_228 : mTab.ac 11 228 = 3 := rfl
theorem z_11_233 : mTab.ac 11 233 = 2 := rfl
theorem z_11_263 : mTab.ac 11 263 = 0 := rfl
theorem z_11_329 : mTab.ac 11 329 = 0 := rfl
theorem z_12_113 : mTab.ac 12 113 = 0 := rfl
theorem z_12_217 : mTab.ac 12 217 = 0 := rfl
theorem z_12_235 : mTab.ac 12 235 = 3 := rfl
theorem z_12_240 : mTab.ac 12 240 = 2 := rfl
theorem z_12_272 : mTab.ac 12 272 = 0 := rfl
theorem z_12_320 : mTab.ac 12 320 = 0 := rfl
theorem z_12_329 : mTab.ac 12 329 = 4 := rfl
def sw27_1 (x : Int32) : Nat := if x = 104 then 36 else if x = 108 then 55 else if x = 110 then 74 else 80
theorem sw27_1_if {α : Type} (g : Nat → α) (x : Int32) : g (sw27_1 x) = (if x = 104 then g 36 else (if x = 108 then g 55 else (if x = 110 then g 74 else g 80))) := by
  unfold sw27_1
  repeat (first | rfl | (split; · rfl))
theorem sw27_1_ok : ∀ x : Int32, ((1 : Nat) : Int) + Op.lookupswitch.offset #[(104, 35), (108, 54), (110, 73)].toList 79 x.toInt = .ofNat (sw27_1 x) := by
  intro x
  show ((1 : Nat) : Int) + Op.lookupswitch.offset [(104, 35), (108, 54), (110, 73)] 79 x.toInt = _
  by_cases n104 : x = 104
  · subst n104; decide +kernel
  rw [lv_osw n104 (by decide)]
  by_cases n108 : x = 108
  · subst n108; decide +kernel
  rw [lv_osw n108 (by decide)]
  by_cases n110 : x = 110
  · subst n110; decide +kernel
  rw [lv_osw n110 (by decide)]
  unfold sw27_1
  rw [if_neg n104]
  rw [if_neg n108]
  rw [if_neg n110]
  rfl
def sw65_1 (x : Int32) : Nat := if x = 105 then 76 else if x = 107 then 76 else if x = 109 then 76 else if x = 110 then 76 else if x = 113 then 76 else if x = 115 then 76 else if x = 116 then 76 else if x = 117 then 76 else if x = 119 then 76 else 78
theorem sw65_1_if {α : Type} (g : Nat → α) (x : Int32) : g (sw65_1 x) = (if x = 105 then g 76 else (if x = 107 then g 76 else (if x = 109 then g 76 else (if x = 110 then g 76 else (if x = 113 then g 76 else (if x = 115 then g 76 else (if x = 116 then g 76 else (if x = 117 then g 76 else (if x = 119 then g 76 else g 78))))))))) := by
  unfold sw65_1
  repeat (first | rfl | (split; · rfl))
theorem sw65_1_ok : ∀ x : Int32, ∃ off, tblsw 77 105 119 #[75, 77, 75, 77, 75, 75, 77, 77, 75, 77, 75, 75, 75, 77, 75] x = some off ∧ ((1 : Nat) : Int) + off = .ofNat (sw65_1 x) := by
  intro x
  by_cases h : x.toInt < 105 ∨ 119 < x.toInt
  · refine ⟨77, if_pos h, ?_⟩
    have n105 : ¬ x = 105 := by rintro rfl; revert h; decide
    have n107 : ¬ x = 107 := by rintro rfl; revert h; decide
    have n109 : ¬ x = 109 := by rintro rfl; revert h; decide
    have n110 : ¬ x = 110 := by rintro rfl; revert h; decide
    have n113 : ¬ x = 113 := by rintro rfl; revert h; decide
    have n115 : ¬ x = 115 := by rintro rfl; revert h; decide
    have n116 : ¬ x = 116 := by rintro rfl; revert h; decide
    have n117 : ¬ x = 117 := by rintro rfl; revert h; decide
    have n119 : ¬ x = 119 := by rintro rfl; revert h; decide
    unfold sw65_1
    rw [if_neg n105]
    rw [if_neg n107]
    rw [if_neg n109]
    rw [if_neg n110]
    rw [if_neg n113]
    rw [if_neg n115]
    rw [if_neg n116]
    rw [if_neg n117]
    rw [if_neg n119]
    rfl
  · have hz : x.toInt = 105 ∨ x.toInt = 106 ∨ x.toInt = 107 ∨ x.toInt = 108 ∨ x.toInt = 109 ∨ x.toInt = 110 ∨ x.toInt = 111 ∨ x.toInt = 112 ∨ x.toInt = 113 ∨ x.toInt = 114 ∨ x.toInt = 115 ∨ x.toInt = 116 ∨ x.toInt = 117 ∨ x.toInt = 118 ∨ x.toInt = 119 := by omega
    rcases hz with hz | hz | hz | hz | hz | hz | hz | hz | hz | hz | hz | hz | hz | hz | hz
    · obtain rfl : x = 105 := Int32.toInt_inj.mp (by rw [hz]; decide)
      exact ⟨75, by decide +kernel, by decide +kernel⟩
    · obtain rfl : x = 106 := Int32.toInt_inj.mp (by rw [hz]; decide)
      exact ⟨77, by decide +kernel, by decide +kernel⟩
    · obtain rfl : x = 107 := Int32.toInt_inj.mp (by rw [hz]; decide)
      exact ⟨75, by decide +kernel, by decide +kernel⟩
    · obtain rfl : x = 108 := Int32.toInt_inj.mp (by rw [hz]; decide)
      exact ⟨77, by decide +kernel, by decide +kernel⟩
    · obtain rfl : x = 109 := Int32.toInt_inj.mp (by rw [hz]; decide)
      exact ⟨75, by decide +kernel, by decide +kernel⟩
    · obtain rfl : x = 110 := Int32.toInt_inj.mp (by rw [hz]; decide)
      exact ⟨75, by decide +kernel, by decide +kernel⟩
    · obtain rfl : x = 111 := Int32.toInt_inj.mp (by rw [hz]; decide)
      exact ⟨77, by decide +kernel, by decide +kernel⟩
    · obtain rfl : x = 112 := Int32.toInt_inj.mp (by rw [hz]; decide)
      exact ⟨77, by decide +kernel, by decide +kernel⟩
    · obtain rfl : x = 113 := Int32.toInt_inj.mp (by rw [hz]; decide)
      exact ⟨75, by decide +kernel, by decide +kernel⟩
    · obtain rfl : x = 114 := Int32.toInt_inj.mp (by rw [hz]; decide)
      exact ⟨77, by decide +kernel, by decide +kernel⟩
    · obtain rfl : x = 115 := Int32.toInt_inj.mp (by rw [hz]; decide)
      exact ⟨75, by decide +kernel, by decide +kernel⟩
    · obtain rfl : x = 116 := Int32.toInt_inj.mp (by rw [hz]; decide)
      exact ⟨75, by decide +kernel, by decide +kernel⟩
    · obtain rfl : x = 117 := Int32.toInt_inj.mp (by rw [hz]; decide)
      exact ⟨75, by decide +kernel, by decide +kernel⟩
    · obtain rfl : x = 118 := Int32.toInt_inj.mp (by rw [hz]; decide)
      exact ⟨77, by decide +kernel, by decide +kernel⟩
    · obtain rfl : x = 119 := Int32.toInt_inj.mp (by rw [hz]; decide)
      exact ⟨75, by decide +kernel, by decide +kernel⟩
def sw67_1 (x : Int32) : Nat := if x = 42 then 101 else if x = 43 then 93 else if x = 45 then 97 else if x = 60 then 60 else if x = 61 then 82 else if x = 62 then 71 else 105
theorem sw67_1_if {α : Type} (g : Nat → α) (x : Int32) : g (sw67_1 x) = (if x = 42 then g 101 else (if x = 43 then g 93 else (if x = 45 then g 97 else (if x = 60 then g 60 else (if x = 61 then g 82 else (if x = 62 then g 71 else g 105)))))) := by
  unfold sw67_1
  repeat (first | rfl | (split; · rfl))
theorem sw67_1_ok : ∀ x : Int32, ((1 : Nat) : Int) + Op.lookupswitch.offset #[(42, 100), (43, 92), (45, 96), (60, 59), (61, 81), (62, 70)].toList 104 x.toInt = .ofNat (sw67_1 x) := by
  intro x
  show ((1 : Nat) : Int) + Op.lookupswitch.offset [(42, 100), (43, 92), (45, 96), (60, 59), (61, 81), (62, 70)] 104 x.toInt = _
  by_cases n42 : x = 42
  · subst n42; decide +kernel
  rw [lv_osw n42 (by decide)]
  by_cases n43 : x = 43
  · subst n43; decide +kernel
  rw [lv_osw n43 (by decide)]
  by_cases n45 : x = 45
  · subst n45; decide +kernel
  rw [lv_osw n45 (by decide)]
  by_cases n60 : x = 60
  · subst n60; decide +kernel
  rw [lv_osw n60 (by decide)]
  by_cases n61 : x = 61
  · subst n61; decide +kernel
  rw [lv_osw n61 (by decide)]
  by_cases n62 : x = 62
  · subst n62; decide +kernel
  rw [lv_osw n62 (by decide)]
  unfold sw67_1
  rw [if_neg n42]
  rw [if_neg n43]
  rw [if_neg n45]
  rw [if_neg n60]
  rw [if_neg n61]
  rw [if_neg n62]
  rfl
def sw124_1 (x : Int32) : Nat := if x = 105 then 76 else if x = 109 then 115 else if x = 110 then 87 else if x = 113 then 130 else if x = 115 then 142 else if x = 116 then 121 else if x = 117 then 136 else if x = 119 then 78 else 170
theorem sw124_1_if {α : Type} (g : Nat → α) (x : Int32) : g (sw124_1 x) = (if x = 105 then g 76 else (if x = 109 then g 115 else (if x = 110 then g 87 else (if x = 113 then g 130 else (if x = 115 then g 142 else (if x = 116 then g 121 else (if x = 117 then g 136 else (if x = 119 then g 78 else g 170)))))))) := by
  unfold sw124_1
  repeat (first | rfl | (split; · rfl))
theorem sw124_1_ok : ∀ x : Int32, ∃ off, tblsw 169 105 119 #[75, 169, 169, 169, 114, 86, 169, 169, 129, 169, 141, 120, 135, 169, 77] x = some off ∧ ((1 : Nat) : Int) + off = .ofNat (sw124_1 x) := by
  intro x
  by_cases h : x.toInt < 105 ∨ 119 < x.toInt
  · refine ⟨169, if_pos h, ?_⟩
    have n105 : ¬ x = 105 := by rintro rfl; revert h; decide
    have n109 : ¬ x = 109 := by rintro rfl; revert h; decide
    have n110 : ¬ x = 110 := by rintro rfl; revert h; decide
    have n113 : ¬ x = 113 := by rintro rfl; revert h; decide
    have n115 : ¬ x = 115 := by rintro rfl; revert h; decide
    have n116 : ¬ x = 116 := by rintro rfl; revert h; decide
    have n117 : ¬ x = 117 := by rintro rfl; revert h; decide
    have n119 : ¬ x = 119 := by rintro rfl; revert h; decide
    unfold sw124_1
    rw [if_neg n105]
    rw [if_neg n109]
    rw [if_neg n110]
    rw [if_neg n113]
    rw [if_neg n115]
    rw [if_neg n116]
    rw [if_neg n117]
    rw [if_neg n119]
    rfl
  · have hz : x.toInt = 105 ∨ x.toInt = 106 ∨ x.toInt = 107 ∨ x.toInt = 108 ∨ x.toInt = 109 ∨ x.toInt = 110 ∨ x.toInt = 111 ∨ x.toInt = 112 ∨ x.toInt = 113 ∨ x.toInt = 114 ∨ x.toInt = 115 ∨ x.toInt = 116 ∨ x.toInt = 117 ∨ x.toInt = 118 ∨ x.toInt = 119 := by omega
    rcases hz with hz | hz | hz | hz | hz | hz | hz | hz | hz | hz | hz | hz | hz | hz | hz
    · obtain rfl : x = 105 := Int32.toInt_inj.mp (by rw [hz]; decide)
      exact ⟨75, by decide +kernel, by decide +kernel⟩
    · obtain rfl : x = 106 := Int32.toInt_inj.mp (by rw [hz]; decide)
      exact ⟨169, by decide +kernel, by decide +kernel⟩
    · obtain rfl : x = 107 := Int32.toInt_inj.mp (by rw [hz]; decide)
      exact ⟨169, by decide +kernel, by decide +kernel⟩
    · obtain rfl : x = 108 := Int32.toInt_inj.mp (by rw [hz]; decide)
      exact ⟨169, by decide +kernel, by decide +kernel⟩
    · obtain rfl : x = 109 := Int32.toInt_inj.mp (by rw [hz]; decide)
      exact ⟨114, by decide +kernel, by decide +kernel⟩
    · obtain rfl : x = 110 := Int32.toInt_inj.mp (by rw [hz]; decide)
      exact ⟨86, by decide +kernel, by decide +kernel⟩
    · obtain rfl : x = 111 := Int32.toInt_inj.mp (by rw [hz]; decide)
      exact ⟨169, by decide +kernel, by decide +kernel⟩
    · obtain rfl : x = 112 := Int32.toInt_inj.mp (by rw [hz]; decide)
      exact ⟨169, by decide +kernel, by decide +kernel⟩
    · obtain rfl : x = 113 := Int32.toInt_inj.mp (by rw [hz]; decide)
      exact ⟨129, by decide +kernel, by decide +kernel⟩
    · obtain rfl : x = 114 := Int32.toInt_inj.mp (by rw [hz]; decide)
      exact ⟨169, by decide +kernel, by decide +kernel⟩
    · obtain rfl : x = 115 := Int32.toInt_inj.mp (by rw [hz]; decide)
      exact ⟨141, by decide +kernel, by decide +kernel⟩
    · obtain rfl : x = 116 := Int32.toInt_inj.mp (by rw [hz]; decide)
      exact ⟨120, by decide +kernel, by decide +kernel⟩
    · obtain rfl : x = 117 := Int32.toInt_inj.mp (by rw [hz]; decide)
      exact ⟨135, by decide +kernel, by decide +kernel⟩
    · obtain rfl : x = 118 := Int32.toInt_inj.mp (by rw [hz]; decide)
      exact ⟨169, by decide +kernel, by decide +kernel⟩
    · obtain rfl : x = 119 := Int32.toInt_inj.mp (by rw [hz]; decide)
      exact ⟨77, by decide +kernel, by decide +kernel⟩
def sw176_22 (x : Int32) : Nat := if x = 0 then 72 else if x = 1 then 81 else if x = 2 then 90 else if x = 3 then 99 else if x = 4 then 108 else if x = 5 then 117 else if x = 6 then 134 else if x = 7 then 143 else if x = 8 then 152 else 180
theorem sw176_22_if {α : Type} (g : Nat → α) (x : Int32) : g (sw176_22 x) = (if x = 0 then g 72 else (if x = 1 then g 81 else (if x = 2 then g 90 else (if x = 3 then g 99 else (if x = 4 then g 108 else (if x = 5 then g 117 else (if x = 6 then g 134 else (if x = 7 then g 143 else (if x = 8 then g 152 else g 180))))))))) := by
  unfold sw176_22
  repeat (first | rfl | (split; · rfl))
theorem sw176_22_ok : ∀ x : Int32, ∃ off, tblsw 158 0 8 #[50, 59, 68, 77, 86, 95, 112, 121, 130] x = some off ∧ ((22 : Nat) : Int) + off = .ofNat (sw176_22 x) := by
  intro x
  by_cases h : x.toInt < 0 ∨ 8 < x.toInt
  · refine ⟨158, if_pos h, ?_⟩
    have n0 : ¬ x = 0 := by rintro rfl; revert h; decide
    have n1 : ¬ x = 1 := by rintro rfl; revert h; decide
    have n2 : ¬ x = 2 := by rintro rfl; revert h; decide
    have n3 : ¬ x = 3 := by rintro rfl; revert h; decide
    have n4 : ¬ x = 4 := by rintro rfl; revert h; decide
    have n5 : ¬ x = 5 := by rintro rfl; revert h; decide
    have n6 : ¬ x = 6 := by rintro rfl; revert h; decide
    have n7 : ¬ x = 7 := by rintro rfl; revert h; decide
    have n8 : ¬ x = 8 := by rintro rfl; revert h; decide
    unfold sw176_22
    rw [if_neg n0]
    rw [if_neg n1]
    rw [if_neg n2]
    rw [if_neg n3]
    rw [if_neg n4]
    rw [if_neg n5]
    rw [if_neg n6]
    rw [if_neg n7]
    rw [if_neg n8]
    rfl
  · have hz : x.toInt = 0 ∨ x.toInt = 1 ∨ x.toInt = 2 ∨ x.toInt = 3 ∨ x.toInt = 4 ∨ x.toInt = 5 ∨ x.toInt = 6 ∨ x.toInt = 7 ∨ x.toInt = 8 := by omega
    rcases hz with hz | hz | hz | hz | hz | hz | hz | hz | hz
    · obtain rfl : x = 0 := Int32.toInt_inj.mp (by rw [hz]; decide)
      exact ⟨50, by decide +kernel, by decide +kernel⟩
    · obtain rfl : x = 1 := Int32.toInt_inj.mp (by rw [hz]; decide)
      exact ⟨59, by decide +kernel, by decide +kernel⟩
    · obtain rfl : x = 2 := Int32.toInt_inj.mp (by rw [hz]; decide)
      exact ⟨68, by decide +kernel, by decide +kernel⟩
    · obtain rfl : x = 3 := Int32.toInt_inj.mp (by rw [hz]; decide)
      exact ⟨77, by decide +kernel, by decide +kernel⟩
    · obtain rfl : x = 4 := Int32.toInt_inj.mp (by rw [hz]; decide)
      exact ⟨86, by decide +kernel, by decide +kernel⟩
    · obtain rfl : x = 5 := Int32.toInt_inj.mp (by rw [hz]; decide)
      exact ⟨95, by decide +kernel, by decide +kernel⟩
    · obtain rfl : x = 6 := Int32.toInt_inj.mp (by rw [hz]; decide)
      exact ⟨112, by decide +kernel, by decide +kernel⟩
    · obtain rfl : x = 7 := Int32.toInt_inj.mp (by rw [hz]; decide)
      exact ⟨121, by decide +kernel, by decide +kernel⟩
    · obtain rfl : x = 8 := Int32.toInt_inj.mp (by rw [hz]; decide)
      exact ⟨130, by decide +kernel, by decide +kernel⟩
def sw216_1 (x : Int32) : Nat := if x = 0 then 56 else if x = 1 then 64 else if x = 2 then 72 else if x = 3 then 80 else if x = 4 then 88 else if x = 5 then 96 else if x = 6 then 104 else if x = 7 then 112 else if x = 8 then 120 else if x = 9 then 128 else 136
theorem sw216_1_if {α : Type} (g : Nat → α) (x : Int32) : g (sw216_1 x) = (if x = 0 then g 56 else (if x = 1 then g 64 else (if x = 2 then g 72 else (if x = 3 then g 80 else (if x = 4 then g 88 else (if x = 5 then g 96 else (if x = 6 then g 104 else (if x = 7 then g 112 else (if x = 8 then g 120 else (if x = 9 then g 128 else g 136)))))))))) := by
  unfold sw216_1
  repeat (first | rfl | (split; · rfl))
theorem sw216_1_ok : ∀ x : Int32, ∃ off, tblsw 135 0 9 #[55, 63, 71, 79, 87, 95, 103, 111, 119, 127] x = some off ∧ ((1 : Nat) : Int) + off = .ofNat (sw216_1 x) := by
  intro x
  by_cases h : x.toInt < 0 ∨ 9 < x.toInt
  · refine ⟨135, if_pos h, ?_⟩
    have n0 : ¬ x = 0 := by rintro rfl; revert h; decide
    have n1 : ¬ x = 1 := by rintro rfl; revert h; decide
    have n2 : ¬ x = 2 := by rintro rfl; revert h; decide
    have n3 : ¬ x = 3 := by rintro rfl; revert h; decide
    have n4 : ¬ x = 4 := by rintro rfl; revert h; decide
    have n5 : ¬ x = 5 := by rintro rfl; revert h; decide
    have n6 : ¬ x = 6 := by rintro rfl; revert h; decide
    have n7 : ¬ x = 7 := by rintro rfl; revert h; decide
    have n8 : ¬ x = 8 := by rintro rfl; revert h; decide
    have n9 : ¬ x = 9 := by rintro rfl; revert h; decide
    unfold sw216_1
    rw [if_neg n0]
    rw [if_neg n1]
    rw [if_neg n2]
    rw [if_neg n3]
    rw [if_neg n4]
    rw [if_neg n5]
    rw [if_neg n6]
    rw [if_neg n7]
    rw [if_neg n8]
    rw [if_neg n9]
    rfl
  · have hz : x.toInt = 0 ∨ x.toInt = 1 ∨ x.toInt = 2 ∨ x.toInt = 3 ∨ x.toInt = 4 ∨ x.toInt = 5 ∨ x.toInt = 6 ∨ x.toInt = 7 ∨ x.toInt = 8 ∨ x.toInt = 9 := by omega
    rcases hz with hz | hz | hz | hz | hz | hz | hz | hz | hz | hz
    · obtain rfl : x = 0 := Int32.toInt_inj.mp (by rw [hz]; decide)
      exact ⟨55, by decide +kernel, by decide +kernel⟩
    · obtain rfl : x = 1 := Int32.toInt_inj.mp (by rw [hz]; decide)
      exact ⟨63, by decide +kernel, by decide +kernel⟩
    · obtain rfl : x = 2 := Int32.toInt_inj.mp (by rw [hz]; decide)
      exact ⟨71, by decide +kernel, by decide +kernel⟩
    · obtain rfl : x = 3 := Int32.toInt_inj.mp (by rw [hz]; decide)
      exact ⟨79, by decide +kernel, by decide +kernel⟩
    · obtain rfl : x = 4 := Int32.toInt_inj.mp (by rw [hz]; decide)
      exact ⟨87, by decide +kernel, by decide +kernel⟩
    · obtain rfl : x = 5 := Int32.toInt_inj.mp (by rw [hz]; decide)
      exact ⟨95, by decide +kernel, by decide +kernel⟩
    · obtain rfl : x = 6 := Int32.toInt_inj.mp (by rw [hz]; decide)
      exact ⟨103, by decide +kernel, by decide +kernel⟩
    · obtain rfl : x = 7 := Int32.toInt_inj.mp (by rw [hz]; decide)
      exact ⟨111, by decide +kernel, by decide +kernel⟩
    · obtain rfl : x = 8 := Int32.toInt_inj.mp (by rw [hz]; decide)
      exact ⟨119, by decide +kernel, by decide +kernel⟩
    · obtain rfl : x = 9 := Int32.toInt_inj.mp (by rw [hz]; decide)
      exact ⟨127, by decide +kernel, by decide +kernel⟩
def sw222_26 (x : Int32) : Nat := if x = 98 then 89 else if x = 104 then 76 else if x = 108 then 95 else if x = 110 then 110 else if x = 116 then 83 else 116
theorem sw222_26_if {α : Type} (g : Nat → α) (x : Int32) : g (sw222_26 x) = (if x = 98 then g 89 else (if x = 104 then g 76 else (if x = 108 then g 95 else (if x = 110 then g 110 else (if x = 116 then g 83 else g 116))))) := by
  unfold sw222_26
  repeat (first | rfl | (split; · rfl))
theorem sw222_26_ok : ∀ x : Int32, ((26 : Nat) : Int) + Op.lookupswitch.offset #[(98, 63), (104, 50), (108, 69), (110, 84), (116, 57)].toList 90 x.toInt = .ofNat (sw222_26 x) := by
  intro x
  show ((26 : Nat) : Int) + Op.lookupswitch.offset [(98, 63), (104, 50), (108, 69), (110, 84), (116, 57)] 90 x.toInt = _
  by_cases n98 : x = 98
  · subst n98; decide +kernel
  rw [lv_osw n98 (by decide)]
  by_cases n104 : x = 104
  · subst n104; decide +kernel
  rw [lv_osw n104 (by decide)]
  by_cases n108 : x = 108
  · subst n108; decide +kernel
  rw [lv_osw n108 (by decide)]
  by_cases n110 : x = 110
  · subst n110; decide +kernel
  rw [lv_osw n110 (by decide)]
  by_cases n116 : x = 116
  · subst n116; decide +kernel
  rw [lv_osw n116 (by decide)]
  unfold sw222_26
  rw [if_neg n98]
  rw [if_neg n104]
  rw [if_neg n108]
  rw [if_neg n110]
  rw [if_neg n116]
  rfl
def sw251_1 (x : Int32) : Nat := if x = 105 then 76 else if x = 109 then 97 else if x = 110 then 85 else if x = 113 then 110 else if x = 115 then 124 else if x = 116 then 103 else if x = 117 then 117 else if x = 119 then 78 else 136
theorem sw251_1_if {α : Type} (g : Nat → α) (x : Int32) : g (sw251_1 x) = (if x = 105 then g 76 else (if x = 109 then g 97 else (if x = 110 then g 85 else (if x = 113 then g 110 else (if x = 115 then g 124 else (if x = 116 then g 103 else (if x = 117 then g 117 else (if x = 119 then g 78 else g 136)))))))) := by
  unfold sw251_1
  repeat (first | rfl | (split; · rfl))
theorem sw251_1_ok : ∀ x : Int32, ∃ off, tblsw 135 105 119 #[75, 135, 135, 135, 96, 84, 135, 135, 109, 135, 123, 102, 116, 135, 77] x = some off ∧ ((1 : Nat) : Int) + off = .ofNat (sw251_1 x) := by
  intro x
  by_cases h : x.toInt < 105 ∨ 119 < x.toInt
  · refine ⟨135, if_pos h, ?_⟩
    have n105 : ¬ x = 105 := by rintro rfl; revert h; decide
    have n109 : ¬ x = 109 := by rintro rfl; revert h; decide
    have n110 : ¬ x = 110 := by rintro rfl; revert h; decide
    have n113 : ¬ x = 113 := by rintro rfl; revert h; decide
    have n115 : ¬ x = 115 := by rintro rfl; revert h; decide
    have n116 : ¬ x = 116 := by rintro rfl; revert h; decide
    have n117 : ¬ x = 117 := by rintro rfl; revert h; decide
    have n119 : ¬ x = 119 := by rintro rfl; revert h; decide
    unfold sw251_1
    rw [if_neg n105]
    rw [if_neg n109]
    rw [if_neg n110]
    rw [if_neg n113]
    rw [if_neg n115]
    rw [if_neg n116]
    rw [if_neg n117]
    rw [if_neg n119]
    rfl
  · have hz : x.toInt = 105 ∨ x.toInt = 106 ∨ x.toInt = 107 ∨ x.toInt = 108 ∨ x.toInt = 109 ∨ x.toInt = 110 ∨ x.toInt = 111 ∨ x.toInt = 112 ∨ x.toInt = 113 ∨ x.toInt = 114 ∨ x.toInt = 115 ∨ x.toInt = 116 ∨ x.toInt = 117 ∨ x.toInt = 118 ∨ x.toInt = 119 := by omega
    rcases hz with hz | hz | hz | hz | hz | hz | hz | hz | hz | hz | hz | hz | hz | hz | hz
    · obtain rfl : x = 105 := Int32.toInt_inj.mp (by rw [hz]; decide)
      exact ⟨75, by decide +kernel, by decide +kernel⟩
    · obtain rfl : x = 106 := Int32.toInt_inj.mp (by rw [hz]; decide)
      exact ⟨135, by decide +kernel, by decide +kernel⟩
    · obtain rfl : x = 107 := Int32.toInt_inj.mp (by rw [hz]; decide)
      exact ⟨135, by decide +kernel, by decide +kernel⟩
    · obtain rfl : x = 108 := Int32.toInt_inj.mp (by rw [hz]; decide)
      exact ⟨135, by decide +kernel, by decide +kernel⟩
    · obtain rfl : x = 109 := Int32.toInt_inj.mp (by rw [hz]; decide)
      exact ⟨96, by decide +kernel, by decide +kernel⟩
    · obtain rfl : x = 110 := Int32.toInt_inj.mp (by rw [hz]; decide)
      exact ⟨84, by decide +kernel, by decide +kernel⟩
    · obtain rfl : x = 111 := Int32.toInt_inj.mp (by rw [hz]; decide)
      exact ⟨135, by decide +kernel, by decide +kernel⟩
    · obtain rfl : x = 112 := Int32.toInt_inj.mp (by rw [hz]; decide)
      exact ⟨135, by decide +kernel, by decide +kernel⟩
    · obtain rfl : x = 113 := Int32.toInt_inj.mp (by rw [hz]; decide)
      exact ⟨109, by decide +kernel, by decide +kernel⟩
    · obtain rfl : x = 114 := Int32.toInt_inj.mp (by rw [hz]; decide)
      exact ⟨135, by decide +kernel, by decide +kernel⟩
    · obtain rfl : x = 115 := Int32.toInt_inj.mp (by rw [hz]; decide)
      exact ⟨123, by decide +kernel, by decide +kernel⟩
    · obtain rfl : x = 116 := Int32.toInt_inj.mp (by rw [hz]; decide)
      exact ⟨102, by decide +kernel, by decide +kernel⟩
    · obtain rfl : x = 117 := Int32.toInt_inj.mp (by rw [hz]; decide)
      exact ⟨116, by decide +kernel, by decide +kernel⟩
    · obtain rfl : x = 118 := Int32.toInt_inj.mp (by rw [hz]; decide)
      exact ⟨135, by decide +kernel, by decide +kernel⟩
    · obtain rfl : x = 119 := Int32.toInt_inj.mp (by rw [hz]; decide)
      exact ⟨77, by decide +kernel, by decide +kernel⟩
def sw263_29 (x : Int32) : Nat := if x = 0 then 76 else if x = 1 then 83 else if x = 2 then 90 else if x = 3 then 97 else if x = 4 then 103 else if x = 5 then 109 else if x = 6 then 123 else if x = 7 then 130 else 137
theorem sw263_29_if {α : Type} (g : Nat → α) (x : Int32) : g (sw263_29 x) = (if x = 0 then g 76 else (if x = 1 then g 83 else (if x = 2 then g 90 else (if x = 3 then g 97 else (if x = 4 then g 103 else (if x = 5 then g 109 else (if x = 6 then g 123 else (if x = 7 then g 130 else g 137)))))))) := by
  unfold sw263_29
  repeat (first | rfl | (split; · rfl))
theorem sw263_29_ok : ∀ x : Int32, ∃ off, tblsw 108 0 7 #[47, 54, 61, 68, 74, 80, 94, 101] x = some off ∧ ((29 : Nat) : Int) + off = .ofNat (sw263_29 x) := by
  intro x
  by_cases h : x.toInt < 0 ∨ 7 < x.toInt
  · refine ⟨108, if_pos h, ?_⟩
    have n0 : ¬ x = 0 := by rintro rfl; revert h; decide
    have n1 : ¬ x = 1 := by rintro rfl; revert h; decide
    have n2 : ¬ x = 2 := by rintro rfl; revert h; decide
    have n3 : ¬ x = 3 := by rintro rfl; revert h; decide
    have n4 : ¬ x = 4 := by rintro rfl; revert h; decide
    have n5 : ¬ x = 5 := by rintro rfl; revert h; decide
    have n6 : ¬ x = 6 := by rintro rfl; revert h; decide
    have n7 : ¬ x = 7 := by rintro rfl; revert h; decide
    unfold sw263_29
    rw [if_neg n0]
    rw [if_neg n1]
    rw [if_neg n2]
    rw [if_neg n3]
    rw [if_neg n4]
    rw [if_neg n5]
    rw [if_neg n6]
    rw [if_neg n7]
    rfl
  · have hz : x.toInt = 0 ∨ x.toInt = 1 ∨ x.toInt = 2 ∨ x.toInt = 3 ∨ x.toInt = 4 ∨ x.toInt = 5 ∨ x.toInt = 6 ∨ x.toInt = 7 := by omega
    rcases hz with hz | hz | hz | hz | hz | hz | hz | hz
    · obtain rfl : x = 0 := Int32.toInt_inj.mp (by rw [hz]; decide)
      exact ⟨47, by decide +kernel, by decide +kernel⟩
    · obtain rfl : x = 1 := Int32.toInt_inj.mp (by rw [hz]; decide)
      exact ⟨54, by decide +kernel, by decide +kernel⟩
    · obtain rfl : x = 2 := Int32.toInt_inj.mp (by rw [hz]; decide)
      exact ⟨61, by decide +kernel, by decide +kernel⟩
    · obtain rfl : x = 3 := Int32.toInt_inj.mp (by rw [hz]; decide)
      exact ⟨68, by decide +kernel, by decide +kernel⟩
    · obtain rfl : x = 4 := Int32.toInt_inj.mp (by rw [hz]; decide)
      exact ⟨74, by decide +kernel, by decide +kernel⟩
    · obtain rfl : x = 5 := Int32.toInt_inj.mp (by rw [hz]; decide)
      exact ⟨80, by decide +kernel, by decide +kernel⟩
    · obtain rfl : x = 6 := Int32.toInt_inj.mp (by rw [hz]; decide)
      exact ⟨94, by decide +kernel, by decide +kernel⟩
    · obtain rfl : x = 7 := Int32.toInt_inj.mp (by rw [hz]; decide)
      exact ⟨101, by decide +kernel, by decide +kernel⟩
def sw285_24 (x : Int32) : Nat := if x = 98 then 97 else if x = 104 then 68 else if x = 108 then 111 else if x = 116 then 83 else 134
theorem sw285_24_if {α : Type} (g : Nat → α) (x : Int32) : g (sw285_24 x) = (if x = 98 then g 97 else (if x = 104 then g 68 else (if x = 108 then g 111 else (if x = 116 then g 83 else g 134)))) := by
  unfold sw285_24
  repeat (first | rfl | (split; · rfl))
theorem sw285_24_ok : ∀ x : Int32, ((24 : Nat) : Int) + Op.lookupswitch.offset #[(98, 73), (104, 44), (108, 87), (116, 59)].toList 110 x.toInt = .ofNat (sw285_24 x) := by
  intro x
  show ((24 : Nat) : Int) + Op.lookupswitch.offset [(98, 73), (104, 44), (108, 87), (116, 59)] 110 x.toInt = _
  by_cases n98 : x = 98
  · subst n98; decide +kernel
  rw [lv_osw n98 (by decide)]
  by_cases n104 : x = 104
  · subst n104; decide +kernel
  rw [lv_osw n104 (by decide)]
  by_cases n108 : x = 108
  · subst n108; decide +kernel
  rw [lv_osw n108 (by decide)]
  by_cases n116 : x = 116
  · subst n116; decide +kernel
  rw [lv_osw n116 (by decide)]
  unfold sw285_24
  rw [if_neg n98]
  rw [if_neg n104]
  rw [if_neg n108]
  rw [if_neg n116]
  rfl
def sw329_6 (x : Int32) : Nat := if x = 0 then 60 else if x = 1 then 65 else if x = 2 then 70 else if x = 3 then 75 else if x = 4 then 80 else if x = 5 then 85 else if x = 6 then 90 else if x = 7 then 95 else if x = 8 then 100 else if x = 9 then 105 else 110
theorem sw329_6_if {α : Type} (g : Nat → α) (x : Int32) : g (sw329_6 x) = (if x = 0 then g 60 else (if x = 1 then g 65 else (if x = 2 then g 70 else (if x = 3 then g 75 else (if x = 4 then g 80 else (if x = 5 then g 85 else (if x = 6 then g 90 else (if x = 7 then g 95 else (if x = 8 then g 100 else (if x = 9 then g 105 else g 110)))))))))) := by
  unfold sw329_6
  repeat (first | rfl | (split; · rfl))
theorem sw329_6_ok : ∀ x : Int32, ∃ off, tblsw 104 0 9 #[54, 59, 64, 69, 74, 79, 84, 89, 94, 99] x = some off ∧ ((6 : Nat) : Int) + off = .ofNat (sw329_6 x) := by
  intro x
  by_cases h : x.toInt < 0 ∨ 9 < x.toInt
  · refine ⟨104, if_pos h, ?_⟩
    have n0 : ¬ x = 0 := by rintro rfl; revert h; decide
    have n1 : ¬ x = 1 := by rintro rfl; revert h; decide
    have n2 : ¬ x = 2 := by rintro rfl; revert h; decide
    have n3 : ¬ x = 3 := by rintro rfl; revert h; decide
    have n4 : ¬ x = 4 := by rintro rfl; revert h; decide
    have n5 : ¬ x = 5 := by rintro rfl; revert h; decide
    have n6 : ¬ x = 6 := by rintro rfl; revert h; decide
    have n7 : ¬ x = 7 := by rintro rfl; revert h; decide
    have n8 : ¬ x = 8 := by rintro rfl; revert h; decide
    have n9 : ¬ x = 9 := by rintro rfl; revert h; decide
    unfold sw329_6
    rw [if_neg n0]
    rw [if_neg n1]
    rw [if_neg n2]
    rw [if_neg n3]
    rw [if_neg n4]
    rw [if_neg n5]
    rw [if_neg n6]
    rw [if_neg n7]
    rw [if_neg n8]
    rw [if_neg n9]
    rfl
  · have hz : x.toInt = 0 ∨ x.toInt = 1 ∨ x.toInt = 2 ∨ x.toInt = 3 ∨ x.toInt = 4 ∨ x.toInt = 5 ∨ x.toInt = 6 ∨ x.toInt = 7 ∨ x.toInt = 8 ∨ x.toInt = 9 := by omega
    rcases hz with hz | hz | hz | hz | hz | hz | hz | hz | hz | hz
    · obtain rfl : x = 0 := Int32.toInt_inj.mp (by rw [hz]; decide)
      exact ⟨54, by decide +kernel, by decide +kernel⟩
    · obtain rfl : x = 1 := Int32.toInt_inj.mp (by rw [hz]; decide)
      exact ⟨59, by decide +kernel, by decide +kernel⟩
    · obtain rfl : x = 2 := Int32.toInt_inj.mp (by rw [hz]; decide)
      exact ⟨64, by decide +kernel, by decide +kernel⟩
    · obtain rfl : x = 3 := Int32.toInt_inj.mp (by rw [hz]; decide)
      exact ⟨69, by decide +kernel, by decide +kernel⟩
    · obtain rfl : x = 4 := Int32.toInt_inj.mp (by rw [hz]; decide)
      exact ⟨74, by decide +kernel, by decide +kernel⟩
    · obtain rfl : x = 5 := Int32.toInt_inj.mp (by rw [hz]; decide)
      exact ⟨79, by decide +kernel, by decide +kernel⟩
    · obtain rfl : x = 6 := Int32.toInt_inj.mp (by rw [hz]; decide)
      exact ⟨84, by decide +kernel, by decide +kernel⟩
    · obtain rfl : x = 7 := Int32.toInt_inj.mp (by rw [hz]; decide)
      exact ⟨89, by decide +kernel, by decide +kernel⟩
    · obtain rfl : x = 8 := Int32.toInt_inj.mp (by rw [hz]; decide)
      exact ⟨94, by decide +kernel, by decide +kernel⟩
    · obtain rfl : x = 9 := Int32.toInt_inj.mp (by rw [hz]; decide)
      exact ⟨99, by decide +kernel, by decide +kernel⟩
