/-! the law: its loop as a function -/
def J_258_1392_18 (X : AX) (x3 : Int32) (M : IM) : Option ((Int32 × IM) ⊕ ((Int32 × IM) ⊕ (Int32 × IM))) := some (Sum.inl (x3 + 6, M))
def J_258_1369_18 (X : AX) (x3 : Int32) (M : IM) : Option ((Int32 × IM) ⊕ ((Int32 × IM) ⊕ (Int32 × IM))) := if inb (x3 + 1) X.1 = true then (match F_131 (X.2 (x3 + 1).toNatClampNeg) M with | none => none | some (c40, M40) => (if inb (x3 + 1) X.1 = true then (match F_251 (X.2 (x3 + 1).toNatClampNeg) M40 with | none => none | some (c41, M41) => (if c40 = c41 then (J_258_1392_18 X x3 M41) else (some (Sum.inr (Sum.inr (0, M41)))))) else none)) else none
def J_258_1346_18 (X : AX) (x3 : Int32) (M : IM) : Option ((Int32 × IM) ⊕ ((Int32 × IM) ⊕ (Int32 × IM))) := if inb (x3 + 1) X.1 = true then (match F_130 (X.2 (x3 + 1).toNatClampNeg) M with | none => none | some (c45, M45) => (if inb (x3 + 1) X.1 = true then (match F_250 (X.2 (x3 + 1).toNatClampNeg) M45 with | none => none | some (c46, M46) => (if c45 = c46 then (J_258_1392_18 X x3 M46) else (some (Sum.inr (Sum.inr (0, M46)))))) else none)) else none
def J_258_1323_18 (X : AX) (x3 : Int32) (M : IM) : Option ((Int32 × IM) ⊕ ((Int32 × IM) ⊕ (Int32 × IM))) := if inb (x3 + 1) X.1 = true then (match F_129 (X.2 (x3 + 1).toNatClampNeg) M with | none => none | some (c50, M50) => (if inb (x3 + 1) X.1 = true then (match F_249 (X.2 (x3 + 1).toNatClampNeg) M50 with | none => none | some (c51, M51) => (if c50 = c51 then (J_258_1392_18 X x3 M51) else (some (Sum.inr (Sum.inr (0, M51)))))) else none)) else none
def J_258_1300_18 (X : AX) (x3 : Int32) (M : IM) : Option ((Int32 × IM) ⊕ ((Int32 × IM) ⊕ (Int32 × IM))) := if inb (x3 + 1) X.1 = true then (match F_128 (X.2 (x3 + 1).toNatClampNeg) M with | none => none | some (c55, M55) => (if inb (x3 + 1) X.1 = true then (match F_248 (X.2 (x3 + 1).toNatClampNeg) M55 with | none => none | some (c56, M56) => (if c55 = c56 then (J_258_1392_18 X x3 M56) else (some (Sum.inr (Sum.inr (0, M56)))))) else none)) else none
def J_258_1287_18 (X : AX) (x3 : Int32) (M : IM) : Option ((Int32 × IM) ⊕ ((Int32 × IM) ⊕ (Int32 × IM))) := (match F_127 M with | none => none | some (c60, M60) => (match F_247 M60 with | none => none | some (c61, M61) => (if c60 = c61 then (J_258_1392_18 X x3 M61) else (some (Sum.inr (Sum.inr (0, M61)))))))
def J_258_1274_18 (X : AX) (x3 : Int32) (M : IM) : Option ((Int32 × IM) ⊕ ((Int32 × IM) ⊕ (Int32 × IM))) := (match F_126 M with | none => none | some (c63, M63) => (match F_246 M63 with | none => none | some (c64, M64) => (if c63 = c64 then (J_258_1392_18 X x3 M64) else (some (Sum.inr (Sum.inr (0, M64)))))))
def J_258_1211_18 (X : AX) (x3 : Int32) (M : IM) : Option ((Int32 × IM) ⊕ ((Int32 × IM) ⊕ (Int32 × IM))) := if inb (x3 + 1) X.1 = true then (if inb (x3 + 2) X.1 = true then (if inb (x3 + 3) X.1 = true then (if inb (x3 + 4) X.1 = true then (if inb (x3 + 5) X.1 = true then (match F_125 (X.2 (x3 + 1).toNatClampNeg) (X.2 (x3 + 2).toNatClampNeg) (X.2 (x3 + 3).toNatClampNeg) (X.2 (x3 + 4).toNatClampNeg) (X.2 (x3 + 5).toNatClampNeg) M with | none => none | some (c66, M66) => (if inb (x3 + 1) X.1 = true then (if inb (x3 + 2) X.1 = true then (if inb (x3 + 3) X.1 = true then (if inb (x3 + 4) X.1 = true then (if inb (x3 + 5) X.1 = true then (match F_245 (X.2 (x3 + 1).toNatClampNeg) (X.2 (x3 + 2).toNatClampNeg) (X.2 (x3 + 3).toNatClampNeg) (X.2 (x3 + 4).toNatClampNeg) (X.2 (x3 + 5).toNatClampNeg) M66 with | none => none | some (c67, M67) => (if c66 = c67 then (J_258_1392_18 X x3 M67) else (some (Sum.inr (Sum.inr (0, M67)))))) else none) else none) else none) else none) else none)) else none) else none) else none) else none) else none
def J_258_1168_18 (X : AX) (x3 : Int32) (M : IM) : Option ((Int32 × IM) ⊕ ((Int32 × IM) ⊕ (Int32 × IM))) := if inb (x3 + 1) X.1 = true then (if inb (x3 + 2) X.1 = true then (if inb (x3 + 3) X.1 = true then (match F_124 (X.2 (x3 + 1).toNatClampNeg) (X.2 (x3 + 2).toNatClampNeg) (X.2 (x3 + 3).toNatClampNeg) M with | none => none | some (c79, M79) => (if inb (x3 + 1) X.1 = true then (if inb (x3 + 2) X.1 = true then (if inb (x3 + 3) X.1 = true then (match F_244 (X.2 (x3 + 1).toNatClampNeg) (X.2 (x3 + 2).toNatClampNeg) (X.2 (x3 + 3).toNatClampNeg) M79 with | none => none | some (c80, M80) => (if c79 = c80 then (J_258_1392_18 X x3 M80) else (some (Sum.inr (Sum.inr (0, M80)))))) else none) else none) else none)) else none) else none) else none
def J_258_1125_18 (X : AX) (x3 : Int32) (M : IM) : Option ((Int32 × IM) ⊕ ((Int32 × IM) ⊕ (Int32 × IM))) := if inb (x3 + 1) X.1 = true then (if inb (x3 + 2) X.1 = true then (if inb (x3 + 3) X.1 = true then (match F_123 (X.2 (x3 + 1).toNatClampNeg) (X.2 (x3 + 2).toNatClampNeg) (X.2 (x3 + 3).toNatClampNeg) M with | none => none | some (c88, M88) => (if inb (x3 + 1) X.1 = true then (if inb (x3 + 2) X.1 = true then (if inb (x3 + 3) X.1 = true then (match F_243 (X.2 (x3 + 1).toNatClampNeg) (X.2 (x3 + 2).toNatClampNeg) (X.2 (x3 + 3).toNatClampNeg) M88 with | none => none | some (c89, M89) => (if c88 = c89 then (J_258_1392_18 X x3 M89) else (some (Sum.inr (Sum.inr (0, M89)))))) else none) else none) else none)) else none) else none) else none
def J_258_1102_18 (X : AX) (x3 : Int32) (M : IM) : Option ((Int32 × IM) ⊕ ((Int32 × IM) ⊕ (Int32 × IM))) := if inb (x3 + 1) X.1 = true then (match F_122 (X.2 (x3 + 1).toNatClampNeg) M with | none => none | some (c97, M97) => (if inb (x3 + 1) X.1 = true then (match F_241 (X.2 (x3 + 1).toNatClampNeg) M97 with | none => none | some (c98, M98) => (if c97 = c98 then (J_258_1392_18 X x3 M98) else (some (Sum.inr (Sum.inr (0, M98)))))) else none)) else none
def J_258_1059_18 (X : AX) (x3 : Int32) (M : IM) : Option ((Int32 × IM) ⊕ ((Int32 × IM) ⊕ (Int32 × IM))) := if inb (x3 + 1) X.1 = true then (if inb (x3 + 2) X.1 = true then (if inb (x3 + 3) X.1 = true then (match F_121 (X.2 (x3 + 1).toNatClampNeg) (X.2 (x3 + 2).toNatClampNeg) (X.2 (x3 + 3).toNatClampNeg) M with | none => none | some (c102, M102) => (if inb (x3 + 1) X.1 = true then (if inb (x3 + 2) X.1 = true then (if inb (x3 + 3) X.1 = true then (match F_240 (X.2 (x3 + 1).toNatClampNeg) (X.2 (x3 + 2).toNatClampNeg) (X.2 (x3 + 3).toNatClampNeg) M102 with | none => none | some (c103, M103) => (if c102 = c103 then (J_258_1392_18 X x3 M103) else (some (Sum.inr (Sum.inr (0, M103)))))) else none) else none) else none)) else none) else none) else none
def J_258_1026_18 (X : AX) (x3 : Int32) (M : IM) : Option ((Int32 × IM) ⊕ ((Int32 × IM) ⊕ (Int32 × IM))) := if inb (x3 + 1) X.1 = true then (if inb (x3 + 2) X.1 = true then (match F_120 (X.2 (x3 + 1).toNatClampNeg) (X.2 (x3 + 2).toNatClampNeg) M with | none => none | some (c111, M111) => (if inb (x3 + 1) X.1 = true then (if inb (x3 + 2) X.1 = true then (match F_234 (X.2 (x3 + 1).toNatClampNeg) (X.2 (x3 + 2).toNatClampNeg) M111 with | none => none | some (c112, M112) => (if c111 = c112 then (J_258_1392_18 X x3 M112) else (some (Sum.inr (Sum.inr (0, M112)))))) else none) else none)) else none) else none
def J_258_1003_18 (X : AX) (x3 : Int32) (M : IM) : Option ((Int32 × IM) ⊕ ((Int32 × IM) ⊕ (Int32 × IM))) := if inb (x3 + 1) X.1 = true then (match F_119 (X.2 (x3 + 1).toNatClampNeg) M with | none => none | some (c118, M118) => (if inb (x3 + 1) X.1 = true then (match F_232 (X.2 (x3 + 1).toNatClampNeg) M118 with | none => none | some (c119, M119) => (if c118 = c119 then (J_258_1392_18 X x3 M119) else (some (Sum.inr (Sum.inr (0, M119)))))) else none)) else none
def J_258_970_18 (X : AX) (x3 : Int32) (M : IM) : Option ((Int32 × IM) ⊕ ((Int32 × IM) ⊕ (Int32 × IM))) := if inb (x3 + 1) X.1 = true then (if inb (x3 + 2) X.1 = true then (match F_118 (X.2 (x3 + 1).toNatClampNeg) (X.2 (x3 + 2).toNatClampNeg) M with | none => none | some (c123, M123) => (if inb (x3 + 1) X.1 = true then (if inb (x3 + 2) X.1 = true then (match F_231 (X.2 (x3 + 1).toNatClampNeg) (X.2 (x3 + 2).toNatClampNeg) M123 with | none => none | some (c124, M124) => (if c123 = c124 then (J_258_1392_18 X x3 M124) else (some (Sum.inr (Sum.inr (0, M124)))))) else none) else none)) else none) else none
def J_258_937_18 (X : AX) (x3 : Int32) (M : IM) : Option ((Int32 × IM) ⊕ ((Int32 × IM) ⊕ (Int32 × IM))) := if inb (x3 + 1) X.1 = true then (if inb (x3 + 2) X.1 = true then (match F_117 (X.2 (x3 + 1).toNatClampNeg) (X.2 (x3 + 2).toNatClampNeg) M with | none => none | some (c130, M130) => (if inb (x3 + 1) X.1 = true then (if inb (x3 + 2) X.1 = true then (match F_229 (X.2 (x3 + 1).toNatClampNeg) (X.2 (x3 + 2).toNatClampNeg) M130 with | none => none | some (c131, M131) => (if c130 = c131 then (J_258_1392_18 X x3 M131) else (some (Sum.inr (Sum.inr (0, M131)))))) else none) else none)) else none) else none
def J_258_914_18 (X : AX) (x3 : Int32) (M : IM) : Option ((Int32 × IM) ⊕ ((Int32 × IM) ⊕ (Int32 × IM))) := if inb (x3 + 1) X.1 = true then (match F_116 (X.2 (x3 + 1).toNatClampNeg) M with | none => none | some (c137, M137) => (if inb (x3 + 1) X.1 = true then (match F_227 (X.2 (x3 + 1).toNatClampNeg) M137 with | none => none | some (c138, M138) => (if c137 = c138 then (J_258_1392_18 X x3 M138) else (some (Sum.inr (Sum.inr (0, M138)))))) else none)) else none
def J_258_891_18 (X : AX) (x3 : Int32) (M : IM) : Option ((Int32 × IM) ⊕ ((Int32 × IM) ⊕ (Int32 × IM))) := if inb (x3 + 1) X.1 = true then (match F_115 (X.2 (x3 + 1).toNatClampNeg) M with | none => none | some (c142, M142) => (if inb (x3 + 1) X.1 = true then (match F_226 (X.2 (x3 + 1).toNatClampNeg) M142 with | none => none | some (c143, M143) => (if c142 = c143 then (J_258_1392_18 X x3 M143) else (some (Sum.inr (Sum.inr (0, M143)))))) else none)) else none
def J_258_858_18 (X : AX) (x3 : Int32) (M : IM) : Option ((Int32 × IM) ⊕ ((Int32 × IM) ⊕ (Int32 × IM))) := if inb (x3 + 1) X.1 = true then (if inb (x3 + 2) X.1 = true then (match F_114 (X.2 (x3 + 1).toNatClampNeg) (X.2 (x3 + 2).toNatClampNeg) M with | none => none | some (c147, M147) => (if inb (x3 + 1) X.1 = true then (if inb (x3 + 2) X.1 = true then (match F_224 (X.2 (x3 + 1).toNatClampNeg) (X.2 (x3 + 2).toNatClampNeg) M147 with | none => none | some (c148, M148) => (if c147 = c148 then (J_258_1392_18 X x3 M148) else (some (Sum.inr (Sum.inr (0, M148)))))) else none) else none)) else none) else none
def J_258_825_18 (X : AX) (x3 : Int32) (M : IM) : Option ((Int32 × IM) ⊕ ((Int32 × IM) ⊕ (Int32 × IM))) := if inb (x3 + 1) X.1 = true then (if inb (x3 + 2) X.1 = true then (match F_113 (X.2 (x3 + 1).toNatClampNeg) (X.2 (x3 + 2).toNatClampNeg) M with | none => none | some (c154, M154) => (if inb (x3 + 1) X.1 = true then (if inb (x3 + 2) X.1 = true then (match F_222 (X.2 (x3 + 1).toNatClampNeg) (X.2 (x3 + 2).toNatClampNeg) M154 with | none => none | some (c155, M155) => (if c154 = c155 then (J_258_1392_18 X x3 M155) else (some (Sum.inr (Sum.inr (0, M155)))))) else none) else none)) else none) else none
def J_258_802_18 (X : AX) (x3 : Int32) (M : IM) : Option ((Int32 × IM) ⊕ ((Int32 × IM) ⊕ (Int32 × IM))) := if inb (x3 + 1) X.1 = true then (match F_112 (X.2 (x3 + 1).toNatClampNeg) M with | none => none | some (c161, M161) => (if inb (x3 + 1) X.1 = true then (match F_216 (X.2 (x3 + 1).toNatClampNeg) M161 with | none => none | some (c162, M162) => (if c161 = c162 then (J_258_1392_18 X x3 M162) else (some (Sum.inr (Sum.inr (0, M162)))))) else none)) else none
def J_258_779_18 (X : AX) (x3 : Int32) (M : IM) : Option ((Int32 × IM) ⊕ ((Int32 × IM) ⊕ (Int32 × IM))) := if inb (x3 + 1) X.1 = true then (match F_111 (X.2 (x3 + 1).toNatClampNeg) M with | none => none | some (c166, M166) => (if inb (x3 + 1) X.1 = true then (match F_215 (X.2 (x3 + 1).toNatClampNeg) M166 with | none => none | some (c167, M167) => (if c166 = c167 then (J_258_1392_18 X x3 M167) else (some (Sum.inr (Sum.inr (0, M167)))))) else none)) else none
def J_258_746_18 (X : AX) (x3 : Int32) (M : IM) : Option ((Int32 × IM) ⊕ ((Int32 × IM) ⊕ (Int32 × IM))) := if inb (x3 + 1) X.1 = true then (if inb (x3 + 2) X.1 = true then (match F_110 (X.2 (x3 + 1).toNatClampNeg) (X.2 (x3 + 2).toNatClampNeg) M with | none => none | some (c171, M171) => (if inb (x3 + 1) X.1 = true then (if inb (x3 + 2) X.1 = true then (match F_213 (X.2 (x3 + 1).toNatClampNeg) (X.2 (x3 + 2).toNatClampNeg) M171 with | none => none | some (c172, M172) => (if c171 = c172 then (J_258_1392_18 X x3 M172) else (some (Sum.inr (Sum.inr (0, M172)))))) else none) else none)) else none) else none
def J_258_722_18 (X : AX) (x3 : Int32) (M : IM) : Option ((Int32 × IM) ⊕ ((Int32 × IM) ⊕ (Int32 × IM))) := if inb (x3 + 1) X.1 = true then (match F_109 (X.2 (x3 + 1).toNatClampNeg) M with | none => none | some (c178, M178) => (if inb (x3 + 1) X.1 = true then (match F_212 (X.2 (x3 + 1).toNatClampNeg) M178 with | none => none | some (c179, M179) => (if lg_cmp c178 c179 = 0 then (J_258_1392_18 X x3 M179) else (some (Sum.inr (Sum.inr (0, M179)))))) else none)) else none
def J_258_699_18 (X : AX) (x3 : Int32) (M : IM) : Option ((Int32 × IM) ⊕ ((Int32 × IM) ⊕ (Int32 × IM))) := if inb (x3 + 1) X.1 = true then (match F_108 (X.2 (x3 + 1).toNatClampNeg) M with | none => none | some (c183, M183) => (if inb (x3 + 1) X.1 = true then (match F_209 (X.2 (x3 + 1).toNatClampNeg) M183 with | none => none | some (c184, M184) => (if c183 = c184 then (J_258_1392_18 X x3 M184) else (some (Sum.inr (Sum.inr (0, M184)))))) else none)) else none
def J_258_666_18 (X : AX) (x3 : Int32) (M : IM) : Option ((Int32 × IM) ⊕ ((Int32 × IM) ⊕ (Int32 × IM))) := if inb (x3 + 1) X.1 = true then (if inb (x3 + 2) X.1 = true then (match F_107 (X.2 (x3 + 1).toNatClampNeg) (X.2 (x3 + 2).toNatClampNeg) M with | none => none | some (c188, M188) => (if inb (x3 + 1) X.1 = true then (if inb (x3 + 2) X.1 = true then (match F_208 (X.2 (x3 + 1).toNatClampNeg) (X.2 (x3 + 2).toNatClampNeg) M188 with | none => none | some (c189, M189) => (if c188 = c189 then (J_258_1392_18 X x3 M189) else (some (Sum.inr (Sum.inr (0, M189)))))) else none) else none)) else none) else none
def J_258_653_18 (X : AX) (x3 : Int32) (M : IM) : Option ((Int32 × IM) ⊕ ((Int32 × IM) ⊕ (Int32 × IM))) := (match F_106 M with | none => none | some c195 => (match F_202 M with | none => none | some c196 => (if c195 = c196 then (J_258_1392_18 X x3 M) else (some (Sum.inr (Sum.inr (0, M)))))))
def J_258_630_18 (X : AX) (x3 : Int32) (M : IM) : Option ((Int32 × IM) ⊕ ((Int32 × IM) ⊕ (Int32 × IM))) := if inb (x3 + 1) X.1 = true then (match F_105 (X.2 (x3 + 1).toNatClampNeg) M with | none => none | some (c198, M198) => (if inb (x3 + 1) X.1 = true then (match F_201 (X.2 (x3 + 1).toNatClampNeg) M198 with | none => none | some (c199, M199) => (if c198 = c199 then (J_258_1392_18 X x3 M199) else (some (Sum.inr (Sum.inr (0, M199)))))) else none)) else none
def J_258_577_18 (X : AX) (x3 : Int32) (M : IM) : Option ((Int32 × IM) ⊕ ((Int32 × IM) ⊕ (Int32 × IM))) := if inb (x3 + 1) X.1 = true then (if inb (x3 + 2) X.1 = true then (if inb (x3 + 3) X.1 = true then (if inb (x3 + 4) X.1 = true then (match F_104 (X.2 (x3 + 1).toNatClampNeg) (X.2 (x3 + 2).toNatClampNeg) (X.2 (x3 + 3).toNatClampNeg) (X.2 (x3 + 4).toNatClampNeg) M with | none => none | some (c203, M203) => (if inb (x3 + 1) X.1 = true then (if inb (x3 + 2) X.1 = true then (if inb (x3 + 3) X.1 = true then (if inb (x3 + 4) X.1 = true then (match F_199 (X.2 (x3 + 1).toNatClampNeg) (X.2 (x3 + 2).toNatClampNeg) (X.2 (x3 + 3).toNatClampNeg) (X.2 (x3 + 4).toNatClampNeg) M203 with | none => none | some (c204, M204) => (if c203 = c204 then (J_258_1392_18 X x3 M204) else (some (Sum.inr (Sum.inr (0, M204)))))) else none) else none) else none) else none)) else none) else none) else none) else none
def J_258_534_18 (X : AX) (x3 : Int32) (M : IM) : Option ((Int32 × IM) ⊕ ((Int32 × IM) ⊕ (Int32 × IM))) := if inb (x3 + 1) X.1 = true then (if inb (x3 + 2) X.1 = true then (if inb (x3 + 3) X.1 = true then (match F_103 (X.2 (x3 + 1).toNatClampNeg) (X.2 (x3 + 2).toNatClampNeg) (X.2 (x3 + 3).toNatClampNeg) M with | none => none | some (c214, M214) => (if inb (x3 + 1) X.1 = true then (if inb (x3 + 2) X.1 = true then (if inb (x3 + 3) X.1 = true then (match F_197 (X.2 (x3 + 1).toNatClampNeg) (X.2 (x3 + 2).toNatClampNeg) (X.2 (x3 + 3).toNatClampNeg) M214 with | none => none | some (c215, M215) => (if c214 = c215 then (J_258_1392_18 X x3 M215) else (some (Sum.inr (Sum.inr (0, M215)))))) else none) else none) else none)) else none) else none) else none
def J_258_501_18 (X : AX) (x3 : Int32) (M : IM) : Option ((Int32 × IM) ⊕ ((Int32 × IM) ⊕ (Int32 × IM))) := if inb (x3 + 1) X.1 = true then (if inb (x3 + 2) X.1 = true then (match F_102 (X.2 (x3 + 1).toNatClampNeg) (X.2 (x3 + 2).toNatClampNeg) M with | none => none | some (c223, M223) => (if inb (x3 + 1) X.1 = true then (if inb (x3 + 2) X.1 = true then (match F_193 (X.2 (x3 + 1).toNatClampNeg) (X.2 (x3 + 2).toNatClampNeg) M223 with | none => none | some (c224, M224) => (if c223 = c224 then (J_258_1392_18 X x3 M224) else (some (Sum.inr (Sum.inr (0, M224)))))) else none) else none)) else none) else none
def J_258_468_18 (X : AX) (x3 : Int32) (M : IM) : Option ((Int32 × IM) ⊕ ((Int32 × IM) ⊕ (Int32 × IM))) := if inb (x3 + 1) X.1 = true then (if inb (x3 + 2) X.1 = true then (match F_101 (X.2 (x3 + 1).toNatClampNeg) (X.2 (x3 + 2).toNatClampNeg) M with | none => none | some (c230, M230) => (if inb (x3 + 1) X.1 = true then (if inb (x3 + 2) X.1 = true then (match F_191 (X.2 (x3 + 1).toNatClampNeg) (X.2 (x3 + 2).toNatClampNeg) M230 with | none => none | some (c231, M231) => (if c230 = c231 then (J_258_1392_18 X x3 M231) else (some (Sum.inr (Sum.inr (0, M231)))))) else none) else none)) else none) else none
def J_258_435_18 (X : AX) (x3 : Int32) (M : IM) : Option ((Int32 × IM) ⊕ ((Int32 × IM) ⊕ (Int32 × IM))) := if inb (x3 + 1) X.1 = true then (if inb (x3 + 2) X.1 = true then (match F_100 (X.2 (x3 + 1).toNatClampNeg) (X.2 (x3 + 2).toNatClampNeg) M with | none => none | some (c237, M237) => (if inb (x3 + 1) X.1 = true then (if inb (x3 + 2) X.1 = true then (match F_190 (X.2 (x3 + 1).toNatClampNeg) (X.2 (x3 + 2).toNatClampNeg) M237 with | none => none | some (c238, M238) => (if c237 = c238 then (J_258_1392_18 X x3 M238) else (some (Sum.inr (Sum.inr (0, M238)))))) else none) else none)) else none) else none
def J_258_372_18 (X : AX) (x3 : Int32) (M : IM) : Option ((Int32 × IM) ⊕ ((Int32 × IM) ⊕ (Int32 × IM))) := if inb (x3 + 1) X.1 = true then (if inb (x3 + 2) X.1 = true then (if inb (x3 + 3) X.1 = true then (match F_99 ((((X.2 (x3 + 1).toNatClampNeg).toInt64) <<< ((32 : Int32).toInt64 &&& 63)) ||| (((X.2 (x3 + 2).toNatClampNeg).toInt64) &&& 4294967295)) (X.2 (x3 + 3).toNatClampNeg) M with | none => none | some (c244, M244) => (if inb (x3 + 1) X.1 = true then (if inb (x3 + 2) X.1 = true then (if inb (x3 + 3) X.1 = true then (match F_174 ((((X.2 (x3 + 1).toNatClampNeg).toInt64) <<< ((32 : Int32).toInt64 &&& 63)) ||| (((X.2 (x3 + 2).toNatClampNeg).toInt64) &&& 4294967295)) (X.2 (x3 + 3).toNatClampNeg) M244 with | none => none | some (c245, M245) => (if c244 = c245 then (J_258_1392_18 X x3 M245) else (some (Sum.inr (Sum.inr (0, M245)))))) else none) else none) else none)) else none) else none) else none
def J_258_349_18 (X : AX) (x3 : Int32) (M : IM) : Option ((Int32 × IM) ⊕ ((Int32 × IM) ⊕ (Int32 × IM))) := if inb (x3 + 1) X.1 = true then (match F_98 (X.2 (x3 + 1).toNatClampNeg) M with | none => none | some (c253, M253) => (if inb (x3 + 1) X.1 = true then (match F_173 (X.2 (x3 + 1).toNatClampNeg) M253 with | none => none | some (c254, M254) => (if c253 = c254 then (J_258_1392_18 X x3 M254) else (some (Sum.inr (Sum.inr (0, M254)))))) else none)) else none
def J_258_326_18 (X : AX) (x3 : Int32) (M : IM) : Option ((Int32 × IM) ⊕ ((Int32 × IM) ⊕ (Int32 × IM))) := if inb (x3 + 1) X.1 = true then (match F_97 (X.2 (x3 + 1).toNatClampNeg) M with | none => none | some (c258, M258) => (if inb (x3 + 1) X.1 = true then (match F_171 (X.2 (x3 + 1).toNatClampNeg) M258 with | none => none | some (c259, M259) => (if c258 = c259 then (J_258_1392_18 X x3 M259) else (some (Sum.inr (Sum.inr (0, M259)))))) else none)) else none
def J_258_303_18 (X : AX) (x3 : Int32) (M : IM) : Option ((Int32 × IM) ⊕ ((Int32 × IM) ⊕ (Int32 × IM))) := if inb (x3 + 1) X.1 = true then (match F_96 (X.2 (x3 + 1).toNatClampNeg) M with | none => none | some (c263, M263) => (if inb (x3 + 1) X.1 = true then (match F_170 (X.2 (x3 + 1).toNatClampNeg) M263 with | none => none | some (c264, M264) => (if c263 = c264 then (J_258_1392_18 X x3 M264) else (some (Sum.inr (Sum.inr (0, M264)))))) else none)) else none
def J_258_270_18 (X : AX) (x3 : Int32) (M : IM) : Option ((Int32 × IM) ⊕ ((Int32 × IM) ⊕ (Int32 × IM))) := if inb (x3 + 1) X.1 = true then (if inb (x3 + 2) X.1 = true then (match F_95 (X.2 (x3 + 1).toNatClampNeg) (X.2 (x3 + 2).toNatClampNeg) M with | none => none | some (c268, M268) => (if inb (x3 + 1) X.1 = true then (if inb (x3 + 2) X.1 = true then (match F_169 (X.2 (x3 + 1).toNatClampNeg) (X.2 (x3 + 2).toNatClampNeg) M268 with | none => none | some (c269, M269) => (if c268 = c269 then (J_258_1392_18 X x3 M269) else (some (Sum.inr (Sum.inr (0, M269)))))) else none) else none)) else none) else none
def J_258_237_18 (X : AX) (x3 : Int32) (M : IM) : Option ((Int32 × IM) ⊕ ((Int32 × IM) ⊕ (Int32 × IM))) := if inb (x3 + 1) X.1 = true then (if inb (x3 + 2) X.1 = true then (match F_94 (X.2 (x3 + 1).toNatClampNeg) (X.2 (x3 + 2).toNatClampNeg) M with | none => none | some (c275, M275) => (if inb (x3 + 1) X.1 = true then (if inb (x3 + 2) X.1 = true then (match F_168 (X.2 (x3 + 1).toNatClampNeg) (X.2 (x3 + 2).toNatClampNeg) M275 with | none => none | some (c276, M276) => (if c275 = c276 then (J_258_1392_18 X x3 M276) else (some (Sum.inr (Sum.inr (0, M276)))))) else none) else none)) else none) else none
def J_258_204_18 (X : AX) (x3 : Int32) (M : IM) : Option ((Int32 × IM) ⊕ ((Int32 × IM) ⊕ (Int32 × IM))) := if inb (x3 + 1) X.1 = true then (if inb (x3 + 2) X.1 = true then (match F_93 (X.2 (x3 + 1).toNatClampNeg) (X.2 (x3 + 2).toNatClampNeg) M with | none => none | some (c282, M282) => (if inb (x3 + 1) X.1 = true then (if inb (x3 + 2) X.1 = true then (match F_167 (X.2 (x3 + 1).toNatClampNeg) (X.2 (x3 + 2).toNatClampNeg) M282 with | none => none | some (c283, M283) => (if c282 = c283 then (J_258_1392_18 X x3 M283) else (some (Sum.inr (Sum.inr (0, M283)))))) else none) else none)) else none) else none
def B_258_18 (X : AX) : (Int32 × IM) → Option ((Int32 × IM) ⊕ ((Int32 × IM) ⊕ (Int32 × IM))) := fun (x3, M) => if (Int32.ofNat X.1) - 6 < x3 then (some (Sum.inr (Sum.inl (x3, M)))) else (if inb x3 X.1 = true then (if ((X.2 x3.toNatClampNeg) &&& 63) = 0 then (J_258_204_18 X x3 M) else (if ((X.2 x3.toNatClampNeg) &&& 63) = 1 then (J_258_237_18 X x3 M) else (if ((X.2 x3.toNatClampNeg) &&& 63) = 2 then (J_258_270_18 X x3 M) else (if ((X.2 x3.toNatClampNeg) &&& 63) = 3 then (J_258_303_18 X x3 M) else (if ((X.2 x3.toNatClampNeg) &&& 63) = 4 then (J_258_326_18 X x3 M) else (if ((X.2 x3.toNatClampNeg) &&& 63) = 5 then (J_258_349_18 X x3 M) else (if ((X.2 x3.toNatClampNeg) &&& 63) = 6 then (J_258_372_18 X x3 M) else (if ((X.2 x3.toNatClampNeg) &&& 63) = 7 then (J_258_435_18 X x3 M) else (if ((X.2 x3.toNatClampNeg) &&& 63) = 8 then (J_258_468_18 X x3 M) else (if ((X.2 x3.toNatClampNeg) &&& 63) = 9 then (J_258_501_18 X x3 M) else (if ((X.2 x3.toNatClampNeg) &&& 63) = 10 then (J_258_534_18 X x3 M) else (if ((X.2 x3.toNatClampNeg) &&& 63) = 11 then (J_258_577_18 X x3 M) else (if ((X.2 x3.toNatClampNeg) &&& 63) = 12 then (J_258_630_18 X x3 M) else (if ((X.2 x3.toNatClampNeg) &&& 63) = 13 then (J_258_653_18 X x3 M) else (if ((X.2 x3.toNatClampNeg) &&& 63) = 14 then (J_258_666_18 X x3 M) else (if ((X.2 x3.toNatClampNeg) &&& 63) = 15 then (J_258_699_18 X x3 M) else (if ((X.2 x3.toNatClampNeg) &&& 63) = 16 then (J_258_722_18 X x3 M) else (if ((X.2 x3.toNatClampNeg) &&& 63) = 17 then (J_258_746_18 X x3 M) else (if ((X.2 x3.toNatClampNeg) &&& 63) = 18 then (J_258_779_18 X x3 M) else (if ((X.2 x3.toNatClampNeg) &&& 63) = 19 then (J_258_802_18 X x3 M) else (if ((X.2 x3.toNatClampNeg) &&& 63) = 20 then (J_258_825_18 X x3 M) else (if ((X.2 x3.toNatClampNeg) &&& 63) = 21 then (J_258_858_18 X x3 M) else (if ((X.2 x3.toNatClampNeg) &&& 63) = 22 then (J_258_891_18 X x3 M) else (if ((X.2 x3.toNatClampNeg) &&& 63) = 23 then (J_258_914_18 X x3 M) else (if ((X.2 x3.toNatClampNeg) &&& 63) = 24 then (J_258_937_18 X x3 M) else (if ((X.2 x3.toNatClampNeg) &&& 63) = 25 then (J_258_970_18 X x3 M) else (if ((X.2 x3.toNatClampNeg) &&& 63) = 26 then (J_258_1003_18 X x3 M) else (if ((X.2 x3.toNatClampNeg) &&& 63) = 27 then (J_258_1026_18 X x3 M) else (if ((X.2 x3.toNatClampNeg) &&& 63) = 28 then (J_258_1059_18 X x3 M) else (if ((X.2 x3.toNatClampNeg) &&& 63) = 29 then (J_258_1102_18 X x3 M) else (if ((X.2 x3.toNatClampNeg) &&& 63) = 30 then (J_258_1125_18 X x3 M) else (if ((X.2 x3.toNatClampNeg) &&& 63) = 31 then (J_258_1168_18 X x3 M) else (if ((X.2 x3.toNatClampNeg) &&& 63) = 32 then (J_258_1211_18 X x3 M) else (if ((X.2 x3.toNatClampNeg) &&& 63) = 33 then (J_258_1274_18 X x3 M) else (if ((X.2 x3.toNatClampNeg) &&& 63) = 34 then (J_258_1287_18 X x3 M) else (if ((X.2 x3.toNatClampNeg) &&& 63) = 35 then (J_258_1300_18 X x3 M) else (if ((X.2 x3.toNatClampNeg) &&& 63) = 36 then (J_258_1323_18 X x3 M) else (if ((X.2 x3.toNatClampNeg) &&& 63) = 37 then (J_258_1346_18 X x3 M) else (if ((X.2 x3.toNatClampNeg) &&& 63) = 38 then (J_258_1369_18 X x3 M) else (J_258_1392_18 X x3 M)))))))))))))))))))))))))))))))))))))))) else none)
def L_258_18 (X : AX) (x3 : Int32) (M : IM) : Option ((Int32 × IM) ⊕ (Int32 × IM)) := loopN (B_258_18 X) FU (x3, M)
theorem TJ_258_1392_18 {X : AX} {d : Nat} (hd : 456 ≤ d) {x3 : Int32} {M : IM} {v : Option Value} {M' : IM} {o : (Int32 × IM) ⊕ ((Int32 × IM) ⊕ (Int32 × IM))} (h : J_258_1392_18 X x3 M = some o) (hP : ∀ s', o = .inl s' → (fun (x3, M) => Rc X d 258 18 [some (.ref (999)), some (.ref (0)), some (.ref (77)), some (.int (x3))] [] M v M') s') (hE : ∀ r, o = .inr r → (fun r => match r with | .inl (x3, M) => Rc X d 258 1398 [none, none, none, none] [] M v M' | .inr q => v = some (.int q.1) ∧ M' = q.2) r) : Rc X d 258 1392 [some (.ref (999)), some (.ref (0)), some (.ref (77)), some (.int (x3))] [] M v M' := by
  obtain ⟨d, rfl⟩ : ∃ e, d = e + 1 := ⟨d - 1, by omega⟩
  unfold J_258_1392_18 at h
  dsimp only at hP hE
  refine Rc.run tb_258 2 (pc' := 18) (ls' := [some (.ref (999)), some (.ref (0)), some (.ref (77)), some (.int (x3 + 6))]) (st' := []) rfl rfl ?_
  refine Rc.mask (b := 15) ((tb_258.2 18).trans rfl) (ls' := [some (.ref (999)), some (.ref (0)), some (.ref (77)), some (.int (x3 + 6))]) rfl ?_
  obtain rfl := Option.some.inj h
  exact hP _ rfl
theorem TJ_258_1369_18 {X : AX} {d : Nat} (hd : 456 ≤ d) {x3 : Int32} {M : IM} {v : Option Value} {M' : IM} {o : (Int32 × IM) ⊕ ((Int32 × IM) ⊕ (Int32 × IM))} (h : J_258_1369_18 X x3 M = some o) (hP : ∀ s', o = .inl s' → (fun (x3, M) => Rc X d 258 18 [some (.ref (999)), some (.ref (0)), some (.ref (77)), some (.int (x3))] [] M v M') s') (hE : ∀ r, o = .inr r → (fun r => match r with | .inl (x3, M) => Rc X d 258 1398 [none, none, none, none] [] M v M' | .inr q => v = some (.int q.1) ∧ M' = q.2) r) : Rc X d 258 1369 [some (.ref (999)), some (.ref (0)), some (.ref (77)), some (.int (x3))] [] M v M' := by
  obtain ⟨d, rfl⟩ : ∃ e, d = e + 1 := ⟨d - 1, by omega⟩
  unfold J_258_1369_18 at h
  dsimp only at hP hE
  refine Rc.run tb_258 5 (pc' := 1374) (ls' := [some (.ref (999)), some (.ref (0)), some (.ref (77)), some (.int (x3))]) (st' := [.int (x3 + 1), .ref (999), .ref (0)]) rfl rfl ?_
  by_cases hb44 : inb (x3 + 1) X.1 = true
  · rw [if_pos hb44] at h
    refine Rc.xald tb_258 rfl rfl  hb44 ?_
    cases hc40 : F_131 (X.2 (x3 + 1).toNatClampNeg) M with
    | none => rw [hc40] at h; cases h
    | some r40 =>
      obtain ⟨c40, M40⟩ := r40
      rw [hc40] at h
      dsimp only at h
      have hq40 := T_131 (X := X) (d := d) (by omega) (M := M) hc40
      refine Rc.callV tb_258 rfl rfl rfl mS_131 mP_131 mL_131 mO_131 rfl rfl ob_0 rfl rfl hq40 ?_
      refine Rc.run tb_258 5 (pc' := 1383) (ls' := [some (.ref (999)), some (.ref (0)), some (.ref (77)), some (.int (x3))]) (st' := [.int (x3 + 1), .ref (999), .ref (77), .int (c40)]) rfl rfl ?_
      by_cases hb43 : inb (x3 + 1) X.1 = true
      · rw [if_pos hb43] at h
        refine Rc.xald tb_258 rfl rfl  hb43 ?_
        cases hc41 : F_251 (X.2 (x3 + 1).toNatClampNeg) M40 with
        | none => rw [hc41] at h; cases h
        | some r41 =>
          obtain ⟨c41, M41⟩ := r41
          rw [hc41] at h
          dsimp only at h
          have hq41 := T_251 (X := X) (d := d) (by omega) (M := M40) hc41
          refine Rc.callV tb_258 rfl rfl rfl mS_251 mP_251 mL_251 mO_251 rfl rfl ob_77 rfl rfl hq41 ?_
          refine Rc.icmp_eq (pc1 := 1392) tb_258 rfl rfl (by decide) (by decide) (fun hb42 => ?_) (fun hb42 => ?_)
          · rw [if_pos hb42] at h
            refine Rc.mask (b := 15) ((tb_258.2 1392).trans rfl) (ls' := [some (.ref (999)), some (.ref (0)), some (.ref (77)), some (.int (x3))]) rfl ?_
            exact TJ_258_1392_18 (X := X) (d := d + 1) (by omega) h hP hE
          · rw [if_neg hb42] at h
            refine Rc.run tb_258 1 (pc' := 1391) (ls' := [some (.ref (999)), some (.ref (0)), some (.ref (77)), some (.int (x3))]) (st' := [.int (0)]) rfl rfl ?_
            obtain rfl := Option.some.inj h
            obtain ⟨rfl, rfl⟩ := hE _ rfl
            exact Rc.zret tb_258 rfl mR_258 (Or.inl rfl)
      · rw [if_neg hb43] at h
        cases h
  · rw [if_neg hb44] at h
    cases h
theorem TJ_258_1346_18 {X : AX} {d : Nat} (hd : 456 ≤ d) {x3 : Int32} {M : IM} {v : Option Value} {M' : IM} {o : (Int32 × IM) ⊕ ((Int32 × IM) ⊕ (Int32 × IM))} (h : J_258_1346_18 X x3 M = some o) (hP : ∀ s', o = .inl s' → (fun (x3, M) => Rc X d 258 18 [some (.ref (999)), some (.ref (0)), some (.ref (77)), some (.int (x3))] [] M v M') s') (hE : ∀ r, o = .inr r → (fun r => match r with | .inl (x3, M) => Rc X d 258 1398 [none, none, none, none] [] M v M' | .inr q => v = some (.int q.1) ∧ M' = q.2) r) : Rc X d 258 1346 [some (.ref (999)), some (.ref (0)), some (.ref (77)), some (.int (x3))] [] M v M' := by
  obtain ⟨d, rfl⟩ : ∃ e, d = e + 1 := ⟨d - 1, by omega⟩
  unfold J_258_1346_18 at h
  dsimp only at hP hE
  refine Rc.run tb_258 5 (pc' := 1351) (ls' := [some (.ref (999)), some (.ref (0)), some (.ref (77)), some (.int (x3))]) (st' := [.int (x3 + 1), .ref (999), .ref (0)]) rfl rfl ?_
  by_cases hb49 : inb (x3 + 1) X.1 = true
  · rw [if_pos hb49] at h
    refine Rc.xald tb_258 rfl rfl  hb49 ?_
    cases hc45 : F_130 (X.2 (x3 + 1).toNatClampNeg) M with
    | none => rw [hc45] at h; cases h
    | some r45 =>
      obtain ⟨c45, M45⟩ := r45
      rw [hc45] at h
      dsimp only at h
      have hq45 := T_130 (X := X) (d := d) (by omega) (M := M) hc45
      refine Rc.callV tb_258 rfl rfl rfl mS_130 mP_130 mL_130 mO_130 rfl rfl ob_0 rfl rfl hq45 ?_
      refine Rc.run tb_258 5 (pc' := 1360) (ls' := [some (.ref (999)), some (.ref (0)), some (.ref (77)), some (.int (x3))]) (st' := [.int (x3 + 1), .ref (999), .ref (77), .int (c45)]) rfl rfl ?_
      by_cases hb48 : inb (x3 + 1) X.1 = true
      · rw [if_pos hb48] at h
        refine Rc.xald tb_258 rfl rfl  hb48 ?_
        cases hc46 : F_250 (X.2 (x3 + 1).toNatClampNeg) M45 with
        | none => rw [hc46] at h; cases h
        | some r46 =>
          obtain ⟨c46, M46⟩ := r46
          rw [hc46] at h
          dsimp only at h
          have hq46 := T_250 (X := X) (d := d) (by omega) (M := M45) hc46
          refine Rc.callV tb_258 rfl rfl rfl mS_250 mP_250 mL_250 mO_250 rfl rfl ob_77 rfl rfl hq46 ?_
          refine Rc.icmp_eq (pc1 := 1392) tb_258 rfl rfl (by decide) (by decide) (fun hb47 => ?_) (fun hb47 => ?_)
          · rw [if_pos hb47] at h
            refine Rc.mask (b := 15) ((tb_258.2 1392).trans rfl) (ls' := [some (.ref (999)), some (.ref (0)), some (.ref (77)), some (.int (x3))]) rfl ?_
            exact TJ_258_1392_18 (X := X) (d := d + 1) (by omega) h hP hE
          · rw [if_neg hb47] at h
            refine Rc.run tb_258 1 (pc' := 1368) (ls' := [some (.ref (999)), some (.ref (0)), some (.ref (77)), some (.int (x3))]) (st' := [.int (0)]) rfl rfl ?_
            obtain rfl := Option.some.inj h
            obtain ⟨rfl, rfl⟩ := hE _ rfl
            exact Rc.zret tb_258 rfl mR_258 (Or.inl rfl)
      · rw [if_neg hb48] at h
        cases h
  · rw [if_neg hb49] at h
    cases h
theorem TJ_258_1323_18 {X : AX} {d : Nat} (hd : 456 ≤ d) {x3 : Int32} {M : IM} {v : Option Value} {M' : IM} {o : (Int32 × IM) ⊕ ((Int32 × IM) ⊕ (Int32 × IM))} (h : J_258_1323_18 X x3 M = some o) (hP : ∀ s', o = .inl s' → (fun (x3, M) => Rc X d 258 18 [some (.ref (999)), some (.ref (0)), some (.ref (77)), some (.int (x3))] [] M v M') s') (hE : ∀ r, o = .inr r → (fun r => match r with | .inl (x3, M) => Rc X d 258 1398 [none, none, none, none] [] M v M' | .inr q => v = some (.int q.1) ∧ M' = q.2) r) : Rc X d 258 1323 [some (.ref (999)), some (.ref (0)), some (.ref (77)), some (.int (x3))] [] M v M' := by
  obtain ⟨d, rfl⟩ : ∃ e, d = e + 1 := ⟨d - 1, by omega⟩
  unfold J_258_1323_18 at h
  dsimp only at hP hE
  refine Rc.run tb_258 5 (pc' := 1328) (ls' := [some (.ref (999)), some (.ref (0)), some (.ref (77)), some (.int (x3))]) (st' := [.int (x3 + 1), .ref (999), .ref (0)]) rfl rfl ?_
  by_cases hb54 : inb (x3 + 1) X.1 = true
  · rw [if_pos hb54] at h
    refine Rc.xald tb_258 rfl rfl  hb54 ?_
    cases hc50 : F_129 (X.2 (x3 + 1).toNatClampNeg) M with
    | none => rw [hc50] at h; cases h
    | some r50 =>
      obtain ⟨c50, M50⟩ := r50
      rw [hc50] at h
      dsimp only at h
      have hq50 := T_129 (X := X) (d := d) (by omega) (M := M) hc50
      refine Rc.callV tb_258 rfl rfl rfl mS_129 mP_129 mL_129 mO_129 rfl rfl ob_0 rfl rfl hq50 ?_
      refine Rc.run tb_258 5 (pc' := 1337) (ls' := [some (.ref (999)), some (.ref (0)), some (.ref (77)), some (.int (x3))]) (st' := [.int (x3 + 1), .ref (999), .ref (77), .int (c50)]) rfl rfl ?_
      by_cases hb53 : inb (x3 + 1) X.1 = true
      · rw [if_pos hb53] at h
        refine Rc.xald tb_258 rfl rfl  hb53 ?_
        cases hc51 : F_249 (X.2 (x3 + 1).toNatClampNeg) M50 with
        | none => rw [hc51] at h; cases h
        | some r51 =>
          obtain ⟨c51, M51⟩ := r51
          rw [hc51] at h
          dsimp only at h
          have hq51 := T_249 (X := X) (d := d) (by omega) (M := M50) hc51
          refine Rc.callV tb_258 rfl rfl rfl mS_249 mP_249 mL_249 mO_249 rfl rfl ob_77 rfl rfl hq51 ?_
          refine Rc.icmp_eq (pc1 := 1392) tb_258 rfl rfl (by decide) (by decide) (fun hb52 => ?_) (fun hb52 => ?_)
          · rw [if_pos hb52] at h
            refine Rc.mask (b := 15) ((tb_258.2 1392).trans rfl) (ls' := [some (.ref (999)), some (.ref (0)), some (.ref (77)), some (.int (x3))]) rfl ?_
            exact TJ_258_1392_18 (X := X) (d := d + 1) (by omega) h hP hE
          · rw [if_neg hb52] at h
            refine Rc.run tb_258 1 (pc' := 1345) (ls' := [some (.ref (999)), some (.ref (0)), some (.ref (77)), some (.int (x3))]) (st' := [.int (0)]) rfl rfl ?_
            obtain rfl := Option.some.inj h
            obtain ⟨rfl, rfl⟩ := hE _ rfl
            exact Rc.zret tb_258 rfl mR_258 (Or.inl rfl)
      · rw [if_neg hb53] at h
        cases h
  · rw [if_neg hb54] at h
    cases h
theorem TJ_258_1300_18 {X : AX} {d : Nat} (hd : 456 ≤ d) {x3 : Int32} {M : IM} {v : Option Value} {M' : IM} {o : (Int32 × IM) ⊕ ((Int32 × IM) ⊕ (Int32 × IM))} (h : J_258_1300_18 X x3 M = some o) (hP : ∀ s', o = .inl s' → (fun (x3, M) => Rc X d 258 18 [some (.ref (999)), some (.ref (0)), some (.ref (77)), some (.int (x3))] [] M v M') s') (hE : ∀ r, o = .inr r → (fun r => match r with | .inl (x3, M) => Rc X d 258 1398 [none, none, none, none] [] M v M' | .inr q => v = some (.int q.1) ∧ M' = q.2) r) : Rc X d 258 1300 [some (.ref (999)), some (.ref (0)), some (.ref (77)), some (.int (x3))] [] M v M' := by
  obtain ⟨d, rfl⟩ : ∃ e, d = e + 1 := ⟨d - 1, by omega⟩
  unfold J_258_1300_18 at h
  dsimp only at hP hE
  refine Rc.run tb_258 5 (pc' := 1305) (ls' := [some (.ref (999)), some (.ref (0)), some (.ref (77)), some (.int (x3))]) (st' := [.int (x3 + 1), .ref (999), .ref (0)]) rfl rfl ?_
  by_cases hb59 : inb (x3 + 1) X.1 = true
  · rw [if_pos hb59] at h
    refine Rc.xald tb_258 rfl rfl  hb59 ?_
    cases hc55 : F_128 (X.2 (x3 + 1).toNatClampNeg) M with
    | none => rw [hc55] at h; cases h
    | some r55 =>
      obtain ⟨c55, M55⟩ := r55
      rw [hc55] at h
      dsimp only at h
      have hq55 := T_128 (X := X) (d := d) (by omega) (M := M) hc55
      refine Rc.callV tb_258 rfl rfl rfl mS_128 mP_128 mL_128 mO_128 rfl rfl ob_0 rfl rfl hq55 ?_
      refine Rc.run tb_258 5 (pc' := 1314) (ls' := [some (.ref (999)), some (.ref (0)), some (.ref (77)), some (.int (x3))]) (st' := [.int (x3 + 1), .ref (999), .ref (77), .int (c55)]) rfl rfl ?_
      by_cases hb58 : inb (x3 + 1) X.1 = true
      · rw [if_pos hb58] at h
        refine Rc.xald tb_258 rfl rfl  hb58 ?_
        cases hc56 : F_248 (X.2 (x3 + 1).toNatClampNeg) M55 with
        | none => rw [hc56] at h; cases h
        | some r56 =>
          obtain ⟨c56, M56⟩ := r56
          rw [hc56] at h
          dsimp only at h
          have hq56 := T_248 (X := X) (d := d) (by omega) (M := M55) hc56
          refine Rc.callV tb_258 rfl rfl rfl mS_248 mP_248 mL_248 mO_248 rfl rfl ob_77 rfl rfl hq56 ?_
          refine Rc.icmp_eq (pc1 := 1392) tb_258 rfl rfl (by decide) (by decide) (fun hb57 => ?_) (fun hb57 => ?_)
          · rw [if_pos hb57] at h
            refine Rc.mask (b := 15) ((tb_258.2 1392).trans rfl) (ls' := [some (.ref (999)), some (.ref (0)), some (.ref (77)), some (.int (x3))]) rfl ?_
            exact TJ_258_1392_18 (X := X) (d := d + 1) (by omega) h hP hE
          · rw [if_neg hb57] at h
            refine Rc.run tb_258 1 (pc' := 1322) (ls' := [some (.ref (999)), some (.ref (0)), some (.ref (77)), some (.int (x3))]) (st' := [.int (0)]) rfl rfl ?_
            obtain rfl := Option.some.inj h
            obtain ⟨rfl, rfl⟩ := hE _ rfl
            exact Rc.zret tb_258 rfl mR_258 (Or.inl rfl)
      · rw [if_neg hb58] at h
        cases h
  · rw [if_neg hb59] at h
    cases h
theorem TJ_258_1287_18 {X : AX} {d : Nat} (hd : 456 ≤ d) {x3 : Int32} {M : IM} {v : Option Value} {M' : IM} {o : (Int32 × IM) ⊕ ((Int32 × IM) ⊕ (Int32 × IM))} (h : J_258_1287_18 X x3 M = some o) (hP : ∀ s', o = .inl s' → (fun (x3, M) => Rc X d 258 18 [some (.ref (999)), some (.ref (0)), some (.ref (77)), some (.int (x3))] [] M v M') s') (hE : ∀ r, o = .inr r → (fun r => match r with | .inl (x3, M) => Rc X d 258 1398 [none, none, none, none] [] M v M' | .inr q => v = some (.int q.1) ∧ M' = q.2) r) : Rc X d 258 1287 [some (.ref (999)), some (.ref (0)), some (.ref (77)), some (.int (x3))] [] M v M' := by
  obtain ⟨d, rfl⟩ : ∃ e, d = e + 1 := ⟨d - 1, by omega⟩
  unfold J_258_1287_18 at h
  dsimp only at hP hE
  refine Rc.run tb_258 1 (pc' := 1288) (ls' := [some (.ref (999)), some (.ref (0)), some (.ref (77)), some (.int (x3))]) (st' := [.ref (0)]) rfl rfl ?_
  cases hc60 : F_127 M with
  | none => rw [hc60] at h; cases h
  | some r60 =>
    obtain ⟨c60, M60⟩ := r60
    rw [hc60] at h
    dsimp only at h
    have hq60 := T_127 (X := X) (d := d) (by omega) (M := M) hc60
    refine Rc.callV tb_258 rfl rfl rfl mS_127 mP_127 mL_127 mO_127 rfl rfl ob_0 rfl rfl hq60 ?_
    refine Rc.run tb_258 1 (pc' := 1292) (ls' := [some (.ref (999)), some (.ref (0)), some (.ref (77)), some (.int (x3))]) (st' := [.ref (77), .int (c60)]) rfl rfl ?_
    cases hc61 : F_247 M60 with
    | none => rw [hc61] at h; cases h
    | some r61 =>
      obtain ⟨c61, M61⟩ := r61
      rw [hc61] at h
      dsimp only at h
      have hq61 := T_247 (X := X) (d := d) (by omega) (M := M60) hc61
      refine Rc.callV tb_258 rfl rfl rfl mS_247 mP_247 mL_247 mO_247 rfl rfl ob_77 rfl rfl hq61 ?_
      refine Rc.icmp_eq (pc1 := 1392) tb_258 rfl rfl (by decide) (by decide) (fun hb62 => ?_) (fun hb62 => ?_)
      · rw [if_pos hb62] at h
        refine Rc.mask (b := 15) ((tb_258.2 1392).trans rfl) (ls' := [some (.ref (999)), some (.ref (0)), some (.ref (77)), some (.int (x3))]) rfl ?_
        exact TJ_258_1392_18 (X := X) (d := d + 1) (by omega) h hP hE
      · rw [if_neg hb62] at h
        refine Rc.run tb_258 1 (pc' := 1299) (ls' := [some (.ref (999)), some (.ref (0)), some (.ref (77)), some (.int (x3))]) (st' := [.int (0)]) rfl rfl ?_
        obtain rfl := Option.some.inj h
        obtain ⟨rfl, rfl⟩ := hE _ rfl
        exact Rc.zret tb_258 rfl mR_258 (Or.inl rfl)
theorem TJ_258_1274_18 {X : AX} {d : Nat} (hd : 456 ≤ d) {x3 : Int32} {M : IM} {v : Option Value} {M' : IM} {o : (Int32 × IM) ⊕ ((Int32 × IM) ⊕ (Int32 × IM))} (h : J_258_1274_18 X x3 M = some o) (hP : ∀ s', o = .inl s' → (fun (x3, M) => Rc X d 258 18 [some (.ref (999)), some (.ref (0)), some (.ref (77)), some (.int (x3))] [] M v M') s') (hE : ∀ r, o = .inr r → (fun r => match r with | .inl (x3, M) => Rc X d 258 1398 [none, none, none, none] [] M v M' | .inr q => v = some (.int q.1) ∧ M' = q.2) r) : Rc X d 258 1274 [some (.ref (999)), some (.ref (0)), some (.ref (77)), some (.int (x3))] [] M v M' := by
  obtain ⟨d, rfl⟩ : ∃ e, d = e + 1 := ⟨d - 1, by omega⟩
  unfold J_258_1274_18 at h
  dsimp only at hP hE
  refine Rc.run tb_258 1 (pc' := 1275) (ls' := [some (.ref (999)), some (.ref (0)), some (.ref (77)), some (.int (x3))]) (st' := [.ref (0)]) rfl rfl ?_
  cases hc63 : F_126 M with
  | none => rw [hc63] at h; cases h
  | some r63 =>
    obtain ⟨c63, M63⟩ := r63
    rw [hc63] at h
    dsimp only at h
    have hq63 := T_126 (X := X) (d := d) (by omega) (M := M) hc63
    refine Rc.callV tb_258 rfl rfl rfl mS_126 mP_126 mL_126 mO_126 rfl rfl ob_0 rfl rfl hq63 ?_
    refine Rc.run tb_258 1 (pc' := 1279) (ls' := [some (.ref (999)), some (.ref (0)), some (.ref (77)), some (.int (x3))]) (st' := [.ref (77), .int (c63)]) rfl rfl ?_
    cases hc64 : F_246 M63 with
    | none => rw [hc64] at h; cases h
    | some r64 =>
      obtain ⟨c64, M64⟩ := r64
      rw [hc64] at h
      dsimp only at h
      have hq64 := T_246 (X := X) (d := d) (by omega) (M := M63) hc64
      refine Rc.callV tb_258 rfl rfl rfl mS_246 mP_246 mL_246 mO_246 rfl rfl ob_77 rfl rfl hq64 ?_
      refine Rc.icmp_eq (pc1 := 1392) tb_258 rfl rfl (by decide) (by decide) (fun hb65 => ?_) (fun hb65 => ?_)
      · rw [if_pos hb65] at h
        refine Rc.mask (b := 15) ((tb_258.2 1392).trans rfl) (ls' := [some (.ref (999)), some (.ref (0)), some (.ref (77)), some (.int (x3))]) rfl ?_
        exact TJ_258_1392_18 (X := X) (d := d + 1) (by omega) h hP hE
      · rw [if_neg hb65] at h
        refine Rc.run tb_258 1 (pc' := 1286) (ls' := [some (.ref (999)), some (.ref (0)), some (.ref (77)), some (.int (x3))]) (st' := [.int (0)]) rfl rfl ?_
        obtain rfl := Option.some.inj h
        obtain ⟨rfl, rfl⟩ := hE _ rfl
        exact Rc.zret tb_258 rfl mR_258 (Or.inl rfl)
theorem TJ_258_1211_18 {X : AX} {d : Nat} (hd : 456 ≤ d) {x3 : Int32} {M : IM} {v : Option Value} {M' : IM} {o : (Int32 × IM) ⊕ ((Int32 × IM) ⊕ (Int32 × IM))} (h : J_258_1211_18 X x3 M = some o) (hP : ∀ s', o = .inl s' → (fun (x3, M) => Rc X d 258 18 [some (.ref (999)), some (.ref (0)), some (.ref (77)), some (.int (x3))] [] M v M') s') (hE : ∀ r, o = .inr r → (fun r => match r with | .inl (x3, M) => Rc X d 258 1398 [none, none, none, none] [] M v M' | .inr q => v = some (.int q.1) ∧ M' = q.2) r) : Rc X d 258 1211 [some (.ref (999)), some (.ref (0)), some (.ref (77)), some (.int (x3))] [] M v M' := by
  obtain ⟨d, rfl⟩ : ∃ e, d = e + 1 := ⟨d - 1, by omega⟩
  unfold J_258_1211_18 at h
  dsimp only at hP hE
  refine Rc.run tb_258 5 (pc' := 1216) (ls' := [some (.ref (999)), some (.ref (0)), some (.ref (77)), some (.int (x3))]) (st' := [.int (x3 + 1), .ref (999), .ref (0)]) rfl rfl ?_
  by_cases hb78 : inb (x3 + 1) X.1 = true
  · rw [if_pos hb78] at h
    refine Rc.xald tb_258 rfl rfl  hb78 ?_
    refine Rc.run tb_258 4 (pc' := 1221) (ls' := [some (.ref (999)), some (.ref (0)), some (.ref (77)), some (.int (x3))]) (st' := [.int (x3 + 2), .ref (999), .int (X.2 (x3 + 1).toNatClampNeg), .ref (0)]) rfl rfl ?_
    by_cases hb77 : inb (x3 + 2) X.1 = true
    · rw [if_pos hb77] at h
      refine Rc.xald tb_258 rfl rfl  hb77 ?_
      refine Rc.run tb_258 4 (pc' := 1226) (ls' := [some (.ref (999)), some (.ref (0)), some (.ref (77)), some (.int (x3))]) (st' := [.int (x3 + 3), .ref (999), .int (X.2 (x3 + 2).toNatClampNeg), .int (X.2 (x3 + 1).toNatClampNeg), .ref (0)]) rfl rfl ?_
      by_cases hb76 : inb (x3 + 3) X.1 = true
      · rw [if_pos hb76] at h
        refine Rc.xald tb_258 rfl rfl  hb76 ?_
        refine Rc.run tb_258 4 (pc' := 1231) (ls' := [some (.ref (999)), some (.ref (0)), some (.ref (77)), some (.int (x3))]) (st' := [.int (x3 + 4), .ref (999), .int (X.2 (x3 + 3).toNatClampNeg), .int (X.2 (x3 + 2).toNatClampNeg), .int (X.2 (x3 + 1).toNatClampNeg), .ref (0)]) rfl rfl ?_
        by_cases hb75 : inb (x3 + 4) X.1 = true
        · rw [if_pos hb75] at h
          refine Rc.xald tb_258 rfl rfl  hb75 ?_
          refine Rc.run tb_258 4 (pc' := 1236) (ls' := [some (.ref (999)), some (.ref (0)), some (.ref (77)), some (.int (x3))]) (st' := [.int (x3 + 5), .ref (999), .int (X.2 (x3 + 4).toNatClampNeg), .int (X.2 (x3 + 3).toNatClampNeg), .int (X.2 (x3 + 2).toNatClampNeg), .int (X.2 (x3 + 1).toNatClampNeg), .ref (0)]) rfl rfl ?_
          by_cases hb74 : inb (x3 + 5) X.1 = true
          · rw [if_pos hb74] at h
            refine Rc.xald tb_258 rfl rfl  hb74 ?_
            cases hc66 : F_125 (X.2 (x3 + 1).toNatClampNeg) (X.2 (x3 + 2).toNatClampNeg) (X.2 (x3 + 3).toNatClampNeg) (X.2 (x3 + 4).toNatClampNeg) (X.2 (x3 + 5).toNatClampNeg) M with
            | none => rw [hc66] at h; cases h
            | some r66 =>
              obtain ⟨c66, M66⟩ := r66
              rw [hc66] at h
              dsimp only at h
              have hq66 := T_125 (X := X) (d := d) (by omega) (M := M) hc66
              refine Rc.callV tb_258 rfl rfl rfl mS_125 mP_125 mL_125 mO_125 rfl rfl ob_0 rfl rfl hq66 ?_
              refine Rc.run tb_258 5 (pc' := 1245) (ls' := [some (.ref (999)), some (.ref (0)), some (.ref (77)), some (.int (x3))]) (st' := [.int (x3 + 1), .ref (999), .ref (77), .int (c66)]) rfl rfl ?_
              by_cases hb73 : inb (x3 + 1) X.1 = true
              · rw [if_pos hb73] at h
                refine Rc.xald tb_258 rfl rfl  hb73 ?_
                refine Rc.run tb_258 4 (pc' := 1250) (ls' := [some (.ref (999)), some (.ref (0)), some (.ref (77)), some (.int (x3))]) (st' := [.int (x3 + 2), .ref (999), .int (X.2 (x3 + 1).toNatClampNeg), .ref (77), .int (c66)]) rfl rfl ?_
                by_cases hb72 : inb (x3 + 2) X.1 = true
                · rw [if_pos hb72] at h
                  refine Rc.xald tb_258 rfl rfl  hb72 ?_
                  refine Rc.run tb_258 4 (pc' := 1255) (ls' := [some (.ref (999)), some (.ref (0)), some (.ref (77)), some (.int (x3))]) (st' := [.int (x3 + 3), .ref (999), .int (X.2 (x3 + 2).toNatClampNeg), .int (X.2 (x3 + 1).toNatClampNeg), .ref (77), .int (c66)]) rfl rfl ?_
                  by_cases hb71 : inb (x3 + 3) X.1 = true
                  · rw [if_pos hb71] at h
                    refine Rc.xald tb_258 rfl rfl  hb71 ?_
                    refine Rc.run tb_258 4 (pc' := 1260) (ls' := [some (.ref (999)), some (.ref (0)), some (.ref (77)), some (.int (x3))]) (st' := [.int (x3 + 4), .ref (999), .int (X.2 (x3 + 3).toNatClampNeg), .int (X.2 (x3 + 2).toNatClampNeg), .int (X.2 (x3 + 1).toNatClampNeg), .ref (77), .int (c66)]) rfl rfl ?_
                    by_cases hb70 : inb (x3 + 4) X.1 = true
                    · rw [if_pos hb70] at h
                      refine Rc.xald tb_258 rfl rfl  hb70 ?_
                      refine Rc.run tb_258 4 (pc' := 1265) (ls' := [some (.ref (999)), some (.ref (0)), some (.ref (77)), some (.int (x3))]) (st' := [.int (x3 + 5), .ref (999), .int (X.2 (x3 + 4).toNatClampNeg), .int (X.2 (x3 + 3).toNatClampNeg), .int (X.2 (x3 + 2).toNatClampNeg), .int (X.2 (x3 + 1).toNatClampNeg), .ref (77), .int (c66)]) rfl rfl ?_
                      by_cases hb69 : inb (x3 + 5) X.1 = true
                      · rw [if_pos hb69] at h
                        refine Rc.xald tb_258 rfl rfl  hb69 ?_
                        cases hc67 : F_245 (X.2 (x3 + 1).toNatClampNeg) (X.2 (x3 + 2).toNatClampNeg) (X.2 (x3 + 3).toNatClampNeg) (X.2 (x3 + 4).toNatClampNeg) (X.2 (x3 + 5).toNatClampNeg) M66 with
                        | none => rw [hc67] at h; cases h
                        | some r67 =>
                          obtain ⟨c67, M67⟩ := r67
                          rw [hc67] at h
                          dsimp only at h
                          have hq67 := T_245 (X := X) (d := d) (by omega) (M := M66) hc67
                          refine Rc.callV tb_258 rfl rfl rfl mS_245 mP_245 mL_245 mO_245 rfl rfl ob_77 rfl rfl hq67 ?_
                          refine Rc.icmp_eq (pc1 := 1392) tb_258 rfl rfl (by decide) (by decide) (fun hb68 => ?_) (fun hb68 => ?_)
                          · rw [if_pos hb68] at h
                            refine Rc.mask (b := 15) ((tb_258.2 1392).trans rfl) (ls' := [some (.ref (999)), some (.ref (0)), some (.ref (77)), some (.int (x3))]) rfl ?_
                            exact TJ_258_1392_18 (X := X) (d := d + 1) (by omega) h hP hE
                          · rw [if_neg hb68] at h
                            refine Rc.run tb_258 1 (pc' := 1273) (ls' := [some (.ref (999)), some (.ref (0)), some (.ref (77)), some (.int (x3))]) (st' := [.int (0)]) rfl rfl ?_
                            obtain rfl := Option.some.inj h
                            obtain ⟨rfl, rfl⟩ := hE _ rfl
                            exact Rc.zret tb_258 rfl mR_258 (Or.inl rfl)
                      · rw [if_neg hb69] at h
                        cases h
                    · rw [if_neg hb70] at h
                      cases h
                  · rw [if_neg hb71] at h
                    cases h
                · rw [if_neg hb72] at h
                  cases h
              · rw [if_neg hb73] at h
                cases h
          · rw [if_neg hb74] at h
            cases h
        · rw [if_neg hb75] at h
          cases h
      · rw [if_neg hb76] at h
        cases h
    · rw [if_neg hb77] at h
      cases h
  · rw [if_neg hb78] at h
    cases h
theorem TJ_258_1168_18 {X : AX} {d : Nat} (hd : 456 ≤ d) {x3 : Int32} {M : IM} {v : Option Value} {M' : IM} {o : (Int32 × IM) ⊕ ((Int32 × IM) ⊕ (Int32 × IM))} (h : J_258_1168_18 X x3 M = some o) (hP : ∀ s', o = .inl s' → (fun (x3, M) => Rc X d 258 18 [some (.ref (999)), some (.ref (0)), some (.ref (77)), some (.int (x3))] [] M v M') s') (hE : ∀ r, o = .inr r → (fun r => match r with | .inl (x3, M) => Rc X d 258 1398 [none, none, none, none] [] M v M' | .inr q => v = some (.int q.1) ∧ M' = q.2) r) : Rc X d 258 1168 [some (.ref (999)), some (.ref (0)), some (.ref (77)), some (.int (x3))] [] M v M' := by
  obtain ⟨d, rfl⟩ : ∃ e, d = e + 1 := ⟨d - 1, by omega⟩
  unfold J_258_1168_18 at h
  dsimp only at hP hE
  refine Rc.run tb_258 5 (pc' := 1173) (ls' := [some (.ref (999)), some (.ref (0)), some (.ref (77)), some (.int (x3))]) (st' := [.int (x3 + 1), .ref (999), .ref (0)]) rfl rfl ?_
  by_cases hb87 : inb (x3 + 1) X.1 = true
  · rw [if_pos hb87] at h
    refine Rc.xald tb_258 rfl rfl  hb87 ?_
    refine Rc.run tb_258 4 (pc' := 1178) (ls' := [some (.ref (999)), some (.ref (0)), some (.ref (77)), some (.int (x3))]) (st' := [.int (x3 + 2), .ref (999), .int (X.2 (x3 + 1).toNatClampNeg), .ref (0)]) rfl rfl ?_
    by_cases hb86 : inb (x3 + 2) X.1 = true
    · rw [if_pos hb86] at h
      refine Rc.xald tb_258 rfl rfl  hb86 ?_
      refine Rc.run tb_258 4 (pc' := 1183) (ls' := [some (.ref (999)), some (.ref (0)), some (.ref (77)), some (.int (x3))]) (st' := [.int (x3 + 3), .ref (999), .int (X.2 (x3 + 2).toNatClampNeg), .int (X.2 (x3 + 1).toNatClampNeg), .ref (0)]) rfl rfl ?_
      by_cases hb85 : inb (x3 + 3) X.1 = true
      · rw [if_pos hb85] at h
        refine Rc.xald tb_258 rfl rfl  hb85 ?_
        cases hc79 : F_124 (X.2 (x3 + 1).toNatClampNeg) (X.2 (x3 + 2).toNatClampNeg) (X.2 (x3 + 3).toNatClampNeg) M with
        | none => rw [hc79] at h; cases h
        | some r79 =>
          obtain ⟨c79, M79⟩ := r79
          rw [hc79] at h
          dsimp only at h
          have hq79 := T_124 (X := X) (d := d) (by omega) (M := M) hc79
          refine Rc.callV tb_258 rfl rfl rfl mS_124 mP_124 mL_124 mO_124 rfl rfl ob_0 rfl rfl hq79 ?_
          refine Rc.run tb_258 5 (pc' := 1192) (ls' := [some (.ref (999)), some (.ref (0)), some (.ref (77)), some (.int (x3))]) (st' := [.int (x3 + 1), .ref (999), .ref (77), .int (c79)]) rfl rfl ?_
          by_cases hb84 : inb (x3 + 1) X.1 = true
          · rw [if_pos hb84] at h
            refine Rc.xald tb_258 rfl rfl  hb84 ?_
            refine Rc.run tb_258 4 (pc' := 1197) (ls' := [some (.ref (999)), some (.ref (0)), some (.ref (77)), some (.int (x3))]) (st' := [.int (x3 + 2), .ref (999), .int (X.2 (x3 + 1).toNatClampNeg), .ref (77), .int (c79)]) rfl rfl ?_
            by_cases hb83 : inb (x3 + 2) X.1 = true
            · rw [if_pos hb83] at h
              refine Rc.xald tb_258 rfl rfl  hb83 ?_
              refine Rc.run tb_258 4 (pc' := 1202) (ls' := [some (.ref (999)), some (.ref (0)), some (.ref (77)), some (.int (x3))]) (st' := [.int (x3 + 3), .ref (999), .int (X.2 (x3 + 2).toNatClampNeg), .int (X.2 (x3 + 1).toNatClampNeg), .ref (77), .int (c79)]) rfl rfl ?_
              by_cases hb82 : inb (x3 + 3) X.1 = true
              · rw [if_pos hb82] at h
                refine Rc.xald tb_258 rfl rfl  hb82 ?_
                cases hc80 : F_244 (X.2 (x3 + 1).toNatClampNeg) (X.2 (x3 + 2).toNatClampNeg) (X.2 (x3 + 3).toNatClampNeg) M79 with
                | none => rw [hc80] at h; cases h
                | some r80 =>
                  obtain ⟨c80, M80⟩ := r80
                  rw [hc80] at h
                  dsimp only at h
                  have hq80 := T_244 (X := X) (d := d) (by omega) (M := M79) hc80
                  refine Rc.callV tb_258 rfl rfl rfl mS_244 mP_244 mL_244 mO_244 rfl rfl ob_77 rfl rfl hq80 ?_
                  refine Rc.icmp_eq (pc1 := 1392) tb_258 rfl rfl (by decide) (by decide) (fun hb81 => ?_) (fun hb81 => ?_)
                  · rw [if_pos hb81] at h
                    refine Rc.mask (b := 15) ((tb_258.2 1392).trans rfl) (ls' := [some (.ref (999)), some (.ref (0)), some (.ref (77)), some (.int (x3))]) rfl ?_
                    exact TJ_258_1392_18 (X := X) (d := d + 1) (by omega) h hP hE
                  · rw [if_neg hb81] at h
                    refine Rc.run tb_258 1 (pc' := 1210) (ls' := [some (.ref (999)), some (.ref (0)), some (.ref (77)), some (.int (x3))]) (st' := [.int (0)]) rfl rfl ?_
                    obtain rfl := Option.some.inj h
                    obtain ⟨rfl, rfl⟩ := hE _ rfl
                    exact Rc.zret tb_258 rfl mR_258 (Or.inl rfl)
              · rw [if_neg hb82] at h
                cases h
            · rw [if_neg hb83] at h
              cases h
          · rw [if_neg hb84] at h
            cases h
      · rw [if_neg hb85] at h
        cases h
    · rw [if_neg hb86] at h
      cases h
  · rw [if_neg hb87] at h
    cases h
theorem TJ_258_1125_18 {X : AX} {d : Nat} (hd : 456 ≤ d) {x3 : Int32} {M : IM} {v : Option Value} {M' : IM} {o : (Int32 × IM) ⊕ ((Int32 × IM) ⊕ (Int32 × IM))} (h : J_258_1125_18 X x3 M = some o) (hP : ∀ s', o = .inl s' → (fun (x3, M) => Rc X d 258 18 [some (.ref (999)), some (.ref (0)), some (.ref (77)), some (.int (x3))] [] M v M') s') (hE : ∀ r, o = .inr r → (fun r => match r with | .inl (x3, M) => Rc X d 258 1398 [none, none, none, none] [] M v M' | .inr q => v = some (.int q.1) ∧ M' = q.2) r) : Rc X d 258 1125 [some (.ref (999)), some (.ref (0)), some (.ref (77)), some (.int (x3))] [] M v M' := by
  obtain ⟨d, rfl⟩ : ∃ e, d = e + 1 := ⟨d - 1, by omega⟩
  unfold J_258_1125_18 at h
  dsimp only at hP hE
  refine Rc.run tb_258 5 (pc' := 1130) (ls' := [some (.ref (999)), some (.ref (0)), some (.ref (77)), some (.int (x3))]) (st' := [.int (x3 + 1), .ref (999), .ref (0)]) rfl rfl ?_
  by_cases hb96 : inb (x3 + 1) X.1 = true
  · rw [if_pos hb96] at h
    refine Rc.xald tb_258 rfl rfl  hb96 ?_
    refine Rc.run tb_258 4 (pc' := 1135) (ls' := [some (.ref (999)), some (.ref (0)), some (.ref (77)), some (.int (x3))]) (st' := [.int (x3 + 2), .ref (999), .int (X.2 (x3 + 1).toNatClampNeg), .ref (0)]) rfl rfl ?_
    by_cases hb95 : inb (x3 + 2) X.1 = true
    · rw [if_pos hb95] at h
      refine Rc.xald tb_258 rfl rfl  hb95 ?_
      refine Rc.run tb_258 4 (pc' := 1140) (ls' := [some (.ref (999)), some (.ref (0)), some (.ref (77)), some (.int (x3))]) (st' := [.int (x3 + 3), .ref (999), .int (X.2 (x3 + 2).toNatClampNeg), .int (X.2 (x3 + 1).toNatClampNeg), .ref (0)]) rfl rfl ?_
      by_cases hb94 : inb (x3 + 3) X.1 = true
      · rw [if_pos hb94] at h
        refine Rc.xald tb_258 rfl rfl  hb94 ?_
        cases hc88 : F_123 (X.2 (x3 + 1).toNatClampNeg) (X.2 (x3 + 2).toNatClampNeg) (X.2 (x3 + 3).toNatClampNeg) M with
        | none => rw [hc88] at h; cases h
        | some r88 =>
          obtain ⟨c88, M88⟩ := r88
          rw [hc88] at h
          dsimp only at h
          have hq88 := T_123 (X := X) (d := d) (by omega) (M := M) hc88
          refine Rc.callV tb_258 rfl rfl rfl mS_123 mP_123 mL_123 mO_123 rfl rfl ob_0 rfl rfl hq88 ?_
          refine Rc.run tb_258 5 (pc' := 1149) (ls' := [some (.ref (999)), some (.ref (0)), some (.ref (77)), some (.int (x3))]) (st' := [.int (x3 + 1), .ref (999), .ref (77), .int (c88)]) rfl rfl ?_
          by_cases hb93 : inb (x3 + 1) X.1 = true
          · rw [if_pos hb93] at h
            refine Rc.xald tb_258 rfl rfl  hb93 ?_
            refine Rc.run tb_258 4 (pc' := 1154) (ls' := [some (.ref (999)), some (.ref (0)), some (.ref (77)), some (.int (x3))]) (st' := [.int (x3 + 2), .ref (999), .int (X.2 (x3 + 1).toNatClampNeg), .ref (77), .int (c88)]) rfl rfl ?_
            by_cases hb92 : inb (x3 + 2) X.1 = true
            · rw [if_pos hb92] at h
              refine Rc.xald tb_258 rfl rfl  hb92 ?_
              refine Rc.run tb_258 4 (pc' := 1159) (ls' := [some (.ref (999)), some (.ref (0)), some (.ref (77)), some (.int (x3))]) (st' := [.int (x3 + 3), .ref (999), .int (X.2 (x3 + 2).toNatClampNeg), .int (X.2 (x3 + 1).toNatClampNeg), .ref (77), .int (c88)]) rfl rfl ?_
              by_cases hb91 : inb (x3 + 3) X.1 = true
              · rw [if_pos hb91] at h
                refine Rc.xald tb_258 rfl rfl  hb91 ?_
                cases hc89 : F_243 (X.2 (x3 + 1).toNatClampNeg) (X.2 (x3 + 2).toNatClampNeg) (X.2 (x3 + 3).toNatClampNeg) M88 with
                | none => rw [hc89] at h; cases h
                | some r89 =>
                  obtain ⟨c89, M89⟩ := r89
                  rw [hc89] at h
                  dsimp only at h
                  have hq89 := T_243 (X := X) (d := d) (by omega) (M := M88) hc89
                  refine Rc.callV tb_258 rfl rfl rfl mS_243 mP_243 mL_243 mO_243 rfl rfl ob_77 rfl rfl hq89 ?_
                  refine Rc.icmp_eq (pc1 := 1392) tb_258 rfl rfl (by decide) (by decide) (fun hb90 => ?_) (fun hb90 => ?_)
                  · rw [if_pos hb90] at h
                    refine Rc.mask (b := 15) ((tb_258.2 1392).trans rfl) (ls' := [some (.ref (999)), some (.ref (0)), some (.ref (77)), some (.int (x3))]) rfl ?_
                    exact TJ_258_1392_18 (X := X) (d := d + 1) (by omega) h hP hE
                  · rw [if_neg hb90] at h
                    refine Rc.run tb_258 1 (pc' := 1167) (ls' := [some (.ref (999)), some (.ref (0)), some (.ref (77)), some (.int (x3))]) (st' := [.int (0)]) rfl rfl ?_
                    obtain rfl := Option.some.inj h
                    obtain ⟨rfl, rfl⟩ := hE _ rfl
                    exact Rc.zret tb_258 rfl mR_258 (Or.inl rfl)
              · rw [if_neg hb91] at h
                cases h
            · rw [if_neg hb92] at h
              cases h
          · rw [if_neg hb93] at h
            cases h
      · rw [if_neg hb94] at h
        cases h
    · rw [if_neg hb95] at h
      cases h
  · rw [if_neg hb96] at h
    cases h
theorem TJ_258_1102_18 {X : AX} {d : Nat} (hd : 456 ≤ d) {x3 : Int32} {M : IM} {v : Option Value} {M' : IM} {o : (Int32 × IM) ⊕ ((Int32 × IM) ⊕ (Int32 × IM))} (h : J_258_1102_18 X x3 M = some o) (hP : ∀ s', o = .inl s' → (fun (x3, M) => Rc X d 258 18 [some (.ref (999)), some (.ref (0)), some (.ref (77)), some (.int (x3))] [] M v M') s') (hE : ∀ r, o = .inr r → (fun r => match r with | .inl (x3, M) => Rc X d 258 1398 [none, none, none, none] [] M v M' | .inr q => v = some (.int q.1) ∧ M' = q.2) r) : Rc X d 258 1102 [some (.ref (999)), some (.ref (0)), some (.ref (77)), some (.int (x3))] [] M v M' := by
  obtain ⟨d, rfl⟩ : ∃ e, d = e + 1 := ⟨d - 1, by omega⟩
  unfold J_258_1102_18 at h
  dsimp only at hP hE
  refine Rc.run tb_258 5 (pc' := 1107) (ls' := [some (.ref (999)), some (.ref (0)), some (.ref (77)), some (.int (x3))]) (st' := [.int (x3 + 1), .ref (999), .ref (0)]) rfl rfl ?_
  by_cases hb101 : inb (x3 + 1) X.1 = true
  · rw [if_pos hb101] at h
    refine Rc.xald tb_258 rfl rfl  hb101 ?_
    cases hc97 : F_122 (X.2 (x3 + 1).toNatClampNeg) M with
    | none => rw [hc97] at h; cases h
    | some r97 =>
      obtain ⟨c97, M97⟩ := r97
      rw [hc97] at h
      dsimp only at h
      have hq97 := T_122 (X := X) (d := d) (by omega) (M := M) hc97
      refine Rc.callV tb_258 rfl rfl rfl mS_122 mP_122 mL_122 mO_122 rfl rfl ob_0 rfl rfl hq97 ?_
      refine Rc.run tb_258 5 (pc' := 1116) (ls' := [some (.ref (999)), some (.ref (0)), some (.ref (77)), some (.int (x3))]) (st' := [.int (x3 + 1), .ref (999), .ref (77), .int (c97)]) rfl rfl ?_
      by_cases hb100 : inb (x3 + 1) X.1 = true
      · rw [if_pos hb100] at h
        refine Rc.xald tb_258 rfl rfl  hb100 ?_
        cases hc98 : F_241 (X.2 (x3 + 1).toNatClampNeg) M97 with
        | none => rw [hc98] at h; cases h
        | some r98 =>
          obtain ⟨c98, M98⟩ := r98
          rw [hc98] at h
          dsimp only at h
          have hq98 := T_241 (X := X) (d := d) (by omega) (M := M97) hc98
          refine Rc.callV tb_258 rfl rfl rfl mS_241 mP_241 mL_241 mO_241 rfl rfl ob_77 rfl rfl hq98 ?_
          refine Rc.icmp_eq (pc1 := 1392) tb_258 rfl rfl (by decide) (by decide) (fun hb99 => ?_) (fun hb99 => ?_)
          · rw [if_pos hb99] at h
            refine Rc.mask (b := 15) ((tb_258.2 1392).trans rfl) (ls' := [some (.ref (999)), some (.ref (0)), some (.ref (77)), some (.int (x3))]) rfl ?_
            exact TJ_258_1392_18 (X := X) (d := d + 1) (by omega) h hP hE
          · rw [if_neg hb99] at h
            refine Rc.run tb_258 1 (pc' := 1124) (ls' := [some (.ref (999)), some (.ref (0)), some (.ref (77)), some (.int (x3))]) (st' := [.int (0)]) rfl rfl ?_
            obtain rfl := Option.some.inj h
            obtain ⟨rfl, rfl⟩ := hE _ rfl
            exact Rc.zret tb_258 rfl mR_258 (Or.inl rfl)
      · rw [if_neg hb100] at h
        cases h
  · rw [if_neg hb101] at h
    cases h
theorem TJ_258_1059_18 {X : AX} {d : Nat} (hd : 456 ≤ d) {x3 : Int32} {M : IM} {v : Option Value} {M' : IM} {o : (Int32 × IM) ⊕ ((Int32 × IM) ⊕ (Int32 × IM))} (h : J_258_1059_18 X x3 M = some o) (hP : ∀ s', o = .inl s' → (fun (x3, M) => Rc X d 258 18 [some (.ref (999)), some (.ref (0)), some (.ref (77)), some (.int (x3))] [] M v M') s') (hE : ∀ r, o = .inr r → (fun r => match r with | .inl (x3, M) => Rc X d 258 1398 [none, none, none, none] [] M v M' | .inr q => v = some (.int q.1) ∧ M' = q.2) r) : Rc X d 258 1059 [some (.ref (999)), some (.ref (0)), some (.ref (77)), some (.int (x3))] [] M v M' := by
  obtain ⟨d, rfl⟩ : ∃ e, d = e + 1 := ⟨d - 1, by omega⟩
  unfold J_258_1059_18 at h
  dsimp only at hP hE
  refine Rc.run tb_258 5 (pc' := 1064) (ls' := [some (.ref (999)), some (.ref (0)), some (.ref (77)), some (.int (x3))]) (st' := [.int (x3 + 1), .ref (999), .ref (0)]) rfl rfl ?_
  by_cases hb110 : inb (x3 + 1) X.1 = true
  · rw [if_pos hb110] at h
    refine Rc.xald tb_258 rfl rfl  hb110 ?_
    refine Rc.run tb_258 4 (pc' := 1069) (ls' := [some (.ref (999)), some (.ref (0)), some (.ref (77)), some (.int (x3))]) (st' := [.int (x3 + 2), .ref (999), .int (X.2 (x3 + 1).toNatClampNeg), .ref (0)]) rfl rfl ?_
    by_cases hb109 : inb (x3 + 2) X.1 = true
    · rw [if_pos hb109] at h
      refine Rc.xald tb_258 rfl rfl  hb109 ?_
      refine Rc.run tb_258 4 (pc' := 1074) (ls' := [some (.ref (999)), some (.ref (0)), some (.ref (77)), some (.int (x3))]) (st' := [.int (x3 + 3), .ref (999), .int (X.2 (x3 + 2).toNatClampNeg), .int (X.2 (x3 + 1).toNatClampNeg), .ref (0)]) rfl rfl ?_
      by_cases hb108 : inb (x3 + 3) X.1 = true
      · rw [if_pos hb108] at h
        refine Rc.xald tb_258 rfl rfl  hb108 ?_
        cases hc102 : F_121 (X.2 (x3 + 1).toNatClampNeg) (X.2 (x3 + 2).toNatClampNeg) (X.2 (x3 + 3).toNatClampNeg) M with
        | none => rw [hc102] at h; cases h
        | some r102 =>
          obtain ⟨c102, M102⟩ := r102
          rw [hc102] at h
          dsimp only at h
          have hq102 := T_121 (X := X) (d := d) (by omega) (M := M) hc102
          refine Rc.callV tb_258 rfl rfl rfl mS_121 mP_121 mL_121 mO_121 rfl rfl ob_0 rfl rfl hq102 ?_
          refine Rc.run tb_258 5 (pc' := 1083) (ls' := [some (.ref (999)), some (.ref (0)), some (.ref (77)), some (.int (x3))]) (st' := [.int (x3 + 1), .ref (999), .ref (77), .int (c102)]) rfl rfl ?_
          by_cases hb107 : inb (x3 + 1) X.1 = true
          · rw [if_pos hb107] at h
            refine Rc.xald tb_258 rfl rfl  hb107 ?_
            refine Rc.run tb_258 4 (pc' := 1088) (ls' := [some (.ref (999)), some (.ref (0)), some (.ref (77)), some (.int (x3))]) (st' := [.int (x3 + 2), .ref (999), .int (X.2 (x3 + 1).toNatClampNeg), .ref (77), .int (c102)]) rfl rfl ?_
            by_cases hb106 : inb (x3 + 2) X.1 = true
            · rw [if_pos hb106] at h
              refine Rc.xald tb_258 rfl rfl  hb106 ?_
              refine Rc.run tb_258 4 (pc' := 1093) (ls' := [some (.ref (999)), some (.ref (0)), some (.ref (77)), some (.int (x3))]) (st' := [.int (x3 + 3), .ref (999), .int (X.2 (x3 + 2).toNatClampNeg), .int (X.2 (x3 + 1).toNatClampNeg), .ref (77), .int (c102)]) rfl rfl ?_
              by_cases hb105 : inb (x3 + 3) X.1 = true
              · rw [if_pos hb105] at h
                refine Rc.xald tb_258 rfl rfl  hb105 ?_
                cases hc103 : F_240 (X.2 (x3 + 1).toNatClampNeg) (X.2 (x3 + 2).toNatClampNeg) (X.2 (x3 + 3).toNatClampNeg) M102 with
                | none => rw [hc103] at h; cases h
                | some r103 =>
                  obtain ⟨c103, M103⟩ := r103
                  rw [hc103] at h
                  dsimp only at h
                  have hq103 := T_240 (X := X) (d := d) (by omega) (M := M102) hc103
                  refine Rc.callV tb_258 rfl rfl rfl mS_240 mP_240 mL_240 mO_240 rfl rfl ob_77 rfl rfl hq103 ?_
                  refine Rc.icmp_eq (pc1 := 1392) tb_258 rfl rfl (by decide) (by decide) (fun hb104 => ?_) (fun hb104 => ?_)
                  · rw [if_pos hb104] at h
                    refine Rc.mask (b := 15) ((tb_258.2 1392).trans rfl) (ls' := [some (.ref (999)), some (.ref (0)), some (.ref (77)), some (.int (x3))]) rfl ?_
                    exact TJ_258_1392_18 (X := X) (d := d + 1) (by omega) h hP hE
                  · rw [if_neg hb104] at h
                    refine Rc.run tb_258 1 (pc' := 1101) (ls' := [some (.ref (999)), some (.ref (0)), some (.ref (77)), some (.int (x3))]) (st' := [.int (0)]) rfl rfl ?_
                    obtain rfl := Option.some.inj h
                    obtain ⟨rfl, rfl⟩ := hE _ rfl
                    exact Rc.zret tb_258 rfl mR_258 (Or.inl rfl)
              · rw [if_neg hb105] at h
                cases h
            · rw [if_neg hb106] at h
              cases h
          · rw [if_neg hb107] at h
            cases h
      · rw [if_neg hb108] at h
        cases h
    · rw [if_neg hb109] at h
      cases h
  · rw [if_neg hb110] at h
    cases h
theorem TJ_258_1026_18 {X : AX} {d : Nat} (hd : 456 ≤ d) {x3 : Int32} {M : IM} {v : Option Value} {M' : IM} {o : (Int32 × IM) ⊕ ((Int32 × IM) ⊕ (Int32 × IM))} (h : J_258_1026_18 X x3 M = some o) (hP : ∀ s', o = .inl s' → (fun (x3, M) => Rc X d 258 18 [some (.ref (999)), some (.ref (0)), some (.ref (77)), some (.int (x3))] [] M v M') s') (hE : ∀ r, o = .inr r → (fun r => match r with | .inl (x3, M) => Rc X d 258 1398 [none, none, none, none] [] M v M' | .inr q => v = some (.int q.1) ∧ M' = q.2) r) : Rc X d 258 1026 [some (.ref (999)), some (.ref (0)), some (.ref (77)), some (.int (x3))] [] M v M' := by
  obtain ⟨d, rfl⟩ : ∃ e, d = e + 1 := ⟨d - 1, by omega⟩
  unfold J_258_1026_18 at h
  dsimp only at hP hE
  refine Rc.run tb_258 5 (pc' := 1031) (ls' := [some (.ref (999)), some (.ref (0)), some (.ref (77)), some (.int (x3))]) (st' := [.int (x3 + 1), .ref (999), .ref (0)]) rfl rfl ?_
  by_cases hb117 : inb (x3 + 1) X.1 = true
  · rw [if_pos hb117] at h
    refine Rc.xald tb_258 rfl rfl  hb117 ?_
    refine Rc.run tb_258 4 (pc' := 1036) (ls' := [some (.ref (999)), some (.ref (0)), some (.ref (77)), some (.int (x3))]) (st' := [.int (x3 + 2), .ref (999), .int (X.2 (x3 + 1).toNatClampNeg), .ref (0)]) rfl rfl ?_
    by_cases hb116 : inb (x3 + 2) X.1 = true
    · rw [if_pos hb116] at h
      refine Rc.xald tb_258 rfl rfl  hb116 ?_
      cases hc111 : F_120 (X.2 (x3 + 1).toNatClampNeg) (X.2 (x3 + 2).toNatClampNeg) M with
      | none => rw [hc111] at h; cases h
      | some r111 =>
        obtain ⟨c111, M111⟩ := r111
        rw [hc111] at h
        dsimp only at h
        have hq111 := T_120 (X := X) (d := d) (by omega) (M := M) hc111
        refine Rc.callV tb_258 rfl rfl rfl mS_120 mP_120 mL_120 mO_120 rfl rfl ob_0 rfl rfl hq111 ?_
        refine Rc.run tb_258 5 (pc' := 1045) (ls' := [some (.ref (999)), some (.ref (0)), some (.ref (77)), some (.int (x3))]) (st' := [.int (x3 + 1), .ref (999), .ref (77), .int (c111)]) rfl rfl ?_
        by_cases hb115 : inb (x3 + 1) X.1 = true
        · rw [if_pos hb115] at h
          refine Rc.xald tb_258 rfl rfl  hb115 ?_
          refine Rc.run tb_258 4 (pc' := 1050) (ls' := [some (.ref (999)), some (.ref (0)), some (.ref (77)), some (.int (x3))]) (st' := [.int (x3 + 2), .ref (999), .int (X.2 (x3 + 1).toNatClampNeg), .ref (77), .int (c111)]) rfl rfl ?_
          by_cases hb114 : inb (x3 + 2) X.1 = true
          · rw [if_pos hb114] at h
            refine Rc.xald tb_258 rfl rfl  hb114 ?_
            cases hc112 : F_234 (X.2 (x3 + 1).toNatClampNeg) (X.2 (x3 + 2).toNatClampNeg) M111 with
            | none => rw [hc112] at h; cases h
            | some r112 =>
              obtain ⟨c112, M112⟩ := r112
              rw [hc112] at h
              dsimp only at h
              have hq112 := T_234 (X := X) (d := d) (by omega) (M := M111) hc112
              refine Rc.callV tb_258 rfl rfl rfl mS_234 mP_234 mL_234 mO_234 rfl rfl ob_77 rfl rfl hq112 ?_
              refine Rc.icmp_eq (pc1 := 1392) tb_258 rfl rfl (by decide) (by decide) (fun hb113 => ?_) (fun hb113 => ?_)
              · rw [if_pos hb113] at h
                refine Rc.mask (b := 15) ((tb_258.2 1392).trans rfl) (ls' := [some (.ref (999)), some (.ref (0)), some (.ref (77)), some (.int (x3))]) rfl ?_
                exact TJ_258_1392_18 (X := X) (d := d + 1) (by omega) h hP hE
              · rw [if_neg hb113] at h
                refine Rc.run tb_258 1 (pc' := 1058) (ls' := [some (.ref (999)), some (.ref (0)), some (.ref (77)), some (.int (x3))]) (st' := [.int (0)]) rfl rfl ?_
                obtain rfl := Option.some.inj h
                obtain ⟨rfl, rfl⟩ := hE _ rfl
                exact Rc.zret tb_258 rfl mR_258 (Or.inl rfl)
          · rw [if_neg hb114] at h
            cases h
        · rw [if_neg hb115] at h
          cases h
    · rw [if_neg hb116] at h
      cases h
  · rw [if_neg hb117] at h
    cases h
theorem TJ_258_1003_18 {X : AX} {d : Nat} (hd : 456 ≤ d) {x3 : Int32} {M : IM} {v : Option Value} {M' : IM} {o : (Int32 × IM) ⊕ ((Int32 × IM) ⊕ (Int32 × IM))} (h : J_258_1003_18 X x3 M = some o) (hP : ∀ s', o = .inl s' → (fun (x3, M) => Rc X d 258 18 [some (.ref (999)), some (.ref (0)), some (.ref (77)), some (.int (x3))] [] M v M') s') (hE : ∀ r, o = .inr r → (fun r => match r with | .inl (x3, M) => Rc X d 258 1398 [none, none, none, none] [] M v M' | .inr q => v = some (.int q.1) ∧ M' = q.2) r) : Rc X d 258 1003 [some (.ref (999)), some (.ref (0)), some (.ref (77)), some (.int (x3))] [] M v M' := by
  obtain ⟨d, rfl⟩ : ∃ e, d = e + 1 := ⟨d - 1, by omega⟩
  unfold J_258_1003_18 at h
  dsimp only at hP hE
  refine Rc.run tb_258 5 (pc' := 1008) (ls' := [some (.ref (999)), some (.ref (0)), some (.ref (77)), some (.int (x3))]) (st' := [.int (x3 + 1), .ref (999), .ref (0)]) rfl rfl ?_
  by_cases hb122 : inb (x3 + 1) X.1 = true
  · rw [if_pos hb122] at h
    refine Rc.xald tb_258 rfl rfl  hb122 ?_
    cases hc118 : F_119 (X.2 (x3 + 1).toNatClampNeg) M with
    | none => rw [hc118] at h; cases h
    | some r118 =>
      obtain ⟨c118, M118⟩ := r118
      rw [hc118] at h
      dsimp only at h
      have hq118 := T_119 (X := X) (d := d) (by omega) (M := M) hc118
      refine Rc.callV tb_258 rfl rfl rfl mS_119 mP_119 mL_119 mO_119 rfl rfl ob_0 rfl rfl hq118 ?_
      refine Rc.run tb_258 5 (pc' := 1017) (ls' := [some (.ref (999)), some (.ref (0)), some (.ref (77)), some (.int (x3))]) (st' := [.int (x3 + 1), .ref (999), .ref (77), .int (c118)]) rfl rfl ?_
      by_cases hb121 : inb (x3 + 1) X.1 = true
      · rw [if_pos hb121] at h
        refine Rc.xald tb_258 rfl rfl  hb121 ?_
        cases hc119 : F_232 (X.2 (x3 + 1).toNatClampNeg) M118 with
        | none => rw [hc119] at h; cases h
        | some r119 =>
          obtain ⟨c119, M119⟩ := r119
          rw [hc119] at h
          dsimp only at h
          have hq119 := T_232 (X := X) (d := d) (by omega) (M := M118) hc119
          refine Rc.callV tb_258 rfl rfl rfl mS_232 mP_232 mL_232 mO_232 rfl rfl ob_77 rfl rfl hq119 ?_
          refine Rc.icmp_eq (pc1 := 1392) tb_258 rfl rfl (by decide) (by decide) (fun hb120 => ?_) (fun hb120 => ?_)
          · rw [if_pos hb120] at h
            refine Rc.mask (b := 15) ((tb_258.2 1392).trans rfl) (ls' := [some (.ref (999)), some (.ref (0)), some (.ref (77)), some (.int (x3))]) rfl ?_
            exact TJ_258_1392_18 (X := X) (d := d + 1) (by omega) h hP hE
          · rw [if_neg hb120] at h
            refine Rc.run tb_258 1 (pc' := 1025) (ls' := [some (.ref (999)), some (.ref (0)), some (.ref (77)), some (.int (x3))]) (st' := [.int (0)]) rfl rfl ?_
            obtain rfl := Option.some.inj h
            obtain ⟨rfl, rfl⟩ := hE _ rfl
            exact Rc.zret tb_258 rfl mR_258 (Or.inl rfl)
      · rw [if_neg hb121] at h
        cases h
  · rw [if_neg hb122] at h
    cases h
theorem TJ_258_970_18 {X : AX} {d : Nat} (hd : 456 ≤ d) {x3 : Int32} {M : IM} {v : Option Value} {M' : IM} {o : (Int32 × IM) ⊕ ((Int32 × IM) ⊕ (Int32 × IM))} (h : J_258_970_18 X x3 M = some o) (hP : ∀ s', o = .inl s' → (fun (x3, M) => Rc X d 258 18 [some (.ref (999)), some (.ref (0)), some (.ref (77)), some (.int (x3))] [] M v M') s') (hE : ∀ r, o = .inr r → (fun r => match r with | .inl (x3, M) => Rc X d 258 1398 [none, none, none, none] [] M v M' | .inr q => v = some (.int q.1) ∧ M' = q.2) r) : Rc X d 258 970 [some (.ref (999)), some (.ref (0)), some (.ref (77)), some (.int (x3))] [] M v M' := by
  obtain ⟨d, rfl⟩ : ∃ e, d = e + 1 := ⟨d - 1, by omega⟩
  unfold J_258_970_18 at h
  dsimp only at hP hE
  refine Rc.run tb_258 5 (pc' := 975) (ls' := [some (.ref (999)), some (.ref (0)), some (.ref (77)), some (.int (x3))]) (st' := [.int (x3 + 1), .ref (999), .ref (0)]) rfl rfl ?_
  by_cases hb129 : inb (x3 + 1) X.1 = true
  · rw [if_pos hb129] at h
    refine Rc.xald tb_258 rfl rfl  hb129 ?_
    refine Rc.run tb_258 4 (pc' := 980) (ls' := [some (.ref (999)), some (.ref (0)), some (.ref (77)), some (.int (x3))]) (st' := [.int (x3 + 2), .ref (999), .int (X.2 (x3 + 1).toNatClampNeg), .ref (0)]) rfl rfl ?_
    by_cases hb128 : inb (x3 + 2) X.1 = true
    · rw [if_pos hb128] at h
      refine Rc.xald tb_258 rfl rfl  hb128 ?_
      cases hc123 : F_118 (X.2 (x3 + 1).toNatClampNeg) (X.2 (x3 + 2).toNatClampNeg) M with
      | none => rw [hc123] at h; cases h
      | some r123 =>
        obtain ⟨c123, M123⟩ := r123
        rw [hc123] at h
        dsimp only at h
        have hq123 := T_118 (X := X) (d := d) (by omega) (M := M) hc123
        refine Rc.callV tb_258 rfl rfl rfl mS_118 mP_118 mL_118 mO_118 rfl rfl ob_0 rfl rfl hq123 ?_
        refine Rc.run tb_258 5 (pc' := 989) (ls' := [some (.ref (999)), some (.ref (0)), some (.ref (77)), some (.int (x3))]) (st' := [.int (x3 + 1), .ref (999), .ref (77), .int (c123)]) rfl rfl ?_
        by_cases hb127 : inb (x3 + 1) X.1 = true
        · rw [if_pos hb127] at h
          refine Rc.xald tb_258 rfl rfl  hb127 ?_
          refine Rc.run tb_258 4 (pc' := 994) (ls' := [some (.ref (999)), some (.ref (0)), some (.ref (77)), some (.int (x3))]) (st' := [.int (x3 + 2), .ref (999), .int (X.2 (x3 + 1).toNatClampNeg), .ref (77), .int (c123)]) rfl rfl ?_
          by_cases hb126 : inb (x3 + 2) X.1 = true
          · rw [if_pos hb126] at h
            refine Rc.xald tb_258 rfl rfl  hb126 ?_
            cases hc124 : F_231 (X.2 (x3 + 1).toNatClampNeg) (X.2 (x3 + 2).toNatClampNeg) M123 with
            | none => rw [hc124] at h; cases h
            | some r124 =>
              obtain ⟨c124, M124⟩ := r124
              rw [hc124] at h
              dsimp only at h
              have hq124 := T_231 (X := X) (d := d) (by omega) (M := M123) hc124
              refine Rc.callV tb_258 rfl rfl rfl mS_231 mP_231 mL_231 mO_231 rfl rfl ob_77 rfl rfl hq124 ?_
              refine Rc.icmp_eq (pc1 := 1392) tb_258 rfl rfl (by decide) (by decide) (fun hb125 => ?_) (fun hb125 => ?_)
              · rw [if_pos hb125] at h
                refine Rc.mask (b := 15) ((tb_258.2 1392).trans rfl) (ls' := [some (.ref (999)), some (.ref (0)), some (.ref (77)), some (.int (x3))]) rfl ?_
                exact TJ_258_1392_18 (X := X) (d := d + 1) (by omega) h hP hE
              · rw [if_neg hb125] at h
                refine Rc.run tb_258 1 (pc' := 1002) (ls' := [some (.ref (999)), some (.ref (0)), some (.ref (77)), some (.int (x3))]) (st' := [.int (0)]) rfl rfl ?_
                obtain rfl := Option.some.inj h
                obtain ⟨rfl, rfl⟩ := hE _ rfl
                exact Rc.zret tb_258 rfl mR_258 (Or.inl rfl)
          · rw [if_neg hb126] at h
            cases h
        · rw [if_neg hb127] at h
          cases h
    · rw [if_neg hb128] at h
      cases h
  · rw [if_neg hb129] at h
    cases h
theorem TJ_258_937_18 {X : AX} {d : Nat} (hd : 456 ≤ d) {x3 : Int32} {M : IM} {v : Option Value} {M' : IM} {o : (Int32 × IM) ⊕ ((Int32 × IM) ⊕ (Int32 × IM))} (h : J_258_937_18 X x3 M = some o) (hP : ∀ s', o = .inl s' → (fun (x3, M) => Rc X d 258 18 [some (.ref (999)), some (.ref (0)), some (.ref (77)), some (.int (x3))] [] M v M') s') (hE : ∀ r, o = .inr r → (fun r => match r with | .inl (x3, M) => Rc X d 258 1398 [none, none, none, none] [] M v M' | .inr q => v = some (.int q.1) ∧ M' = q.2) r) : Rc X d 258 937 [some (.ref (999)), some (.ref (0)), some (.ref (77)), some (.int (x3))] [] M v M' := by
  obtain ⟨d, rfl⟩ : ∃ e, d = e + 1 := ⟨d - 1, by omega⟩
  unfold J_258_937_18 at h
  dsimp only at hP hE
  refine Rc.run tb_258 5 (pc' := 942) (ls' := [some (.ref (999)), some (.ref (0)), some (.ref (77)), some (.int (x3))]) (st' := [.int (x3 + 1), .ref (999), .ref (0)]) rfl rfl ?_
  by_cases hb136 : inb (x3 + 1) X.1 = true
  · rw [if_pos hb136] at h
    refine Rc.xald tb_258 rfl rfl  hb136 ?_
    refine Rc.run tb_258 4 (pc' := 947) (ls' := [some (.ref (999)), some (.ref (0)), some (.ref (77)), some (.int (x3))]) (st' := [.int (x3 + 2), .ref (999), .int (X.2 (x3 + 1).toNatClampNeg), .ref (0)]) rfl rfl ?_
    by_cases hb135 : inb (x3 + 2) X.1 = true
    · rw [if_pos hb135] at h
      refine Rc.xald tb_258 rfl rfl  hb135 ?_
      cases hc130 : F_117 (X.2 (x3 + 1).toNatClampNeg) (X.2 (x3 + 2).toNatClampNeg) M with
      | none => rw [hc130] at h; cases h
      | some r130 =>
        obtain ⟨c130, M130⟩ := r130
        rw [hc130] at h
        dsimp only at h
        have hq130 := T_117 (X := X) (d := d) (by omega) (M := M) hc130
        refine Rc.callV tb_258 rfl rfl rfl mS_117 mP_117 mL_117 mO_117 rfl rfl ob_0 rfl rfl hq130 ?_
        refine Rc.run tb_258 5 (pc' := 956) (ls' := [some (.ref (999)), some (.ref (0)), some (.ref (77)), some (.int (x3))]) (st' := [.int (x3 + 1), .ref (999), .ref (77), .int (c130)]) rfl rfl ?_
        by_cases hb134 : inb (x3 + 1) X.1 = true
        · rw [if_pos hb134] at h
          refine Rc.xald tb_258 rfl rfl  hb134 ?_
          refine Rc.run tb_258 4 (pc' := 961) (ls' := [some (.ref (999)), some (.ref (0)), some (.ref (77)), some (.int (x3))]) (st' := [.int (x3 + 2), .ref (999), .int (X.2 (x3 + 1).toNatClampNeg), .ref (77), .int (c130)]) rfl rfl ?_
          by_cases hb133 : inb (x3 + 2) X.1 = true
          · rw [if_pos hb133] at h
            refine Rc.xald tb_258 rfl rfl  hb133 ?_
            cases hc131 : F_229 (X.2 (x3 + 1).toNatClampNeg) (X.2 (x3 + 2).toNatClampNeg) M130 with
            | none => rw [hc131] at h; cases h
            | some r131 =>
              obtain ⟨c131, M131⟩ := r131
              rw [hc131] at h
              dsimp only at h
              have hq131 := T_229 (X := X) (d := d) (by omega) (M := M130) hc131
              refine Rc.callV tb_258 rfl rfl rfl mS_229 mP_229 mL_229 mO_229 rfl rfl ob_77 rfl rfl hq131 ?_
              refine Rc.icmp_eq (pc1 := 1392) tb_258 rfl rfl (by decide) (by decide) (fun hb132 => ?_) (fun hb132 => ?_)
              · rw [if_pos hb132] at h
                refine Rc.mask (b := 15) ((tb_258.2 1392).trans rfl) (ls' := [some (.ref (999)), some (.ref (0)), some (.ref (77)), some (.int (x3))]) rfl ?_
                exact TJ_258_1392_18 (X := X) (d := d + 1) (by omega) h hP hE
              · rw [if_neg hb132] at h
                refine Rc.run tb_258 1 (pc' := 969) (ls' := [some (.ref (999)), some (.ref (0)), some (.ref (77)), some (.int (x3))]) (st' := [.int (0)]) rfl rfl ?_
                obtain rfl := Option.some.inj h
                obtain ⟨rfl, rfl⟩ := hE _ rfl
                exact Rc.zret tb_258 rfl mR_258 (Or.inl rfl)
          · rw [if_neg hb133] at h
            cases h
        · rw [if_neg hb134] at h
          cases h
    · rw [if_neg hb135] at h
      cases h
  · rw [if_neg hb136] at h
    cases h
theorem TJ_258_914_18 {X : AX} {d : Nat} (hd : 456 ≤ d) {x3 : Int32} {M : IM} {v : Option Value} {M' : IM} {o : (Int32 × IM) ⊕ ((Int32 × IM) ⊕ (Int32 × IM))} (h : J_258_914_18 X x3 M = some o) (hP : ∀ s', o = .inl s' → (fun (x3, M) => Rc X d 258 18 [some (.ref (999)), some (.ref (0)), some (.ref (77)), some (.int (x3))] [] M v M') s') (hE : ∀ r, o = .inr r → (fun r => match r with | .inl (x3, M) => Rc X d 258 1398 [none, none, none, none] [] M v M' | .inr q => v = some (.int q.1) ∧ M' = q.2) r) : Rc X d 258 914 [some (.ref (999)), some (.ref (0)), some (.ref (77)), some (.int (x3))] [] M v M' := by
  obtain ⟨d, rfl⟩ : ∃ e, d = e + 1 := ⟨d - 1, by omega⟩
  unfold J_258_914_18 at h
  dsimp only at hP hE
  refine Rc.run tb_258 5 (pc' := 919) (ls' := [some (.ref (999)), some (.ref (0)), some (.ref (77)), some (.int (x3))]) (st' := [.int (x3 + 1), .ref (999), .ref (0)]) rfl rfl ?_
  by_cases hb141 : inb (x3 + 1) X.1 = true
  · rw [if_pos hb141] at h
    refine Rc.xald tb_258 rfl rfl  hb141 ?_
    cases hc137 : F_116 (X.2 (x3 + 1).toNatClampNeg) M with
    | none => rw [hc137] at h; cases h
    | some r137 =>
      obtain ⟨c137, M137⟩ := r137
      rw [hc137] at h
      dsimp only at h
      have hq137 := T_116 (X := X) (d := d) (by omega) (M := M) hc137
      refine Rc.callV tb_258 rfl rfl rfl mS_116 mP_116 mL_116 mO_116 rfl rfl ob_0 rfl rfl hq137 ?_
      refine Rc.run tb_258 5 (pc' := 928) (ls' := [some (.ref (999)), some (.ref (0)), some (.ref (77)), some (.int (x3))]) (st' := [.int (x3 + 1), .ref (999), .ref (77), .int (c137)]) rfl rfl ?_
      by_cases hb140 : inb (x3 + 1) X.1 = true
      · rw [if_pos hb140] at h
        refine Rc.xald tb_258 rfl rfl  hb140 ?_
        cases hc138 : F_227 (X.2 (x3 + 1).toNatClampNeg) M137 with
        | none => rw [hc138] at h; cases h
        | some r138 =>
          obtain ⟨c138, M138⟩ := r138
          rw [hc138] at h
          dsimp only at h
          have hq138 := T_227 (X := X) (d := d) (by omega) (M := M137) hc138
          refine Rc.callV tb_258 rfl rfl rfl mS_227 mP_227 mL_227 mO_227 rfl rfl ob_77 rfl rfl hq138 ?_
          refine Rc.icmp_eq (pc1 := 1392) tb_258 rfl rfl (by decide) (by decide) (fun hb139 => ?_) (fun hb139 => ?_)
          · rw [if_pos hb139] at h
            refine Rc.mask (b := 15) ((tb_258.2 1392).trans rfl) (ls' := [some (.ref (999)), some (.ref (0)), some (.ref (77)), some (.int (x3))]) rfl ?_
            exact TJ_258_1392_18 (X := X) (d := d + 1) (by omega) h hP hE
          · rw [if_neg hb139] at h
            refine Rc.run tb_258 1 (pc' := 936) (ls' := [some (.ref (999)), some (.ref (0)), some (.ref (77)), some (.int (x3))]) (st' := [.int (0)]) rfl rfl ?_
            obtain rfl := Option.some.inj h
            obtain ⟨rfl, rfl⟩ := hE _ rfl
            exact Rc.zret tb_258 rfl mR_258 (Or.inl rfl)
      · rw [if_neg hb140] at h
        cases h
  · rw [if_neg hb141] at h
    cases h
theorem TJ_258_891_18 {X : AX} {d : Nat} (hd : 456 ≤ d) {x3 : Int32} {M : IM} {v : Option Value} {M' : IM} {o : (Int32 × IM) ⊕ ((Int32 × IM) ⊕ (Int32 × IM))} (h : J_258_891_18 X x3 M = some o) (hP : ∀ s', o = .inl s' → (fun (x3, M) => Rc X d 258 18 [some (.ref (999)), some (.ref (0)), some (.ref (77)), some (.int (x3))] [] M v M') s') (hE : ∀ r, o = .inr r → (fun r => match r with | .inl (x3, M) => Rc X d 258 1398 [none, none, none, none] [] M v M' | .inr q => v = some (.int q.1) ∧ M' = q.2) r) : Rc X d 258 891 [some (.ref (999)), some (.ref (0)), some (.ref (77)), some (.int (x3))] [] M v M' := by
  obtain ⟨d, rfl⟩ : ∃ e, d = e + 1 := ⟨d - 1, by omega⟩
  unfold J_258_891_18 at h
  dsimp only at hP hE
  refine Rc.run tb_258 5 (pc' := 896) (ls' := [some (.ref (999)), some (.ref (0)), some (.ref (77)), some (.int (x3))]) (st' := [.int (x3 + 1), .ref (999), .ref (0)]) rfl rfl ?_
  by_cases hb146 : inb (x3 + 1) X.1 = true
  · rw [if_pos hb146] at h
    refine Rc.xald tb_258 rfl rfl  hb146 ?_
    cases hc142 : F_115 (X.2 (x3 + 1).toNatClampNeg) M with
    | none => rw [hc142] at h; cases h
    | some r142 =>
      obtain ⟨c142, M142⟩ := r142
      rw [hc142] at h
      dsimp only at h
      have hq142 := T_115 (X := X) (d := d) (by omega) (M := M) hc142
      refine Rc.callV tb_258 rfl rfl rfl mS_115 mP_115 mL_115 mO_115 rfl rfl ob_0 rfl rfl hq142 ?_
      refine Rc.run tb_258 5 (pc' := 905) (ls' := [some (.ref (999)), some (.ref (0)), some (.ref (77)), some (.int (x3))]) (st' := [.int (x3 + 1), .ref (999), .ref (77), .int (c142)]) rfl rfl ?_
      by_cases hb145 : inb (x3 + 1) X.1 = true
      · rw [if_pos hb145] at h
        refine Rc.xald tb_258 rfl rfl  hb145 ?_
        cases hc143 : F_226 (X.2 (x3 + 1).toNatClampNeg) M142 with
        | none => rw [hc143] at h; cases h
        | some r143 =>
          obtain ⟨c143, M143⟩ := r143
          rw [hc143] at h
          dsimp only at h
          have hq143 := T_226 (X := X) (d := d) (by omega) (M := M142) hc143
          refine Rc.callV tb_258 rfl rfl rfl mS_226 mP_226 mL_226 mO_226 rfl rfl ob_77 rfl rfl hq143 ?_
          refine Rc.icmp_eq (pc1 := 1392) tb_258 rfl rfl (by decide) (by decide) (fun hb144 => ?_) (fun hb144 => ?_)
          · rw [if_pos hb144] at h
            refine Rc.mask (b := 15) ((tb_258.2 1392).trans rfl) (ls' := [some (.ref (999)), some (.ref (0)), some (.ref (77)), some (.int (x3))]) rfl ?_
            exact TJ_258_1392_18 (X := X) (d := d + 1) (by omega) h hP hE
          · rw [if_neg hb144] at h
            refine Rc.run tb_258 1 (pc' := 913) (ls' := [some (.ref (999)), some (.ref (0)), some (.ref (77)), some (.int (x3))]) (st' := [.int (0)]) rfl rfl ?_
            obtain rfl := Option.some.inj h
            obtain ⟨rfl, rfl⟩ := hE _ rfl
            exact Rc.zret tb_258 rfl mR_258 (Or.inl rfl)
      · rw [if_neg hb145] at h
        cases h
  · rw [if_neg hb146] at h
    cases h
theorem TJ_258_858_18 {X : AX} {d : Nat} (hd : 456 ≤ d) {x3 : Int32} {M : IM} {v : Option Value} {M' : IM} {o : (Int32 × IM) ⊕ ((Int32 × IM) ⊕ (Int32 × IM))} (h : J_258_858_18 X x3 M = some o) (hP : ∀ s', o = .inl s' → (fun (x3, M) => Rc X d 258 18 [some (.ref (999)), some (.ref (0)), some (.ref (77)), some (.int (x3))] [] M v M') s') (hE : ∀ r, o = .inr r → (fun r => match r with | .inl (x3, M) => Rc X d 258 1398 [none, none, none, none] [] M v M' | .inr q => v = some (.int q.1) ∧ M' = q.2) r) : Rc X d 258 858 [some (.ref (999)), some (.ref (0)), some (.ref (77)), some (.int (x3))] [] M v M' := by
  obtain ⟨d, rfl⟩ : ∃ e, d = e + 1 := ⟨d - 1, by omega⟩
  unfold J_258_858_18 at h
  dsimp only at hP hE
  refine Rc.run tb_258 5 (pc' := 863) (ls' := [some (.ref (999)), some (.ref (0)), some (.ref (77)), some (.int (x3))]) (st' := [.int (x3 + 1), .ref (999), .ref (0)]) rfl rfl ?_
  by_cases hb153 : inb (x3 + 1) X.1 = true
  · rw [if_pos hb153] at h
    refine Rc.xald tb_258 rfl rfl  hb153 ?_
    refine Rc.run tb_258 4 (pc' := 868) (ls' := [some (.ref (999)), some (.ref (0)), some (.ref (77)), some (.int (x3))]) (st' := [.int (x3 + 2), .ref (999), .int (X.2 (x3 + 1).toNatClampNeg), .ref (0)]) rfl rfl ?_
    by_cases hb152 : inb (x3 + 2) X.1 = true
    · rw [if_pos hb152] at h
      refine Rc.xald tb_258 rfl rfl  hb152 ?_
      cases hc147 : F_114 (X.2 (x3 + 1).toNatClampNeg) (X.2 (x3 + 2).toNatClampNeg) M with
      | none => rw [hc147] at h; cases h
      | some r147 =>
        obtain ⟨c147, M147⟩ := r147
        rw [hc147] at h
        dsimp only at h
        have hq147 := T_114 (X := X) (d := d) (by omega) (M := M) hc147
        refine Rc.callV tb_258 rfl rfl rfl mS_114 mP_114 mL_114 mO_114 rfl rfl ob_0 rfl rfl hq147 ?_
        refine Rc.run tb_258 5 (pc' := 877) (ls' := [some (.ref (999)), some (.ref (0)), some (.ref (77)), some (.int (x3))]) (st' := [.int (x3 + 1), .ref (999), .ref (77), .int (c147)]) rfl rfl ?_
        by_cases hb151 : inb (x3 + 1) X.1 = true
        · rw [if_pos hb151] at h
          refine Rc.xald tb_258 rfl rfl  hb151 ?_
          refine Rc.run tb_258 4 (pc' := 882) (ls' := [some (.ref (999)), some (.ref (0)), some (.ref (77)), some (.int (x3))]) (st' := [.int (x3 + 2), .ref (999), .int (X.2 (x3 + 1).toNatClampNeg), .ref (77), .int (c147)]) rfl rfl ?_
          by_cases hb150 : inb (x3 + 2) X.1 = true
          · rw [if_pos hb150] at h
            refine Rc.xald tb_258 rfl rfl  hb150 ?_
            cases hc148 : F_224 (X.2 (x3 + 1).toNatClampNeg) (X.2 (x3 + 2).toNatClampNeg) M147 with
            | none => rw [hc148] at h; cases h
            | some r148 =>
              obtain ⟨c148, M148⟩ := r148
              rw [hc148] at h
              dsimp only at h
              have hq148 := T_224 (X := X) (d := d) (by omega) (M := M147) hc148
              refine Rc.callV tb_258 rfl rfl rfl mS_224 mP_224 mL_224 mO_224 rfl rfl ob_77 rfl rfl hq148 ?_
              refine Rc.icmp_eq (pc1 := 1392) tb_258 rfl rfl (by decide) (by decide) (fun hb149 => ?_) (fun hb149 => ?_)
              · rw [if_pos hb149] at h
                refine Rc.mask (b := 15) ((tb_258.2 1392).trans rfl) (ls' := [some (.ref (999)), some (.ref (0)), some (.ref (77)), some (.int (x3))]) rfl ?_
                exact TJ_258_1392_18 (X := X) (d := d + 1) (by omega) h hP hE
              · rw [if_neg hb149] at h
                refine Rc.run tb_258 1 (pc' := 890) (ls' := [some (.ref (999)), some (.ref (0)), some (.ref (77)), some (.int (x3))]) (st' := [.int (0)]) rfl rfl ?_
                obtain rfl := Option.some.inj h
                obtain ⟨rfl, rfl⟩ := hE _ rfl
                exact Rc.zret tb_258 rfl mR_258 (Or.inl rfl)
          · rw [if_neg hb150] at h
            cases h
        · rw [if_neg hb151] at h
          cases h
    · rw [if_neg hb152] at h
      cases h
  · rw [if_neg hb153] at h
    cases h
theorem TJ_258_825_18 {X : AX} {d : Nat} (hd : 456 ≤ d) {x3 : Int32} {M : IM} {v : Option Value} {M' : IM} {o : (Int32 × IM) ⊕ ((Int32 × IM) ⊕ (Int32 × IM))} (h : J_258_825_18 X x3 M = some o) (hP : ∀ s', o = .inl s' → (fun (x3, M) => Rc X d 258 18 [some (.ref (999)), some (.ref (0)), some (.ref (77)), some (.int (x3))] [] M v M') s') (hE : ∀ r, o = .inr r → (fun r => match r with | .inl (x3, M) => Rc X d 258 1398 [none, none, none, none] [] M v M' | .inr q => v = some (.int q.1) ∧ M' = q.2) r) : Rc X d 258 825 [some (.ref (999)), some (.ref (0)), some (.ref (77)), some (.int (x3))] [] M v M' := by
  obtain ⟨d, rfl⟩ : ∃ e, d = e + 1 := ⟨d - 1, by omega⟩
  unfold J_258_825_18 at h
  dsimp only at hP hE
  refine Rc.run tb_258 5 (pc' := 830) (ls' := [some (.ref (999)), some (.ref (0)), some (.ref (77)), some (.int (x3))]) (st' := [.int (x3 + 1), .ref (999), .ref (0)]) rfl rfl ?_
  by_cases hb160 : inb (x3 + 1) X.1 = true
  · rw [if_pos hb160] at h
    refine Rc.xald tb_258 rfl rfl  hb160 ?_
    refine Rc.run tb_258 4 (pc' := 835) (ls' := [some (.ref (999)), some (.ref (0)), some (.ref (77)), some (.int (x3))]) (st' := [.int (x3 + 2), .ref (999), .int (X.2 (x3 + 1).toNatClampNeg), .ref (0)]) rfl rfl ?_
    by_cases hb159 : inb (x3 + 2) X.1 = true
    · rw [if_pos hb159] at h
      refine Rc.xald tb_258 rfl rfl  hb159 ?_
      cases hc154 : F_113 (X.2 (x3 + 1).toNatClampNeg) (X.2 (x3 + 2).toNatClampNeg) M with
      | none => rw [hc154] at h; cases h
      | some r154 =>
        obtain ⟨c154, M154⟩ := r154
        rw [hc154] at h
        dsimp only at h
        have hq154 := T_113 (X := X) (d := d) (by omega) (M := M) hc154
        refine Rc.callV tb_258 rfl rfl rfl mS_113 mP_113 mL_113 mO_113 rfl rfl ob_0 rfl rfl hq154 ?_
        refine Rc.run tb_258 5 (pc' := 844) (ls' := [some (.ref (999)), some (.ref (0)), some (.ref (77)), some (.int (x3))]) (st' := [.int (x3 + 1), .ref (999), .ref (77), .int (c154)]) rfl rfl ?_
        by_cases hb158 : inb (x3 + 1) X.1 = true
        · rw [if_pos hb158] at h
          refine Rc.xald tb_258 rfl rfl  hb158 ?_
          refine Rc.run tb_258 4 (pc' := 849) (ls' := [some (.ref (999)), some (.ref (0)), some (.ref (77)), some (.int (x3))]) (st' := [.int (x3 + 2), .ref (999), .int (X.2 (x3 + 1).toNatClampNeg), .ref (77), .int (c154)]) rfl rfl ?_
          by_cases hb157 : inb (x3 + 2) X.1 = true
          · rw [if_pos hb157] at h
            refine Rc.xald tb_258 rfl rfl  hb157 ?_
            cases hc155 : F_222 (X.2 (x3 + 1).toNatClampNeg) (X.2 (x3 + 2).toNatClampNeg) M154 with
            | none => rw [hc155] at h; cases h
            | some r155 =>
              obtain ⟨c155, M155⟩ := r155
              rw [hc155] at h
              dsimp only at h
              have hq155 := T_222 (X := X) (d := d) (by omega) (M := M154) hc155
              refine Rc.callV tb_258 rfl rfl rfl mS_222 mP_222 mL_222 mO_222 rfl rfl ob_77 rfl rfl hq155 ?_
              refine Rc.icmp_eq (pc1 := 1392) tb_258 rfl rfl (by decide) (by decide) (fun hb156 => ?_) (fun hb156 => ?_)
              · rw [if_pos hb156] at h
                refine Rc.mask (b := 15) ((tb_258.2 1392).trans rfl) (ls' := [some (.ref (999)), some (.ref (0)), some (.ref (77)), some (.int (x3))]) rfl ?_
                exact TJ_258_1392_18 (X := X) (d := d + 1) (by omega) h hP hE
              · rw [if_neg hb156] at h
                refine Rc.run tb_258 1 (pc' := 857) (ls' := [some (.ref (999)), some (.ref (0)), some (.ref (77)), some (.int (x3))]) (st' := [.int (0)]) rfl rfl ?_
                obtain rfl := Option.some.inj h
                obtain ⟨rfl, rfl⟩ := hE _ rfl
                exact Rc.zret tb_258 rfl mR_258 (Or.inl rfl)
          · rw [if_neg hb157] at h
            cases h
        · rw [if_neg hb158] at h
          cases h
    · rw [if_neg hb159] at h
      cases h
  · rw [if_neg hb160] at h
    cases h
theorem TJ_258_802_18 {X : AX} {d : Nat} (hd : 456 ≤ d) {x3 : Int32} {M : IM} {v : Option Value} {M' : IM} {o : (Int32 × IM) ⊕ ((Int32 × IM) ⊕ (Int32 × IM))} (h : J_258_802_18 X x3 M = some o) (hP : ∀ s', o = .inl s' → (fun (x3, M) => Rc X d 258 18 [some (.ref (999)), some (.ref (0)), some (.ref (77)), some (.int (x3))] [] M v M') s') (hE : ∀ r, o = .inr r → (fun r => match r with | .inl (x3, M) => Rc X d 258 1398 [none, none, none, none] [] M v M' | .inr q => v = some (.int q.1) ∧ M' = q.2) r) : Rc X d 258 802 [some (.ref (999)), some (.ref (0)), some (.ref (77)), some (.int (x3))] [] M v M' := by
  obtain ⟨d, rfl⟩ : ∃ e, d = e + 1 := ⟨d - 1, by omega⟩
  unfold J_258_802_18 at h
  dsimp only at hP hE
  refine Rc.run tb_258 5 (pc' := 807) (ls' := [some (.ref (999)), some (.ref (0)), some (.ref (77)), some (.int (x3))]) (st' := [.int (x3 + 1), .ref (999), .ref (0)]) rfl rfl ?_
  by_cases hb165 : inb (x3 + 1) X.1 = true
  · rw [if_pos hb165] at h
    refine Rc.xald tb_258 rfl rfl  hb165 ?_
    cases hc161 : F_112 (X.2 (x3 + 1).toNatClampNeg) M with
    | none => rw [hc161] at h; cases h
    | some r161 =>
      obtain ⟨c161, M161⟩ := r161
      rw [hc161] at h
      dsimp only at h
      have hq161 := T_112 (X := X) (d := d) (by omega) (M := M) hc161
      refine Rc.callV tb_258 rfl rfl rfl mS_112 mP_112 mL_112 mO_112 rfl rfl ob_0 rfl rfl hq161 ?_
      refine Rc.run tb_258 5 (pc' := 816) (ls' := [some (.ref (999)), some (.ref (0)), some (.ref (77)), some (.int (x3))]) (st' := [.int (x3 + 1), .ref (999), .ref (77), .int (c161)]) rfl rfl ?_
      by_cases hb164 : inb (x3 + 1) X.1 = true
      · rw [if_pos hb164] at h
        refine Rc.xald tb_258 rfl rfl  hb164 ?_
        cases hc162 : F_216 (X.2 (x3 + 1).toNatClampNeg) M161 with
        | none => rw [hc162] at h; cases h
        | some r162 =>
          obtain ⟨c162, M162⟩ := r162
          rw [hc162] at h
          dsimp only at h
          have hq162 := T_216 (X := X) (d := d) (by omega) (M := M161) hc162
          refine Rc.callV tb_258 rfl rfl rfl mS_216 mP_216 mL_216 mO_216 rfl rfl ob_77 rfl rfl hq162 ?_
          refine Rc.icmp_eq (pc1 := 1392) tb_258 rfl rfl (by decide) (by decide) (fun hb163 => ?_) (fun hb163 => ?_)
          · rw [if_pos hb163] at h
            refine Rc.mask (b := 15) ((tb_258.2 1392).trans rfl) (ls' := [some (.ref (999)), some (.ref (0)), some (.ref (77)), some (.int (x3))]) rfl ?_
            exact TJ_258_1392_18 (X := X) (d := d + 1) (by omega) h hP hE
          · rw [if_neg hb163] at h
            refine Rc.run tb_258 1 (pc' := 824) (ls' := [some (.ref (999)), some (.ref (0)), some (.ref (77)), some (.int (x3))]) (st' := [.int (0)]) rfl rfl ?_
            obtain rfl := Option.some.inj h
            obtain ⟨rfl, rfl⟩ := hE _ rfl
            exact Rc.zret tb_258 rfl mR_258 (Or.inl rfl)
      · rw [if_neg hb164] at h
        cases h
  · rw [if_neg hb165] at h
    cases h
theorem TJ_258_779_18 {X : AX} {d : Nat} (hd : 456 ≤ d) {x3 : Int32} {M : IM} {v : Option Value} {M' : IM} {o : (Int32 × IM) ⊕ ((Int32 × IM) ⊕ (Int32 × IM))} (h : J_258_779_18 X x3 M = some o) (hP : ∀ s', o = .inl s' → (fun (x3, M) => Rc X d 258 18 [some (.ref (999)), some (.ref (0)), some (.ref (77)), some (.int (x3))] [] M v M') s') (hE : ∀ r, o = .inr r → (fun r => match r with | .inl (x3, M) => Rc X d 258 1398 [none, none, none, none] [] M v M' | .inr q => v = some (.int q.1) ∧ M' = q.2) r) : Rc X d 258 779 [some (.ref (999)), some (.ref (0)), some (.ref (77)), some (.int (x3))] [] M v M' := by
  obtain ⟨d, rfl⟩ : ∃ e, d = e + 1 := ⟨d - 1, by omega⟩
  unfold J_258_779_18 at h
  dsimp only at hP hE
  refine Rc.run tb_258 5 (pc' := 784) (ls' := [some (.ref (999)), some (.ref (0)), some (.ref (77)), some (.int (x3))]) (st' := [.int (x3 + 1), .ref (999), .ref (0)]) rfl rfl ?_
  by_cases hb170 : inb (x3 + 1) X.1 = true
  · rw [if_pos hb170] at h
    refine Rc.xald tb_258 rfl rfl  hb170 ?_
    cases hc166 : F_111 (X.2 (x3 + 1).toNatClampNeg) M with
    | none => rw [hc166] at h; cases h
    | some r166 =>
      obtain ⟨c166, M166⟩ := r166
      rw [hc166] at h
      dsimp only at h
      have hq166 := T_111 (X := X) (d := d) (by omega) (M := M) hc166
      refine Rc.callV tb_258 rfl rfl rfl mS_111 mP_111 mL_111 mO_111 rfl rfl ob_0 rfl rfl hq166 ?_
      refine Rc.run tb_258 5 (pc' := 793) (ls' := [some (.ref (999)), some (.ref (0)), some (.ref (77)), some (.int (x3))]) (st' := [.int (x3 + 1), .ref (999), .ref (77), .int (c166)]) rfl rfl ?_
      by_cases hb169 : inb (x3 + 1) X.1 = true
      · rw [if_pos hb169] at h
        refine Rc.xald tb_258 rfl rfl  hb169 ?_
        cases hc167 : F_215 (X.2 (x3 + 1).toNatClampNeg) M166 with
        | none => rw [hc167] at h; cases h
        | some r167 =>
          obtain ⟨c167, M167⟩ := r167
          rw [hc167] at h
          dsimp only at h
          have hq167 := T_215 (X := X) (d := d) (by omega) (M := M166) hc167
          refine Rc.callV tb_258 rfl rfl rfl mS_215 mP_215 mL_215 mO_215 rfl rfl ob_77 rfl rfl hq167 ?_
          refine Rc.icmp_eq (pc1 := 1392) tb_258 rfl rfl (by decide) (by decide) (fun hb168 => ?_) (fun hb168 => ?_)
          · rw [if_pos hb168] at h
            refine Rc.mask (b := 15) ((tb_258.2 1392).trans rfl) (ls' := [some (.ref (999)), some (.ref (0)), some (.ref (77)), some (.int (x3))]) rfl ?_
            exact TJ_258_1392_18 (X := X) (d := d + 1) (by omega) h hP hE
          · rw [if_neg hb168] at h
            refine Rc.run tb_258 1 (pc' := 801) (ls' := [some (.ref (999)), some (.ref (0)), some (.ref (77)), some (.int (x3))]) (st' := [.int (0)]) rfl rfl ?_
            obtain rfl := Option.some.inj h
            obtain ⟨rfl, rfl⟩ := hE _ rfl
            exact Rc.zret tb_258 rfl mR_258 (Or.inl rfl)
      · rw [if_neg hb169] at h
        cases h
  · rw [if_neg hb170] at h
    cases h
theorem TJ_258_746_18 {X : AX} {d : Nat} (hd : 456 ≤ d) {x3 : Int32} {M : IM} {v : Option Value} {M' : IM} {o : (Int32 × IM) ⊕ ((Int32 × IM) ⊕ (Int32 × IM))} (h : J_258_746_18 X x3 M = some o) (hP : ∀ s', o = .inl s' → (fun (x3, M) => Rc X d 258 18 [some (.ref (999)), some (.ref (0)), some (.ref (77)), some (.int (x3))] [] M v M') s') (hE : ∀ r, o = .inr r → (fun r => match r with | .inl (x3, M) => Rc X d 258 1398 [none, none, none, none] [] M v M' | .inr q => v = some (.int q.1) ∧ M' = q.2) r) : Rc X d 258 746 [some (.ref (999)), some (.ref (0)), some (.ref (77)), some (.int (x3))] [] M v M' := by
  obtain ⟨d, rfl⟩ : ∃ e, d = e + 1 := ⟨d - 1, by omega⟩
  unfold J_258_746_18 at h
  dsimp only at hP hE
  refine Rc.run tb_258 5 (pc' := 751) (ls' := [some (.ref (999)), some (.ref (0)), some (.ref (77)), some (.int (x3))]) (st' := [.int (x3 + 1), .ref (999), .ref (0)]) rfl rfl ?_
  by_cases hb177 : inb (x3 + 1) X.1 = true
  · rw [if_pos hb177] at h
    refine Rc.xald tb_258 rfl rfl  hb177 ?_
    refine Rc.run tb_258 4 (pc' := 756) (ls' := [some (.ref (999)), some (.ref (0)), some (.ref (77)), some (.int (x3))]) (st' := [.int (x3 + 2), .ref (999), .int (X.2 (x3 + 1).toNatClampNeg), .ref (0)]) rfl rfl ?_
    by_cases hb176 : inb (x3 + 2) X.1 = true
    · rw [if_pos hb176] at h
      refine Rc.xald tb_258 rfl rfl  hb176 ?_
      cases hc171 : F_110 (X.2 (x3 + 1).toNatClampNeg) (X.2 (x3 + 2).toNatClampNeg) M with
      | none => rw [hc171] at h; cases h
      | some r171 =>
        obtain ⟨c171, M171⟩ := r171
        rw [hc171] at h
        dsimp only at h
        have hq171 := T_110 (X := X) (d := d) (by omega) (M := M) hc171
        refine Rc.callV tb_258 rfl rfl rfl mS_110 mP_110 mL_110 mO_110 rfl rfl ob_0 rfl rfl hq171 ?_
        refine Rc.run tb_258 5 (pc' := 765) (ls' := [some (.ref (999)), some (.ref (0)), some (.ref (77)), some (.int (x3))]) (st' := [.int (x3 + 1), .ref (999), .ref (77), .int (c171)]) rfl rfl ?_
        by_cases hb175 : inb (x3 + 1) X.1 = true
        · rw [if_pos hb175] at h
          refine Rc.xald tb_258 rfl rfl  hb175 ?_
          refine Rc.run tb_258 4 (pc' := 770) (ls' := [some (.ref (999)), some (.ref (0)), some (.ref (77)), some (.int (x3))]) (st' := [.int (x3 + 2), .ref (999), .int (X.2 (x3 + 1).toNatClampNeg), .ref (77), .int (c171)]) rfl rfl ?_
          by_cases hb174 : inb (x3 + 2) X.1 = true
          · rw [if_pos hb174] at h
            refine Rc.xald tb_258 rfl rfl  hb174 ?_
            cases hc172 : F_213 (X.2 (x3 + 1).toNatClampNeg) (X.2 (x3 + 2).toNatClampNeg) M171 with
            | none => rw [hc172] at h; cases h
            | some r172 =>
              obtain ⟨c172, M172⟩ := r172
              rw [hc172] at h
              dsimp only at h
              have hq172 := T_213 (X := X) (d := d) (by omega) (M := M171) hc172
              refine Rc.callV tb_258 rfl rfl rfl mS_213 mP_213 mL_213 mO_213 rfl rfl ob_77 rfl rfl hq172 ?_
              refine Rc.icmp_eq (pc1 := 1392) tb_258 rfl rfl (by decide) (by decide) (fun hb173 => ?_) (fun hb173 => ?_)
              · rw [if_pos hb173] at h
                refine Rc.mask (b := 15) ((tb_258.2 1392).trans rfl) (ls' := [some (.ref (999)), some (.ref (0)), some (.ref (77)), some (.int (x3))]) rfl ?_
                exact TJ_258_1392_18 (X := X) (d := d + 1) (by omega) h hP hE
              · rw [if_neg hb173] at h
                refine Rc.run tb_258 1 (pc' := 778) (ls' := [some (.ref (999)), some (.ref (0)), some (.ref (77)), some (.int (x3))]) (st' := [.int (0)]) rfl rfl ?_
                obtain rfl := Option.some.inj h
                obtain ⟨rfl, rfl⟩ := hE _ rfl
                exact Rc.zret tb_258 rfl mR_258 (Or.inl rfl)
          · rw [if_neg hb174] at h
            cases h
        · rw [if_neg hb175] at h
          cases h
    · rw [if_neg hb176] at h
      cases h
  · rw [if_neg hb177] at h
    cases h
theorem TJ_258_722_18 {X : AX} {d : Nat} (hd : 456 ≤ d) {x3 : Int32} {M : IM} {v : Option Value} {M' : IM} {o : (Int32 × IM) ⊕ ((Int32 × IM) ⊕ (Int32 × IM))} (h : J_258_722_18 X x3 M = some o) (hP : ∀ s', o = .inl s' → (fun (x3, M) => Rc X d 258 18 [some (.ref (999)), some (.ref (0)), some (.ref (77)), some (.int (x3))] [] M v M') s') (hE : ∀ r, o = .inr r → (fun r => match r with | .inl (x3, M) => Rc X d 258 1398 [none, none, none, none] [] M v M' | .inr q => v = some (.int q.1) ∧ M' = q.2) r) : Rc X d 258 722 [some (.ref (999)), some (.ref (0)), some (.ref (77)), some (.int (x3))] [] M v M' := by
  obtain ⟨d, rfl⟩ : ∃ e, d = e + 1 := ⟨d - 1, by omega⟩
  unfold J_258_722_18 at h
  dsimp only at hP hE
  refine Rc.run tb_258 5 (pc' := 727) (ls' := [some (.ref (999)), some (.ref (0)), some (.ref (77)), some (.int (x3))]) (st' := [.int (x3 + 1), .ref (999), .ref (0)]) rfl rfl ?_
  by_cases hb182 : inb (x3 + 1) X.1 = true
  · rw [if_pos hb182] at h
    refine Rc.xald tb_258 rfl rfl  hb182 ?_
    cases hc178 : F_109 (X.2 (x3 + 1).toNatClampNeg) M with
    | none => rw [hc178] at h; cases h
    | some r178 =>
      obtain ⟨c178, M178⟩ := r178
      rw [hc178] at h
      dsimp only at h
      have hq178 := T_109 (X := X) (d := d) (by omega) (M := M) hc178
      refine Rc.callV tb_258 rfl rfl rfl mS_109 mP_109 mL_109 mO_109 rfl rfl ob_0 rfl rfl hq178 ?_
      refine Rc.run tb_258 5 (pc' := 736) (ls' := [some (.ref (999)), some (.ref (0)), some (.ref (77)), some (.int (x3))]) (st' := [.int (x3 + 1), .ref (999), .ref (77), .long (c178)]) rfl rfl ?_
      by_cases hb181 : inb (x3 + 1) X.1 = true
      · rw [if_pos hb181] at h
        refine Rc.xald tb_258 rfl rfl  hb181 ?_
        cases hc179 : F_212 (X.2 (x3 + 1).toNatClampNeg) M178 with
        | none => rw [hc179] at h; cases h
        | some r179 =>
          obtain ⟨c179, M179⟩ := r179
          rw [hc179] at h
          dsimp only at h
          have hq179 := T_212 (X := X) (d := d) (by omega) (M := M178) hc179
          refine Rc.callV tb_258 rfl rfl rfl mS_212 mP_212 mL_212 mO_212 rfl rfl ob_77 rfl rfl hq179 ?_
          refine Rc.run tb_258 1 (pc' := 741) (ls' := [some (.ref (999)), some (.ref (0)), some (.ref (77)), some (.int (x3))]) (st' := [.int (lg_cmp c178 c179)]) rfl rfl ?_
          refine Rc.if_eq (pc1 := 1392) tb_258 rfl rfl (by decide) (by decide) (fun hb180 => ?_) (fun hb180 => ?_)
          · rw [if_pos hb180] at h
            refine Rc.mask (b := 15) ((tb_258.2 1392).trans rfl) (ls' := [some (.ref (999)), some (.ref (0)), some (.ref (77)), some (.int (x3))]) rfl ?_
            exact TJ_258_1392_18 (X := X) (d := d + 1) (by omega) h hP hE
          · rw [if_neg hb180] at h
            refine Rc.run tb_258 1 (pc' := 745) (ls' := [some (.ref (999)), some (.ref (0)), some (.ref (77)), some (.int (x3))]) (st' := [.int (0)]) rfl rfl ?_
            obtain rfl := Option.some.inj h
            obtain ⟨rfl, rfl⟩ := hE _ rfl
            exact Rc.zret tb_258 rfl mR_258 (Or.inl rfl)
      · rw [if_neg hb181] at h
        cases h
  · rw [if_neg hb182] at h
    cases h
theorem TJ_258_699_18 {X : AX} {d : Nat} (hd : 456 ≤ d) {x3 : Int32} {M : IM} {v : Option Value} {M' : IM} {o : (Int32 × IM) ⊕ ((Int32 × IM) ⊕ (Int32 × IM))} (h : J_258_699_18 X x3 M = some o) (hP : ∀ s', o = .inl s' → (fun (x3, M) => Rc X d 258 18 [some (.ref (999)), some (.ref (0)), some (.ref (77)), some (.int (x3))] [] M v M') s') (hE : ∀ r, o = .inr r → (fun r => match r with | .inl (x3, M) => Rc X d 258 1398 [none, none, none, none] [] M v M' | .inr q => v = some (.int q.1) ∧ M' = q.2) r) : Rc X d 258 699 [some (.ref (999)), some (.ref (0)), some (.ref (77)), some (.int (x3))] [] M v M' := by
  obtain ⟨d, rfl⟩ : ∃ e, d = e + 1 := ⟨d - 1, by omega⟩
  unfold J_258_699_18 at h
  dsimp only at hP hE
  refine Rc.run tb_258 5 (pc' := 704) (ls' := [some (.ref (999)), some (.ref (0)), some (.ref (77)), some (.int (x3))]) (st' := [.int (x3 + 1), .ref (999), .ref (0)]) rfl rfl ?_
  by_cases hb187 : inb (x3 + 1) X.1 = true
  · rw [if_pos hb187] at h
    refine Rc.xald tb_258 rfl rfl  hb187 ?_
    cases hc183 : F_108 (X.2 (x3 + 1).toNatClampNeg) M with
    | none => rw [hc183] at h; cases h
    | some r183 =>
      obtain ⟨c183, M183⟩ := r183
      rw [hc183] at h
      dsimp only at h
      have hq183 := T_108 (X := X) (d := d) (by omega) (M := M) hc183
      refine Rc.callV tb_258 rfl rfl rfl mS_108 mP_108 mL_108 mO_108 rfl rfl ob_0 rfl rfl hq183 ?_
      refine Rc.run tb_258 5 (pc' := 713) (ls' := [some (.ref (999)), some (.ref (0)), some (.ref (77)), some (.int (x3))]) (st' := [.int (x3 + 1), .ref (999), .ref (77), .int (c183)]) rfl rfl ?_
      by_cases hb186 : inb (x3 + 1) X.1 = true
      · rw [if_pos hb186] at h
        refine Rc.xald tb_258 rfl rfl  hb186 ?_
        cases hc184 : F_209 (X.2 (x3 + 1).toNatClampNeg) M183 with
        | none => rw [hc184] at h; cases h
        | some r184 =>
          obtain ⟨c184, M184⟩ := r184
          rw [hc184] at h
          dsimp only at h
          have hq184 := T_209 (X := X) (d := d) (by omega) (M := M183) hc184
          refine Rc.callV tb_258 rfl rfl rfl mS_209 mP_209 mL_209 mO_209 rfl rfl ob_77 rfl rfl hq184 ?_
          refine Rc.icmp_eq (pc1 := 1392) tb_258 rfl rfl (by decide) (by decide) (fun hb185 => ?_) (fun hb185 => ?_)
          · rw [if_pos hb185] at h
            refine Rc.mask (b := 15) ((tb_258.2 1392).trans rfl) (ls' := [some (.ref (999)), some (.ref (0)), some (.ref (77)), some (.int (x3))]) rfl ?_
            exact TJ_258_1392_18 (X := X) (d := d + 1) (by omega) h hP hE
          · rw [if_neg hb185] at h
            refine Rc.run tb_258 1 (pc' := 721) (ls' := [some (.ref (999)), some (.ref (0)), some (.ref (77)), some (.int (x3))]) (st' := [.int (0)]) rfl rfl ?_
            obtain rfl := Option.some.inj h
            obtain ⟨rfl, rfl⟩ := hE _ rfl
            exact Rc.zret tb_258 rfl mR_258 (Or.inl rfl)
      · rw [if_neg hb186] at h
        cases h
  · rw [if_neg hb187] at h
    cases h
theorem TJ_258_666_18 {X : AX} {d : Nat} (hd : 456 ≤ d) {x3 : Int32} {M : IM} {v : Option Value} {M' : IM} {o : (Int32 × IM) ⊕ ((Int32 × IM) ⊕ (Int32 × IM))} (h : J_258_666_18 X x3 M = some o) (hP : ∀ s', o = .inl s' → (fun (x3, M) => Rc X d 258 18 [some (.ref (999)), some (.ref (0)), some (.ref (77)), some (.int (x3))] [] M v M') s') (hE : ∀ r, o = .inr r → (fun r => match r with | .inl (x3, M) => Rc X d 258 1398 [none, none, none, none] [] M v M' | .inr q => v = some (.int q.1) ∧ M' = q.2) r) : Rc X d 258 666 [some (.ref (999)), some (.ref (0)), some (.ref (77)), some (.int (x3))] [] M v M' := by
  obtain ⟨d, rfl⟩ : ∃ e, d = e + 1 := ⟨d - 1, by omega⟩
  unfold J_258_666_18 at h
  dsimp only at hP hE
  refine Rc.run tb_258 5 (pc' := 671) (ls' := [some (.ref (999)), some (.ref (0)), some (.ref (77)), some (.int (x3))]) (st' := [.int (x3 + 1), .ref (999), .ref (0)]) rfl rfl ?_
  by_cases hb194 : inb (x3 + 1) X.1 = true
  · rw [if_pos hb194] at h
    refine Rc.xald tb_258 rfl rfl  hb194 ?_
    refine Rc.run tb_258 4 (pc' := 676) (ls' := [some (.ref (999)), some (.ref (0)), some (.ref (77)), some (.int (x3))]) (st' := [.int (x3 + 2), .ref (999), .int (X.2 (x3 + 1).toNatClampNeg), .ref (0)]) rfl rfl ?_
    by_cases hb193 : inb (x3 + 2) X.1 = true
    · rw [if_pos hb193] at h
      refine Rc.xald tb_258 rfl rfl  hb193 ?_
      cases hc188 : F_107 (X.2 (x3 + 1).toNatClampNeg) (X.2 (x3 + 2).toNatClampNeg) M with
      | none => rw [hc188] at h; cases h
      | some r188 =>
        obtain ⟨c188, M188⟩ := r188
        rw [hc188] at h
        dsimp only at h
        have hq188 := T_107 (X := X) (d := d) (by omega) (M := M) hc188
        refine Rc.callV tb_258 rfl rfl rfl mS_107 mP_107 mL_107 mO_107 rfl rfl ob_0 rfl rfl hq188 ?_
        refine Rc.run tb_258 5 (pc' := 685) (ls' := [some (.ref (999)), some (.ref (0)), some (.ref (77)), some (.int (x3))]) (st' := [.int (x3 + 1), .ref (999), .ref (77), .int (c188)]) rfl rfl ?_
        by_cases hb192 : inb (x3 + 1) X.1 = true
        · rw [if_pos hb192] at h
          refine Rc.xald tb_258 rfl rfl  hb192 ?_
          refine Rc.run tb_258 4 (pc' := 690) (ls' := [some (.ref (999)), some (.ref (0)), some (.ref (77)), some (.int (x3))]) (st' := [.int (x3 + 2), .ref (999), .int (X.2 (x3 + 1).toNatClampNeg), .ref (77), .int (c188)]) rfl rfl ?_
          by_cases hb191 : inb (x3 + 2) X.1 = true
          · rw [if_pos hb191] at h
            refine Rc.xald tb_258 rfl rfl  hb191 ?_
            cases hc189 : F_208 (X.2 (x3 + 1).toNatClampNeg) (X.2 (x3 + 2).toNatClampNeg) M188 with
            | none => rw [hc189] at h; cases h
            | some r189 =>
              obtain ⟨c189, M189⟩ := r189
              rw [hc189] at h
              dsimp only at h
              have hq189 := T_208 (X := X) (d := d) (by omega) (M := M188) hc189
              refine Rc.callV tb_258 rfl rfl rfl mS_208 mP_208 mL_208 mO_208 rfl rfl ob_77 rfl rfl hq189 ?_
              refine Rc.icmp_eq (pc1 := 1392) tb_258 rfl rfl (by decide) (by decide) (fun hb190 => ?_) (fun hb190 => ?_)
              · rw [if_pos hb190] at h
                refine Rc.mask (b := 15) ((tb_258.2 1392).trans rfl) (ls' := [some (.ref (999)), some (.ref (0)), some (.ref (77)), some (.int (x3))]) rfl ?_
                exact TJ_258_1392_18 (X := X) (d := d + 1) (by omega) h hP hE
              · rw [if_neg hb190] at h
                refine Rc.run tb_258 1 (pc' := 698) (ls' := [some (.ref (999)), some (.ref (0)), some (.ref (77)), some (.int (x3))]) (st' := [.int (0)]) rfl rfl ?_
                obtain rfl := Option.some.inj h
                obtain ⟨rfl, rfl⟩ := hE _ rfl
                exact Rc.zret tb_258 rfl mR_258 (Or.inl rfl)
          · rw [if_neg hb191] at h
            cases h
        · rw [if_neg hb192] at h
          cases h
    · rw [if_neg hb193] at h
      cases h
  · rw [if_neg hb194] at h
    cases h
theorem TJ_258_653_18 {X : AX} {d : Nat} (hd : 456 ≤ d) {x3 : Int32} {M : IM} {v : Option Value} {M' : IM} {o : (Int32 × IM) ⊕ ((Int32 × IM) ⊕ (Int32 × IM))} (h : J_258_653_18 X x3 M = some o) (hP : ∀ s', o = .inl s' → (fun (x3, M) => Rc X d 258 18 [some (.ref (999)), some (.ref (0)), some (.ref (77)), some (.int (x3))] [] M v M') s') (hE : ∀ r, o = .inr r → (fun r => match r with | .inl (x3, M) => Rc X d 258 1398 [none, none, none, none] [] M v M' | .inr q => v = some (.int q.1) ∧ M' = q.2) r) : Rc X d 258 653 [some (.ref (999)), some (.ref (0)), some (.ref (77)), some (.int (x3))] [] M v M' := by
  obtain ⟨d, rfl⟩ : ∃ e, d = e + 1 := ⟨d - 1, by omega⟩
  unfold J_258_653_18 at h
  dsimp only at hP hE
  refine Rc.run tb_258 1 (pc' := 654) (ls' := [some (.ref (999)), some (.ref (0)), some (.ref (77)), some (.int (x3))]) (st' := [.ref (0)]) rfl rfl ?_
  cases hc195 : F_106 M with
  | none => rw [hc195] at h; cases h
  | some c195 =>
    rw [hc195] at h
    dsimp only at h
    have hq195 := T_106 (X := X) (d := d) (by omega) (M := M) hc195
    refine Rc.callV tb_258 rfl rfl rfl mS_106 mP_106 mL_106 mO_106 rfl rfl ob_0 rfl rfl hq195 ?_
    refine Rc.run tb_258 1 (pc' := 658) (ls' := [some (.ref (999)), some (.ref (0)), some (.ref (77)), some (.int (x3))]) (st' := [.ref (77), .int (c195)]) rfl rfl ?_
    cases hc196 : F_202 M with
    | none => rw [hc196] at h; cases h
    | some c196 =>
      rw [hc196] at h
      dsimp only at h
      have hq196 := T_202 (X := X) (d := d) (by omega) (M := M) hc196
      refine Rc.callV tb_258 rfl rfl rfl mS_202 mP_202 mL_202 mO_202 rfl rfl ob_77 rfl rfl hq196 ?_
      refine Rc.icmp_eq (pc1 := 1392) tb_258 rfl rfl (by decide) (by decide) (fun hb197 => ?_) (fun hb197 => ?_)
      · rw [if_pos hb197] at h
        refine Rc.mask (b := 15) ((tb_258.2 1392).trans rfl) (ls' := [some (.ref (999)), some (.ref (0)), some (.ref (77)), some (.int (x3))]) rfl ?_
        exact TJ_258_1392_18 (X := X) (d := d + 1) (by omega) h hP hE
      · rw [if_neg hb197] at h
        refine Rc.run tb_258 1 (pc' := 665) (ls' := [some (.ref (999)), some (.ref (0)), some (.ref (77)), some (.int (x3))]) (st' := [.int (0)]) rfl rfl ?_
        obtain rfl := Option.some.inj h
        obtain ⟨rfl, rfl⟩ := hE _ rfl
        exact Rc.zret tb_258 rfl mR_258 (Or.inl rfl)
theorem TJ_258_630_18 {X : AX} {d : Nat} (hd : 456 ≤ d) {x3 : Int32} {M : IM} {v : Option Value} {M' : IM} {o : (Int32 × IM) ⊕ ((Int32 × IM) ⊕ (Int32 × IM))} (h : J_258_630_18 X x3 M = some o) (hP : ∀ s', o = .inl s' → (fun (x3, M) => Rc X d 258 18 [some (.ref (999)), some (.ref (0)), some (.ref (77)), some (.int (x3))] [] M v M') s') (hE : ∀ r, o = .inr r → (fun r => match r with | .inl (x3, M) => Rc X d 258 1398 [none, none, none, none] [] M v M' | .inr q => v = some (.int q.1) ∧ M' = q.2) r) : Rc X d 258 630 [some (.ref (999)), some (.ref (0)), some (.ref (77)), some (.int (x3))] [] M v M' := by
  obtain ⟨d, rfl⟩ : ∃ e, d = e + 1 := ⟨d - 1, by omega⟩
  unfold J_258_630_18 at h
  dsimp only at hP hE
  refine Rc.run tb_258 5 (pc' := 635) (ls' := [some (.ref (999)), some (.ref (0)), some (.ref (77)), some (.int (x3))]) (st' := [.int (x3 + 1), .ref (999), .ref (0)]) rfl rfl ?_
  by_cases hb202 : inb (x3 + 1) X.1 = true
  · rw [if_pos hb202] at h
    refine Rc.xald tb_258 rfl rfl  hb202 ?_
    cases hc198 : F_105 (X.2 (x3 + 1).toNatClampNeg) M with
    | none => rw [hc198] at h; cases h
    | some r198 =>
      obtain ⟨c198, M198⟩ := r198
      rw [hc198] at h
      dsimp only at h
      have hq198 := T_105 (X := X) (d := d) (by omega) (M := M) hc198
      refine Rc.callV tb_258 rfl rfl rfl mS_105 mP_105 mL_105 mO_105 rfl rfl ob_0 rfl rfl hq198 ?_
      refine Rc.run tb_258 5 (pc' := 644) (ls' := [some (.ref (999)), some (.ref (0)), some (.ref (77)), some (.int (x3))]) (st' := [.int (x3 + 1), .ref (999), .ref (77), .int (c198)]) rfl rfl ?_
      by_cases hb201 : inb (x3 + 1) X.1 = true
      · rw [if_pos hb201] at h
        refine Rc.xald tb_258 rfl rfl  hb201 ?_
        cases hc199 : F_201 (X.2 (x3 + 1).toNatClampNeg) M198 with
        | none => rw [hc199] at h; cases h
        | some r199 =>
          obtain ⟨c199, M199⟩ := r199
          rw [hc199] at h
          dsimp only at h
          have hq199 := T_201 (X := X) (d := d) (by omega) (M := M198) hc199
          refine Rc.callV tb_258 rfl rfl rfl mS_201 mP_201 mL_201 mO_201 rfl rfl ob_77 rfl rfl hq199 ?_
          refine Rc.icmp_eq (pc1 := 1392) tb_258 rfl rfl (by decide) (by decide) (fun hb200 => ?_) (fun hb200 => ?_)
          · rw [if_pos hb200] at h
            refine Rc.mask (b := 15) ((tb_258.2 1392).trans rfl) (ls' := [some (.ref (999)), some (.ref (0)), some (.ref (77)), some (.int (x3))]) rfl ?_
            exact TJ_258_1392_18 (X := X) (d := d + 1) (by omega) h hP hE
          · rw [if_neg hb200] at h
            refine Rc.run tb_258 1 (pc' := 652) (ls' := [some (.ref (999)), some (.ref (0)), some (.ref (77)), some (.int (x3))]) (st' := [.int (0)]) rfl rfl ?_
            obtain rfl := Option.some.inj h
            obtain ⟨rfl, rfl⟩ := hE _ rfl
            exact Rc.zret tb_258 rfl mR_258 (Or.inl rfl)
      · rw [if_neg hb201] at h
        cases h
  · rw [if_neg hb202] at h
    cases h
theorem TJ_258_577_18 {X : AX} {d : Nat} (hd : 456 ≤ d) {x3 : Int32} {M : IM} {v : Option Value} {M' : IM} {o : (Int32 × IM) ⊕ ((Int32 × IM) ⊕ (Int32 × IM))} (h : J_258_577_18 X x3 M = some o) (hP : ∀ s', o = .inl s' → (fun (x3, M) => Rc X d 258 18 [some (.ref (999)), some (.ref (0)), some (.ref (77)), some (.int (x3))] [] M v M') s') (hE : ∀ r, o = .inr r → (fun r => match r with | .inl (x3, M) => Rc X d 258 1398 [none, none, none, none] [] M v M' | .inr q => v = some (.int q.1) ∧ M' = q.2) r) : Rc X d 258 577 [some (.ref (999)), some (.ref (0)), some (.ref (77)), some (.int (x3))] [] M v M' := by
  obtain ⟨d, rfl⟩ : ∃ e, d = e + 1 := ⟨d - 1, by omega⟩
  unfold J_258_577_18 at h
  dsimp only at hP hE
  refine Rc.run tb_258 5 (pc' := 582) (ls' := [some (.ref (999)), some (.ref (0)), some (.ref (77)), some (.int (x3))]) (st' := [.int (x3 + 1), .ref (999), .ref (0)]) rfl rfl ?_
  by_cases hb213 : inb (x3 + 1) X.1 = true
  · rw [if_pos hb213] at h
    refine Rc.xald tb_258 rfl rfl  hb213 ?_
    refine Rc.run tb_258 4 (pc' := 587) (ls' := [some (.ref (999)), some (.ref (0)), some (.ref (77)), some (.int (x3))]) (st' := [.int (x3 + 2), .ref (999), .int (X.2 (x3 + 1).toNatClampNeg), .ref (0)]) rfl rfl ?_
    by_cases hb212 : inb (x3 + 2) X.1 = true
    · rw [if_pos hb212] at h
      refine Rc.xald tb_258 rfl rfl  hb212 ?_
      refine Rc.run tb_258 4 (pc' := 592) (ls' := [some (.ref (999)), some (.ref (0)), some (.ref (77)), some (.int (x3))]) (st' := [.int (x3 + 3), .ref (999), .int (X.2 (x3 + 2).toNatClampNeg), .int (X.2 (x3 + 1).toNatClampNeg), .ref (0)]) rfl rfl ?_
      by_cases hb211 : inb (x3 + 3) X.1 = true
      · rw [if_pos hb211] at h
        refine Rc.xald tb_258 rfl rfl  hb211 ?_
        refine Rc.run tb_258 4 (pc' := 597) (ls' := [some (.ref (999)), some (.ref (0)), some (.ref (77)), some (.int (x3))]) (st' := [.int (x3 + 4), .ref (999), .int (X.2 (x3 + 3).toNatClampNeg), .int (X.2 (x3 + 2).toNatClampNeg), .int (X.2 (x3 + 1).toNatClampNeg), .ref (0)]) rfl rfl ?_
        by_cases hb210 : inb (x3 + 4) X.1 = true
        · rw [if_pos hb210] at h
          refine Rc.xald tb_258 rfl rfl  hb210 ?_
          cases hc203 : F_104 (X.2 (x3 + 1).toNatClampNeg) (X.2 (x3 + 2).toNatClampNeg) (X.2 (x3 + 3).toNatClampNeg) (X.2 (x3 + 4).toNatClampNeg) M with
          | none => rw [hc203] at h; cases h
          | some r203 =>
            obtain ⟨c203, M203⟩ := r203
            rw [hc203] at h
            dsimp only at h
            have hq203 := T_104 (X := X) (d := d) (by omega) (M := M) hc203
            refine Rc.callV tb_258 rfl rfl rfl mS_104 mP_104 mL_104 mO_104 rfl rfl ob_0 rfl rfl hq203 ?_
            refine Rc.run tb_258 5 (pc' := 606) (ls' := [some (.ref (999)), some (.ref (0)), some (.ref (77)), some (.int (x3))]) (st' := [.int (x3 + 1), .ref (999), .ref (77), .int (c203)]) rfl rfl ?_
            by_cases hb209 : inb (x3 + 1) X.1 = true
            · rw [if_pos hb209] at h
              refine Rc.xald tb_258 rfl rfl  hb209 ?_
              refine Rc.run tb_258 4 (pc' := 611) (ls' := [some (.ref (999)), some (.ref (0)), some (.ref (77)), some (.int (x3))]) (st' := [.int (x3 + 2), .ref (999), .int (X.2 (x3 + 1).toNatClampNeg), .ref (77), .int (c203)]) rfl rfl ?_
              by_cases hb208 : inb (x3 + 2) X.1 = true
              · rw [if_pos hb208] at h
                refine Rc.xald tb_258 rfl rfl  hb208 ?_
                refine Rc.run tb_258 4 (pc' := 616) (ls' := [some (.ref (999)), some (.ref (0)), some (.ref (77)), some (.int (x3))]) (st' := [.int (x3 + 3), .ref (999), .int (X.2 (x3 + 2).toNatClampNeg), .int (X.2 (x3 + 1).toNatClampNeg), .ref (77), .int (c203)]) rfl rfl ?_
                by_cases hb207 : inb (x3 + 3) X.1 = true
                · rw [if_pos hb207] at h
                  refine Rc.xald tb_258 rfl rfl  hb207 ?_
                  refine Rc.run tb_258 4 (pc' := 621) (ls' := [some (.ref (999)), some (.ref (0)), some (.ref (77)), some (.int (x3))]) (st' := [.int (x3 + 4), .ref (999), .int (X.2 (x3 + 3).toNatClampNeg), .int (X.2 (x3 + 2).toNatClampNeg), .int (X.2 (x3 + 1).toNatClampNeg), .ref (77), .int (c203)]) rfl rfl ?_
                  by_cases hb206 : inb (x3 + 4) X.1 = true
                  · rw [if_pos hb206] at h
                    refine Rc.xald tb_258 rfl rfl  hb206 ?_
                    cases hc204 : F_199 (X.2 (x3 + 1).toNatClampNeg) (X.2 (x3 + 2).toNatClampNeg) (X.2 (x3 + 3).toNatClampNeg) (X.2 (x3 + 4).toNatClampNeg) M203 with
                    | none => rw [hc204] at h; cases h
                    | some r204 =>
                      obtain ⟨c204, M204⟩ := r204
                      rw [hc204] at h
                      dsimp only at h
                      have hq204 := T_199 (X := X) (d := d) (by omega) (M := M203) hc204
                      refine Rc.callV tb_258 rfl rfl rfl mS_199 mP_199 mL_199 mO_199 rfl rfl ob_77 rfl rfl hq204 ?_
                      refine Rc.icmp_eq (pc1 := 1392) tb_258 rfl rfl (by decide) (by decide) (fun hb205 => ?_) (fun hb205 => ?_)
                      · rw [if_pos hb205] at h
                        refine Rc.mask (b := 15) ((tb_258.2 1392).trans rfl) (ls' := [some (.ref (999)), some (.ref (0)), some (.ref (77)), some (.int (x3))]) rfl ?_
                        exact TJ_258_1392_18 (X := X) (d := d + 1) (by omega) h hP hE
                      · rw [if_neg hb205] at h
                        refine Rc.run tb_258 1 (pc' := 629) (ls' := [some (.ref (999)), some (.ref (0)), some (.ref (77)), some (.int (x3))]) (st' := [.int (0)]) rfl rfl ?_
                        obtain rfl := Option.some.inj h
                        obtain ⟨rfl, rfl⟩ := hE _ rfl
                        exact Rc.zret tb_258 rfl mR_258 (Or.inl rfl)
                  · rw [if_neg hb206] at h
                    cases h
                · rw [if_neg hb207] at h
                  cases h
              · rw [if_neg hb208] at h
                cases h
            · rw [if_neg hb209] at h
              cases h
        · rw [if_neg hb210] at h
          cases h
      · rw [if_neg hb211] at h
        cases h
    · rw [if_neg hb212] at h
      cases h
  · rw [if_neg hb213] at h
    cases h
theorem TJ_258_534_18 {X : AX} {d : Nat} (hd : 456 ≤ d) {x3 : Int32} {M : IM} {v : Option Value} {M' : IM} {o : (Int32 × IM) ⊕ ((Int32 × IM) ⊕ (Int32 × IM))} (h : J_258_534_18 X x3 M = some o) (hP : ∀ s', o = .inl s' → (fun (x3, M) => Rc X d 258 18 [some (.ref (999)), some (.ref (0)), some (.ref (77)), some (.int (x3))] [] M v M') s') (hE : ∀ r, o = .inr r → (fun r => match r with | .inl (x3, M) => Rc X d 258 1398 [none, none, none, none] [] M v M' | .inr q => v = some (.int q.1) ∧ M' = q.2) r) : Rc X d 258 534 [some (.ref (999)), some (.ref (0)), some (.ref (77)), some (.int (x3))] [] M v M' := by
  obtain ⟨d, rfl⟩ : ∃ e, d = e + 1 := ⟨d - 1, by omega⟩
  unfold J_258_534_18 at h
  dsimp only at hP hE
  refine Rc.run tb_258 5 (pc' := 539) (ls' := [some (.ref (999)), some (.ref (0)), some (.ref (77)), some (.int (x3))]) (st' := [.int (x3 + 1), .ref (999), .ref (0)]) rfl rfl ?_
  by_cases hb222 : inb (x3 + 1) X.1 = true
  · rw [if_pos hb222] at h
    refine Rc.xald tb_258 rfl rfl  hb222 ?_
    refine Rc.run tb_258 4 (pc' := 544) (ls' := [some (.ref (999)), some (.ref (0)), some (.ref (77)), some (.int (x3))]) (st' := [.int (x3 + 2), .ref (999), .int (X.2 (x3 + 1).toNatClampNeg), .ref (0)]) rfl rfl ?_
    by_cases hb221 : inb (x3 + 2) X.1 = true
    · rw [if_pos hb221] at h
      refine Rc.xald tb_258 rfl rfl  hb221 ?_
      refine Rc.run tb_258 4 (pc' := 549) (ls' := [some (.ref (999)), some (.ref (0)), some (.ref (77)), some (.int (x3))]) (st' := [.int (x3 + 3), .ref (999), .int (X.2 (x3 + 2).toNatClampNeg), .int (X.2 (x3 + 1).toNatClampNeg), .ref (0)]) rfl rfl ?_
      by_cases hb220 : inb (x3 + 3) X.1 = true
      · rw [if_pos hb220] at h
        refine Rc.xald tb_258 rfl rfl  hb220 ?_
        cases hc214 : F_103 (X.2 (x3 + 1).toNatClampNeg) (X.2 (x3 + 2).toNatClampNeg) (X.2 (x3 + 3).toNatClampNeg) M with
        | none => rw [hc214] at h; cases h
        | some r214 =>
          obtain ⟨c214, M214⟩ := r214
          rw [hc214] at h
          dsimp only at h
          have hq214 := T_103 (X := X) (d := d) (by omega) (M := M) hc214
          refine Rc.callV tb_258 rfl rfl rfl mS_103 mP_103 mL_103 mO_103 rfl rfl ob_0 rfl rfl hq214 ?_
          refine Rc.run tb_258 5 (pc' := 558) (ls' := [some (.ref (999)), some (.ref (0)), some (.ref (77)), some (.int (x3))]) (st' := [.int (x3 + 1), .ref (999), .ref (77), .int (c214)]) rfl rfl ?_
          by_cases hb219 : inb (x3 + 1) X.1 = true
          · rw [if_pos hb219] at h
            refine Rc.xald tb_258 rfl rfl  hb219 ?_
            refine Rc.run tb_258 4 (pc' := 563) (ls' := [some (.ref (999)), some (.ref (0)), some (.ref (77)), some (.int (x3))]) (st' := [.int (x3 + 2), .ref (999), .int (X.2 (x3 + 1).toNatClampNeg), .ref (77), .int (c214)]) rfl rfl ?_
            by_cases hb218 : inb (x3 + 2) X.1 = true
            · rw [if_pos hb218] at h
              refine Rc.xald tb_258 rfl rfl  hb218 ?_
              refine Rc.run tb_258 4 (pc' := 568) (ls' := [some (.ref (999)), some (.ref (0)), some (.ref (77)), some (.int (x3))]) (st' := [.int (x3 + 3), .ref (999), .int (X.2 (x3 + 2).toNatClampNeg), .int (X.2 (x3 + 1).toNatClampNeg), .ref (77), .int (c214)]) rfl rfl ?_
              by_cases hb217 : inb (x3 + 3) X.1 = true
              · rw [if_pos hb217] at h
                refine Rc.xald tb_258 rfl rfl  hb217 ?_
                cases hc215 : F_197 (X.2 (x3 + 1).toNatClampNeg) (X.2 (x3 + 2).toNatClampNeg) (X.2 (x3 + 3).toNatClampNeg) M214 with
                | none => rw [hc215] at h; cases h
                | some r215 =>
                  obtain ⟨c215, M215⟩ := r215
                  rw [hc215] at h
                  dsimp only at h
                  have hq215 := T_197 (X := X) (d := d) (by omega) (M := M214) hc215
                  refine Rc.callV tb_258 rfl rfl rfl mS_197 mP_197 mL_197 mO_197 rfl rfl ob_77 rfl rfl hq215 ?_
                  refine Rc.icmp_eq (pc1 := 1392) tb_258 rfl rfl (by decide) (by decide) (fun hb216 => ?_) (fun hb216 => ?_)
                  · rw [if_pos hb216] at h
                    refine Rc.mask (b := 15) ((tb_258.2 1392).trans rfl) (ls' := [some (.ref (999)), some (.ref (0)), some (.ref (77)), some (.int (x3))]) rfl ?_
                    exact TJ_258_1392_18 (X := X) (d := d + 1) (by omega) h hP hE
                  · rw [if_neg hb216] at h
                    refine Rc.run tb_258 1 (pc' := 576) (ls' := [some (.ref (999)), some (.ref (0)), some (.ref (77)), some (.int (x3))]) (st' := [.int (0)]) rfl rfl ?_
                    obtain rfl := Option.some.inj h
                    obtain ⟨rfl, rfl⟩ := hE _ rfl
                    exact Rc.zret tb_258 rfl mR_258 (Or.inl rfl)
              · rw [if_neg hb217] at h
                cases h
            · rw [if_neg hb218] at h
              cases h
          · rw [if_neg hb219] at h
            cases h
      · rw [if_neg hb220] at h
        cases h
    · rw [if_neg hb221] at h
      cases h
  · rw [if_neg hb222] at h
    cases h
theorem TJ_258_501_18 {X : AX} {d : Nat} (hd : 456 ≤ d) {x3 : Int32} {M : IM} {v : Option Value} {M' : IM} {o : (Int32 × IM) ⊕ ((Int32 × IM) ⊕ (Int32 × IM))} (h : J_258_501_18 X x3 M = some o) (hP : ∀ s', o = .inl s' → (fun (x3, M) => Rc X d 258 18 [some (.ref (999)), some (.ref (0)), some (.ref (77)), some (.int (x3))] [] M v M') s') (hE : ∀ r, o = .inr r → (fun r => match r with | .inl (x3, M) => Rc X d 258 1398 [none, none, none, none] [] M v M' | .inr q => v = some (.int q.1) ∧ M' = q.2) r) : Rc X d 258 501 [some (.ref (999)), some (.ref (0)), some (.ref (77)), some (.int (x3))] [] M v M' := by
  obtain ⟨d, rfl⟩ : ∃ e, d = e + 1 := ⟨d - 1, by omega⟩
  unfold J_258_501_18 at h
  dsimp only at hP hE
  refine Rc.run tb_258 5 (pc' := 506) (ls' := [some (.ref (999)), some (.ref (0)), some (.ref (77)), some (.int (x3))]) (st' := [.int (x3 + 1), .ref (999), .ref (0)]) rfl rfl ?_
  by_cases hb229 : inb (x3 + 1) X.1 = true
  · rw [if_pos hb229] at h
    refine Rc.xald tb_258 rfl rfl  hb229 ?_
    refine Rc.run tb_258 4 (pc' := 511) (ls' := [some (.ref (999)), some (.ref (0)), some (.ref (77)), some (.int (x3))]) (st' := [.int (x3 + 2), .ref (999), .int (X.2 (x3 + 1).toNatClampNeg), .ref (0)]) rfl rfl ?_
    by_cases hb228 : inb (x3 + 2) X.1 = true
    · rw [if_pos hb228] at h
      refine Rc.xald tb_258 rfl rfl  hb228 ?_
      cases hc223 : F_102 (X.2 (x3 + 1).toNatClampNeg) (X.2 (x3 + 2).toNatClampNeg) M with
      | none => rw [hc223] at h; cases h
      | some r223 =>
        obtain ⟨c223, M223⟩ := r223
        rw [hc223] at h
        dsimp only at h
        have hq223 := T_102 (X := X) (d := d) (by omega) (M := M) hc223
        refine Rc.callV tb_258 rfl rfl rfl mS_102 mP_102 mL_102 mO_102 rfl rfl ob_0 rfl rfl hq223 ?_
        refine Rc.run tb_258 5 (pc' := 520) (ls' := [some (.ref (999)), some (.ref (0)), some (.ref (77)), some (.int (x3))]) (st' := [.int (x3 + 1), .ref (999), .ref (77), .int (c223)]) rfl rfl ?_
        by_cases hb227 : inb (x3 + 1) X.1 = true
        · rw [if_pos hb227] at h
          refine Rc.xald tb_258 rfl rfl  hb227 ?_
          refine Rc.run tb_258 4 (pc' := 525) (ls' := [some (.ref (999)), some (.ref (0)), some (.ref (77)), some (.int (x3))]) (st' := [.int (x3 + 2), .ref (999), .int (X.2 (x3 + 1).toNatClampNeg), .ref (77), .int (c223)]) rfl rfl ?_
          by_cases hb226 : inb (x3 + 2) X.1 = true
          · rw [if_pos hb226] at h
            refine Rc.xald tb_258 rfl rfl  hb226 ?_
            cases hc224 : F_193 (X.2 (x3 + 1).toNatClampNeg) (X.2 (x3 + 2).toNatClampNeg) M223 with
            | none => rw [hc224] at h; cases h
            | some r224 =>
              obtain ⟨c224, M224⟩ := r224
              rw [hc224] at h
              dsimp only at h
              have hq224 := T_193 (X := X) (d := d) (by omega) (M := M223) hc224
              refine Rc.callV tb_258 rfl rfl rfl mS_193 mP_193 mL_193 mO_193 rfl rfl ob_77 rfl rfl hq224 ?_
              refine Rc.icmp_eq (pc1 := 1392) tb_258 rfl rfl (by decide) (by decide) (fun hb225 => ?_) (fun hb225 => ?_)
              · rw [if_pos hb225] at h
                refine Rc.mask (b := 15) ((tb_258.2 1392).trans rfl) (ls' := [some (.ref (999)), some (.ref (0)), some (.ref (77)), some (.int (x3))]) rfl ?_
                exact TJ_258_1392_18 (X := X) (d := d + 1) (by omega) h hP hE
              · rw [if_neg hb225] at h
                refine Rc.run tb_258 1 (pc' := 533) (ls' := [some (.ref (999)), some (.ref (0)), some (.ref (77)), some (.int (x3))]) (st' := [.int (0)]) rfl rfl ?_
                obtain rfl := Option.some.inj h
                obtain ⟨rfl, rfl⟩ := hE _ rfl
                exact Rc.zret tb_258 rfl mR_258 (Or.inl rfl)
          · rw [if_neg hb226] at h
            cases h
        · rw [if_neg hb227] at h
          cases h
    · rw [if_neg hb228] at h
      cases h
  · rw [if_neg hb229] at h
    cases h
theorem TJ_258_468_18 {X : AX} {d : Nat} (hd : 456 ≤ d) {x3 : Int32} {M : IM} {v : Option Value} {M' : IM} {o : (Int32 × IM) ⊕ ((Int32 × IM) ⊕ (Int32 × IM))} (h : J_258_468_18 X x3 M = some o) (hP : ∀ s', o = .inl s' → (fun (x3, M) => Rc X d 258 18 [some (.ref (999)), some (.ref (0)), some (.ref (77)), some (.int (x3))] [] M v M') s') (hE : ∀ r, o = .inr r → (fun r => match r with | .inl (x3, M) => Rc X d 258 1398 [none, none, none, none] [] M v M' | .inr q => v = some (.int q.1) ∧ M' = q.2) r) : Rc X d 258 468 [some (.ref (999)), some (.ref (0)), some (.ref (77)), some (.int (x3))] [] M v M' := by
  obtain ⟨d, rfl⟩ : ∃ e, d = e + 1 := ⟨d - 1, by omega⟩
  unfold J_258_468_18 at h
  dsimp only at hP hE
  refine Rc.run tb_258 5 (pc' := 473) (ls' := [some (.ref (999)), some (.ref (0)), some (.ref (77)), some (.int (x3))]) (st' := [.int (x3 + 1), .ref (999), .ref (0)]) rfl rfl ?_
  by_cases hb236 : inb (x3 + 1) X.1 = true
  · rw [if_pos hb236] at h
    refine Rc.xald tb_258 rfl rfl  hb236 ?_
    refine Rc.run tb_258 4 (pc' := 478) (ls' := [some (.ref (999)), some (.ref (0)), some (.ref (77)), some (.int (x3))]) (st' := [.int (x3 + 2), .ref (999), .int (X.2 (x3 + 1).toNatClampNeg), .ref (0)]) rfl rfl ?_
    by_cases hb235 : inb (x3 + 2) X.1 = true
    · rw [if_pos hb235] at h
      refine Rc.xald tb_258 rfl rfl  hb235 ?_
      cases hc230 : F_101 (X.2 (x3 + 1).toNatClampNeg) (X.2 (x3 + 2).toNatClampNeg) M with
      | none => rw [hc230] at h; cases h
      | some r230 =>
        obtain ⟨c230, M230⟩ := r230
        rw [hc230] at h
        dsimp only at h
        have hq230 := T_101 (X := X) (d := d) (by omega) (M := M) hc230
        refine Rc.callV tb_258 rfl rfl rfl mS_101 mP_101 mL_101 mO_101 rfl rfl ob_0 rfl rfl hq230 ?_
        refine Rc.run tb_258 5 (pc' := 487) (ls' := [some (.ref (999)), some (.ref (0)), some (.ref (77)), some (.int (x3))]) (st' := [.int (x3 + 1), .ref (999), .ref (77), .int (c230)]) rfl rfl ?_
        by_cases hb234 : inb (x3 + 1) X.1 = true
        · rw [if_pos hb234] at h
          refine Rc.xald tb_258 rfl rfl  hb234 ?_
          refine Rc.run tb_258 4 (pc' := 492) (ls' := [some (.ref (999)), some (.ref (0)), some (.ref (77)), some (.int (x3))]) (st' := [.int (x3 + 2), .ref (999), .int (X.2 (x3 + 1).toNatClampNeg), .ref (77), .int (c230)]) rfl rfl ?_
          by_cases hb233 : inb (x3 + 2) X.1 = true
          · rw [if_pos hb233] at h
            refine Rc.xald tb_258 rfl rfl  hb233 ?_
            cases hc231 : F_191 (X.2 (x3 + 1).toNatClampNeg) (X.2 (x3 + 2).toNatClampNeg) M230 with
            | none => rw [hc231] at h; cases h
            | some r231 =>
              obtain ⟨c231, M231⟩ := r231
              rw [hc231] at h
              dsimp only at h
              have hq231 := T_191 (X := X) (d := d) (by omega) (M := M230) hc231
              refine Rc.callV tb_258 rfl rfl rfl mS_191 mP_191 mL_191 mO_191 rfl rfl ob_77 rfl rfl hq231 ?_
              refine Rc.icmp_eq (pc1 := 1392) tb_258 rfl rfl (by decide) (by decide) (fun hb232 => ?_) (fun hb232 => ?_)
              · rw [if_pos hb232] at h
                refine Rc.mask (b := 15) ((tb_258.2 1392).trans rfl) (ls' := [some (.ref (999)), some (.ref (0)), some (.ref (77)), some (.int (x3))]) rfl ?_
                exact TJ_258_1392_18 (X := X) (d := d + 1) (by omega) h hP hE
              · rw [if_neg hb232] at h
                refine Rc.run tb_258 1 (pc' := 500) (ls' := [some (.ref (999)), some (.ref (0)), some (.ref (77)), some (.int (x3))]) (st' := [.int (0)]) rfl rfl ?_
                obtain rfl := Option.some.inj h
                obtain ⟨rfl, rfl⟩ := hE _ rfl
                exact Rc.zret tb_258 rfl mR_258 (Or.inl rfl)
          · rw [if_neg hb233] at h
            cases h
        · rw [if_neg hb234] at h
          cases h
    · rw [if_neg hb235] at h
      cases h
  · rw [if_neg hb236] at h
    cases h
theorem TJ_258_435_18 {X : AX} {d : Nat} (hd : 456 ≤ d) {x3 : Int32} {M : IM} {v : Option Value} {M' : IM} {o : (Int32 × IM) ⊕ ((Int32 × IM) ⊕ (Int32 × IM))} (h : J_258_435_18 X x3 M = some o) (hP : ∀ s', o = .inl s' → (fun (x3, M) => Rc X d 258 18 [some (.ref (999)), some (.ref (0)), some (.ref (77)), some (.int (x3))] [] M v M') s') (hE : ∀ r, o = .inr r → (fun r => match r with | .inl (x3, M) => Rc X d 258 1398 [none, none, none, none] [] M v M' | .inr q => v = some (.int q.1) ∧ M' = q.2) r) : Rc X d 258 435 [some (.ref (999)), some (.ref (0)), some (.ref (77)), some (.int (x3))] [] M v M' := by
  obtain ⟨d, rfl⟩ : ∃ e, d = e + 1 := ⟨d - 1, by omega⟩
  unfold J_258_435_18 at h
  dsimp only at hP hE
  refine Rc.run tb_258 5 (pc' := 440) (ls' := [some (.ref (999)), some (.ref (0)), some (.ref (77)), some (.int (x3))]) (st' := [.int (x3 + 1), .ref (999), .ref (0)]) rfl rfl ?_
  by_cases hb243 : inb (x3 + 1) X.1 = true
  · rw [if_pos hb243] at h
    refine Rc.xald tb_258 rfl rfl  hb243 ?_
    refine Rc.run tb_258 4 (pc' := 445) (ls' := [some (.ref (999)), some (.ref (0)), some (.ref (77)), some (.int (x3))]) (st' := [.int (x3 + 2), .ref (999), .int (X.2 (x3 + 1).toNatClampNeg), .ref (0)]) rfl rfl ?_
    by_cases hb242 : inb (x3 + 2) X.1 = true
    · rw [if_pos hb242] at h
      refine Rc.xald tb_258 rfl rfl  hb242 ?_
      cases hc237 : F_100 (X.2 (x3 + 1).toNatClampNeg) (X.2 (x3 + 2).toNatClampNeg) M with
      | none => rw [hc237] at h; cases h
      | some r237 =>
        obtain ⟨c237, M237⟩ := r237
        rw [hc237] at h
        dsimp only at h
        have hq237 := T_100 (X := X) (d := d) (by omega) (M := M) hc237
        refine Rc.callV tb_258 rfl rfl rfl mS_100 mP_100 mL_100 mO_100 rfl rfl ob_0 rfl rfl hq237 ?_
        refine Rc.run tb_258 5 (pc' := 454) (ls' := [some (.ref (999)), some (.ref (0)), some (.ref (77)), some (.int (x3))]) (st' := [.int (x3 + 1), .ref (999), .ref (77), .int (c237)]) rfl rfl ?_
        by_cases hb241 : inb (x3 + 1) X.1 = true
        · rw [if_pos hb241] at h
          refine Rc.xald tb_258 rfl rfl  hb241 ?_
          refine Rc.run tb_258 4 (pc' := 459) (ls' := [some (.ref (999)), some (.ref (0)), some (.ref (77)), some (.int (x3))]) (st' := [.int (x3 + 2), .ref (999), .int (X.2 (x3 + 1).toNatClampNeg), .ref (77), .int (c237)]) rfl rfl ?_
          by_cases hb240 : inb (x3 + 2) X.1 = true
          · rw [if_pos hb240] at h
            refine Rc.xald tb_258 rfl rfl  hb240 ?_
            cases hc238 : F_190 (X.2 (x3 + 1).toNatClampNeg) (X.2 (x3 + 2).toNatClampNeg) M237 with
            | none => rw [hc238] at h; cases h
            | some r238 =>
              obtain ⟨c238, M238⟩ := r238
              rw [hc238] at h
              dsimp only at h
              have hq238 := T_190 (X := X) (d := d) (by omega) (M := M237) hc238
              refine Rc.callV tb_258 rfl rfl rfl mS_190 mP_190 mL_190 mO_190 rfl rfl ob_77 rfl rfl hq238 ?_
              refine Rc.icmp_eq (pc1 := 1392) tb_258 rfl rfl (by decide) (by decide) (fun hb239 => ?_) (fun hb239 => ?_)
              · rw [if_pos hb239] at h
                refine Rc.mask (b := 15) ((tb_258.2 1392).trans rfl) (ls' := [some (.ref (999)), some (.ref (0)), some (.ref (77)), some (.int (x3))]) rfl ?_
                exact TJ_258_1392_18 (X := X) (d := d + 1) (by omega) h hP hE
              · rw [if_neg hb239] at h
                refine Rc.run tb_258 1 (pc' := 467) (ls' := [some (.ref (999)), some (.ref (0)), some (.ref (77)), some (.int (x3))]) (st' := [.int (0)]) rfl rfl ?_
                obtain rfl := Option.some.inj h
                obtain ⟨rfl, rfl⟩ := hE _ rfl
                exact Rc.zret tb_258 rfl mR_258 (Or.inl rfl)
          · rw [if_neg hb240] at h
            cases h
        · rw [if_neg hb241] at h
          cases h
    · rw [if_neg hb242] at h
      cases h
  · rw [if_neg hb243] at h
    cases h
theorem TJ_258_372_18 {X : AX} {d : Nat} (hd : 456 ≤ d) {x3 : Int32} {M : IM} {v : Option Value} {M' : IM} {o : (Int32 × IM) ⊕ ((Int32 × IM) ⊕ (Int32 × IM))} (h : J_258_372_18 X x3 M = some o) (hP : ∀ s', o = .inl s' → (fun (x3, M) => Rc X d 258 18 [some (.ref (999)), some (.ref (0)), some (.ref (77)), some (.int (x3))] [] M v M') s') (hE : ∀ r, o = .inr r → (fun r => match r with | .inl (x3, M) => Rc X d 258 1398 [none, none, none, none] [] M v M' | .inr q => v = some (.int q.1) ∧ M' = q.2) r) : Rc X d 258 372 [some (.ref (999)), some (.ref (0)), some (.ref (77)), some (.int (x3))] [] M v M' := by
  obtain ⟨d, rfl⟩ : ∃ e, d = e + 1 := ⟨d - 1, by omega⟩
  unfold J_258_372_18 at h
  dsimp only at hP hE
  refine Rc.run tb_258 5 (pc' := 377) (ls' := [some (.ref (999)), some (.ref (0)), some (.ref (77)), some (.int (x3))]) (st' := [.int (x3 + 1), .ref (999), .ref (0)]) rfl rfl ?_
  by_cases hb252 : inb (x3 + 1) X.1 = true
  · rw [if_pos hb252] at h
    refine Rc.xald tb_258 rfl rfl  hb252 ?_
    refine Rc.run tb_258 7 (pc' := 386) (ls' := [some (.ref (999)), some (.ref (0)), some (.ref (77)), some (.int (x3))]) (st' := [.int (x3 + 2), .ref (999), .long (((X.2 (x3 + 1).toNatClampNeg).toInt64) <<< ((32 : Int32).toInt64 &&& 63)), .ref (0)]) rfl rfl ?_
    by_cases hb251 : inb (x3 + 2) X.1 = true
    · rw [if_pos hb251] at h
      refine Rc.xald tb_258 rfl rfl  hb251 ?_
      refine Rc.run tb_258 8 (pc' := 397) (ls' := [some (.ref (999)), some (.ref (0)), some (.ref (77)), some (.int (x3))]) (st' := [.int (x3 + 3), .ref (999), .long ((((X.2 (x3 + 1).toNatClampNeg).toInt64) <<< ((32 : Int32).toInt64 &&& 63)) ||| (((X.2 (x3 + 2).toNatClampNeg).toInt64) &&& 4294967295)), .ref (0)]) rfl rfl ?_
      by_cases hb250 : inb (x3 + 3) X.1 = true
      · rw [if_pos hb250] at h
        refine Rc.xald tb_258 rfl rfl  hb250 ?_
        cases hc244 : F_99 ((((X.2 (x3 + 1).toNatClampNeg).toInt64) <<< ((32 : Int32).toInt64 &&& 63)) ||| (((X.2 (x3 + 2).toNatClampNeg).toInt64) &&& 4294967295)) (X.2 (x3 + 3).toNatClampNeg) M with
        | none => rw [hc244] at h; cases h
        | some r244 =>
          obtain ⟨c244, M244⟩ := r244
          rw [hc244] at h
          dsimp only at h
          have hq244 := T_99 (X := X) (d := d) (by omega) (M := M) hc244
          refine Rc.callV tb_258 rfl rfl rfl mS_99 mP_99 mL_99 mO_99 rfl rfl ob_0 rfl rfl hq244 ?_
          refine Rc.run tb_258 5 (pc' := 406) (ls' := [some (.ref (999)), some (.ref (0)), some (.ref (77)), some (.int (x3))]) (st' := [.int (x3 + 1), .ref (999), .ref (77), .int (c244)]) rfl rfl ?_
          by_cases hb249 : inb (x3 + 1) X.1 = true
          · rw [if_pos hb249] at h
            refine Rc.xald tb_258 rfl rfl  hb249 ?_
            refine Rc.run tb_258 7 (pc' := 415) (ls' := [some (.ref (999)), some (.ref (0)), some (.ref (77)), some (.int (x3))]) (st' := [.int (x3 + 2), .ref (999), .long (((X.2 (x3 + 1).toNatClampNeg).toInt64) <<< ((32 : Int32).toInt64 &&& 63)), .ref (77), .int (c244)]) rfl rfl ?_
            by_cases hb248 : inb (x3 + 2) X.1 = true
            · rw [if_pos hb248] at h
              refine Rc.xald tb_258 rfl rfl  hb248 ?_
              refine Rc.run tb_258 8 (pc' := 426) (ls' := [some (.ref (999)), some (.ref (0)), some (.ref (77)), some (.int (x3))]) (st' := [.int (x3 + 3), .ref (999), .long ((((X.2 (x3 + 1).toNatClampNeg).toInt64) <<< ((32 : Int32).toInt64 &&& 63)) ||| (((X.2 (x3 + 2).toNatClampNeg).toInt64) &&& 4294967295)), .ref (77), .int (c244)]) rfl rfl ?_
              by_cases hb247 : inb (x3 + 3) X.1 = true
              · rw [if_pos hb247] at h
                refine Rc.xald tb_258 rfl rfl  hb247 ?_
                cases hc245 : F_174 ((((X.2 (x3 + 1).toNatClampNeg).toInt64) <<< ((32 : Int32).toInt64 &&& 63)) ||| (((X.2 (x3 + 2).toNatClampNeg).toInt64) &&& 4294967295)) (X.2 (x3 + 3).toNatClampNeg) M244 with
                | none => rw [hc245] at h; cases h
                | some r245 =>
                  obtain ⟨c245, M245⟩ := r245
                  rw [hc245] at h
                  dsimp only at h
                  have hq245 := T_174 (X := X) (d := d) (by omega) (M := M244) hc245
                  refine Rc.callV tb_258 rfl rfl rfl mS_174 mP_174 mL_174 mO_174 rfl rfl ob_77 rfl rfl hq245 ?_
                  refine Rc.icmp_eq (pc1 := 1392) tb_258 rfl rfl (by decide) (by decide) (fun hb246 => ?_) (fun hb246 => ?_)
                  · rw [if_pos hb246] at h
                    refine Rc.mask (b := 15) ((tb_258.2 1392).trans rfl) (ls' := [some (.ref (999)), some (.ref (0)), some (.ref (77)), some (.int (x3))]) rfl ?_
                    exact TJ_258_1392_18 (X := X) (d := d + 1) (by omega) h hP hE
                  · rw [if_neg hb246] at h
                    refine Rc.run tb_258 1 (pc' := 434) (ls' := [some (.ref (999)), some (.ref (0)), some (.ref (77)), some (.int (x3))]) (st' := [.int (0)]) rfl rfl ?_
                    obtain rfl := Option.some.inj h
                    obtain ⟨rfl, rfl⟩ := hE _ rfl
                    exact Rc.zret tb_258 rfl mR_258 (Or.inl rfl)
              · rw [if_neg hb247] at h
                cases h
            · rw [if_neg hb248] at h
              cases h
          · rw [if_neg hb249] at h
            cases h
      · rw [if_neg hb250] at h
        cases h
    · rw [if_neg hb251] at h
      cases h
  · rw [if_neg hb252] at h
    cases h
theorem TJ_258_349_18 {X : AX} {d : Nat} (hd : 456 ≤ d) {x3 : Int32} {M : IM} {v : Option Value} {M' : IM} {o : (Int32 × IM) ⊕ ((Int32 × IM) ⊕ (Int32 × IM))} (h : J_258_349_18 X x3 M = some o) (hP : ∀ s', o = .inl s' → (fun (x3, M) => Rc X d 258 18 [some (.ref (999)), some (.ref (0)), some (.ref (77)), some (.int (x3))] [] M v M') s') (hE : ∀ r, o = .inr r → (fun r => match r with | .inl (x3, M) => Rc X d 258 1398 [none, none, none, none] [] M v M' | .inr q => v = some (.int q.1) ∧ M' = q.2) r) : Rc X d 258 349 [some (.ref (999)), some (.ref (0)), some (.ref (77)), some (.int (x3))] [] M v M' := by
  obtain ⟨d, rfl⟩ : ∃ e, d = e + 1 := ⟨d - 1, by omega⟩
  unfold J_258_349_18 at h
  dsimp only at hP hE
  refine Rc.run tb_258 5 (pc' := 354) (ls' := [some (.ref (999)), some (.ref (0)), some (.ref (77)), some (.int (x3))]) (st' := [.int (x3 + 1), .ref (999), .ref (0)]) rfl rfl ?_
  by_cases hb257 : inb (x3 + 1) X.1 = true
  · rw [if_pos hb257] at h
    refine Rc.xald tb_258 rfl rfl  hb257 ?_
    cases hc253 : F_98 (X.2 (x3 + 1).toNatClampNeg) M with
    | none => rw [hc253] at h; cases h
    | some r253 =>
      obtain ⟨c253, M253⟩ := r253
      rw [hc253] at h
      dsimp only at h
      have hq253 := T_98 (X := X) (d := d) (by omega) (M := M) hc253
      refine Rc.callV tb_258 rfl rfl rfl mS_98 mP_98 mL_98 mO_98 rfl rfl ob_0 rfl rfl hq253 ?_
      refine Rc.run tb_258 5 (pc' := 363) (ls' := [some (.ref (999)), some (.ref (0)), some (.ref (77)), some (.int (x3))]) (st' := [.int (x3 + 1), .ref (999), .ref (77), .int (c253)]) rfl rfl ?_
      by_cases hb256 : inb (x3 + 1) X.1 = true
      · rw [if_pos hb256] at h
        refine Rc.xald tb_258 rfl rfl  hb256 ?_
        cases hc254 : F_173 (X.2 (x3 + 1).toNatClampNeg) M253 with
        | none => rw [hc254] at h; cases h
        | some r254 =>
          obtain ⟨c254, M254⟩ := r254
          rw [hc254] at h
          dsimp only at h
          have hq254 := T_173 (X := X) (d := d) (by omega) (M := M253) hc254
          refine Rc.callV tb_258 rfl rfl rfl mS_173 mP_173 mL_173 mO_173 rfl rfl ob_77 rfl rfl hq254 ?_
          refine Rc.icmp_eq (pc1 := 1392) tb_258 rfl rfl (by decide) (by decide) (fun hb255 => ?_) (fun hb255 => ?_)
          · rw [if_pos hb255] at h
            refine Rc.mask (b := 15) ((tb_258.2 1392).trans rfl) (ls' := [some (.ref (999)), some (.ref (0)), some (.ref (77)), some (.int (x3))]) rfl ?_
            exact TJ_258_1392_18 (X := X) (d := d + 1) (by omega) h hP hE
          · rw [if_neg hb255] at h
            refine Rc.run tb_258 1 (pc' := 371) (ls' := [some (.ref (999)), some (.ref (0)), some (.ref (77)), some (.int (x3))]) (st' := [.int (0)]) rfl rfl ?_
            obtain rfl := Option.some.inj h
            obtain ⟨rfl, rfl⟩ := hE _ rfl
            exact Rc.zret tb_258 rfl mR_258 (Or.inl rfl)
      · rw [if_neg hb256] at h
        cases h
  · rw [if_neg hb257] at h
    cases h
theorem TJ_258_326_18 {X : AX} {d : Nat} (hd : 456 ≤ d) {x3 : Int32} {M : IM} {v : Option Value} {M' : IM} {o : (Int32 × IM) ⊕ ((Int32 × IM) ⊕ (Int32 × IM))} (h : J_258_326_18 X x3 M = some o) (hP : ∀ s', o = .inl s' → (fun (x3, M) => Rc X d 258 18 [some (.ref (999)), some (.ref (0)), some (.ref (77)), some (.int (x3))] [] M v M') s') (hE : ∀ r, o = .inr r → (fun r => match r with | .inl (x3, M) => Rc X d 258 1398 [none, none, none, none] [] M v M' | .inr q => v = some (.int q.1) ∧ M' = q.2) r) : Rc X d 258 326 [some (.ref (999)), some (.ref (0)), some (.ref (77)), some (.int (x3))] [] M v M' := by
  obtain ⟨d, rfl⟩ : ∃ e, d = e + 1 := ⟨d - 1, by omega⟩
  unfold J_258_326_18 at h
  dsimp only at hP hE
  refine Rc.run tb_258 5 (pc' := 331) (ls' := [some (.ref (999)), some (.ref (0)), some (.ref (77)), some (.int (x3))]) (st' := [.int (x3 + 1), .ref (999), .ref (0)]) rfl rfl ?_
  by_cases hb262 : inb (x3 + 1) X.1 = true
  · rw [if_pos hb262] at h
    refine Rc.xald tb_258 rfl rfl  hb262 ?_
    cases hc258 : F_97 (X.2 (x3 + 1).toNatClampNeg) M with
    | none => rw [hc258] at h; cases h
    | some r258 =>
      obtain ⟨c258, M258⟩ := r258
      rw [hc258] at h
      dsimp only at h
      have hq258 := T_97 (X := X) (d := d) (by omega) (M := M) hc258
      refine Rc.callV tb_258 rfl rfl rfl mS_97 mP_97 mL_97 mO_97 rfl rfl ob_0 rfl rfl hq258 ?_
      refine Rc.run tb_258 5 (pc' := 340) (ls' := [some (.ref (999)), some (.ref (0)), some (.ref (77)), some (.int (x3))]) (st' := [.int (x3 + 1), .ref (999), .ref (77), .int (c258)]) rfl rfl ?_
      by_cases hb261 : inb (x3 + 1) X.1 = true
      · rw [if_pos hb261] at h
        refine Rc.xald tb_258 rfl rfl  hb261 ?_
        cases hc259 : F_171 (X.2 (x3 + 1).toNatClampNeg) M258 with
        | none => rw [hc259] at h; cases h
        | some r259 =>
          obtain ⟨c259, M259⟩ := r259
          rw [hc259] at h
          dsimp only at h
          have hq259 := T_171 (X := X) (d := d) (by omega) (M := M258) hc259
          refine Rc.callV tb_258 rfl rfl rfl mS_171 mP_171 mL_171 mO_171 rfl rfl ob_77 rfl rfl hq259 ?_
          refine Rc.icmp_eq (pc1 := 1392) tb_258 rfl rfl (by decide) (by decide) (fun hb260 => ?_) (fun hb260 => ?_)
          · rw [if_pos hb260] at h
            refine Rc.mask (b := 15) ((tb_258.2 1392).trans rfl) (ls' := [some (.ref (999)), some (.ref (0)), some (.ref (77)), some (.int (x3))]) rfl ?_
            exact TJ_258_1392_18 (X := X) (d := d + 1) (by omega) h hP hE
          · rw [if_neg hb260] at h
            refine Rc.run tb_258 1 (pc' := 348) (ls' := [some (.ref (999)), some (.ref (0)), some (.ref (77)), some (.int (x3))]) (st' := [.int (0)]) rfl rfl ?_
            obtain rfl := Option.some.inj h
            obtain ⟨rfl, rfl⟩ := hE _ rfl
            exact Rc.zret tb_258 rfl mR_258 (Or.inl rfl)
      · rw [if_neg hb261] at h
        cases h
  · rw [if_neg hb262] at h
    cases h
theorem TJ_258_303_18 {X : AX} {d : Nat} (hd : 456 ≤ d) {x3 : Int32} {M : IM} {v : Option Value} {M' : IM} {o : (Int32 × IM) ⊕ ((Int32 × IM) ⊕ (Int32 × IM))} (h : J_258_303_18 X x3 M = some o) (hP : ∀ s', o = .inl s' → (fun (x3, M) => Rc X d 258 18 [some (.ref (999)), some (.ref (0)), some (.ref (77)), some (.int (x3))] [] M v M') s') (hE : ∀ r, o = .inr r → (fun r => match r with | .inl (x3, M) => Rc X d 258 1398 [none, none, none, none] [] M v M' | .inr q => v = some (.int q.1) ∧ M' = q.2) r) : Rc X d 258 303 [some (.ref (999)), some (.ref (0)), some (.ref (77)), some (.int (x3))] [] M v M' := by
  obtain ⟨d, rfl⟩ : ∃ e, d = e + 1 := ⟨d - 1, by omega⟩
  unfold J_258_303_18 at h
  dsimp only at hP hE
  refine Rc.run tb_258 5 (pc' := 308) (ls' := [some (.ref (999)), some (.ref (0)), some (.ref (77)), some (.int (x3))]) (st' := [.int (x3 + 1), .ref (999), .ref (0)]) rfl rfl ?_
  by_cases hb267 : inb (x3 + 1) X.1 = true
  · rw [if_pos hb267] at h
    refine Rc.xald tb_258 rfl rfl  hb267 ?_
    cases hc263 : F_96 (X.2 (x3 + 1).toNatClampNeg) M with
    | none => rw [hc263] at h; cases h
    | some r263 =>
      obtain ⟨c263, M263⟩ := r263
      rw [hc263] at h
      dsimp only at h
      have hq263 := T_96 (X := X) (d := d) (by omega) (M := M) hc263
      refine Rc.callV tb_258 rfl rfl rfl mS_96 mP_96 mL_96 mO_96 rfl rfl ob_0 rfl rfl hq263 ?_
      refine Rc.run tb_258 5 (pc' := 317) (ls' := [some (.ref (999)), some (.ref (0)), some (.ref (77)), some (.int (x3))]) (st' := [.int (x3 + 1), .ref (999), .ref (77), .int (c263)]) rfl rfl ?_
      by_cases hb266 : inb (x3 + 1) X.1 = true
      · rw [if_pos hb266] at h
        refine Rc.xald tb_258 rfl rfl  hb266 ?_
        cases hc264 : F_170 (X.2 (x3 + 1).toNatClampNeg) M263 with
        | none => rw [hc264] at h; cases h
        | some r264 =>
          obtain ⟨c264, M264⟩ := r264
          rw [hc264] at h
          dsimp only at h
          have hq264 := T_170 (X := X) (d := d) (by omega) (M := M263) hc264
          refine Rc.callV tb_258 rfl rfl rfl mS_170 mP_170 mL_170 mO_170 rfl rfl ob_77 rfl rfl hq264 ?_
          refine Rc.icmp_eq (pc1 := 1392) tb_258 rfl rfl (by decide) (by decide) (fun hb265 => ?_) (fun hb265 => ?_)
          · rw [if_pos hb265] at h
            refine Rc.mask (b := 15) ((tb_258.2 1392).trans rfl) (ls' := [some (.ref (999)), some (.ref (0)), some (.ref (77)), some (.int (x3))]) rfl ?_
            exact TJ_258_1392_18 (X := X) (d := d + 1) (by omega) h hP hE
          · rw [if_neg hb265] at h
            refine Rc.run tb_258 1 (pc' := 325) (ls' := [some (.ref (999)), some (.ref (0)), some (.ref (77)), some (.int (x3))]) (st' := [.int (0)]) rfl rfl ?_
            obtain rfl := Option.some.inj h
            obtain ⟨rfl, rfl⟩ := hE _ rfl
            exact Rc.zret tb_258 rfl mR_258 (Or.inl rfl)
      · rw [if_neg hb266] at h
        cases h
  · rw [if_neg hb267] at h
    cases h
theorem TJ_258_270_18 {X : AX} {d : Nat} (hd : 456 ≤ d) {x3 : Int32} {M : IM} {v : Option Value} {M' : IM} {o : (Int32 × IM) ⊕ ((Int32 × IM) ⊕ (Int32 × IM))} (h : J_258_270_18 X x3 M = some o) (hP : ∀ s', o = .inl s' → (fun (x3, M) => Rc X d 258 18 [some (.ref (999)), some (.ref (0)), some (.ref (77)), some (.int (x3))] [] M v M') s') (hE : ∀ r, o = .inr r → (fun r => match r with | .inl (x3, M) => Rc X d 258 1398 [none, none, none, none] [] M v M' | .inr q => v = some (.int q.1) ∧ M' = q.2) r) : Rc X d 258 270 [some (.ref (999)), some (.ref (0)), some (.ref (77)), some (.int (x3))] [] M v M' := by
  obtain ⟨d, rfl⟩ : ∃ e, d = e + 1 := ⟨d - 1, by omega⟩
  unfold J_258_270_18 at h
  dsimp only at hP hE
  refine Rc.run tb_258 5 (pc' := 275) (ls' := [some (.ref (999)), some (.ref (0)), some (.ref (77)), some (.int (x3))]) (st' := [.int (x3 + 1), .ref (999), .ref (0)]) rfl rfl ?_
  by_cases hb274 : inb (x3 + 1) X.1 = true
  · rw [if_pos hb274] at h
    refine Rc.xald tb_258 rfl rfl  hb274 ?_
    refine Rc.run tb_258 4 (pc' := 280) (ls' := [some (.ref (999)), some (.ref (0)), some (.ref (77)), some (.int (x3))]) (st' := [.int (x3 + 2), .ref (999), .int (X.2 (x3 + 1).toNatClampNeg), .ref (0)]) rfl rfl ?_
    by_cases hb273 : inb (x3 + 2) X.1 = true
    · rw [if_pos hb273] at h
      refine Rc.xald tb_258 rfl rfl  hb273 ?_
      cases hc268 : F_95 (X.2 (x3 + 1).toNatClampNeg) (X.2 (x3 + 2).toNatClampNeg) M with
      | none => rw [hc268] at h; cases h
      | some r268 =>
        obtain ⟨c268, M268⟩ := r268
        rw [hc268] at h
        dsimp only at h
        have hq268 := T_95 (X := X) (d := d) (by omega) (M := M) hc268
        refine Rc.callV tb_258 rfl rfl rfl mS_95 mP_95 mL_95 mO_95 rfl rfl ob_0 rfl rfl hq268 ?_
        refine Rc.run tb_258 5 (pc' := 289) (ls' := [some (.ref (999)), some (.ref (0)), some (.ref (77)), some (.int (x3))]) (st' := [.int (x3 + 1), .ref (999), .ref (77), .int (c268)]) rfl rfl ?_
        by_cases hb272 : inb (x3 + 1) X.1 = true
        · rw [if_pos hb272] at h
          refine Rc.xald tb_258 rfl rfl  hb272 ?_
          refine Rc.run tb_258 4 (pc' := 294) (ls' := [some (.ref (999)), some (.ref (0)), some (.ref (77)), some (.int (x3))]) (st' := [.int (x3 + 2), .ref (999), .int (X.2 (x3 + 1).toNatClampNeg), .ref (77), .int (c268)]) rfl rfl ?_
          by_cases hb271 : inb (x3 + 2) X.1 = true
          · rw [if_pos hb271] at h
            refine Rc.xald tb_258 rfl rfl  hb271 ?_
            cases hc269 : F_169 (X.2 (x3 + 1).toNatClampNeg) (X.2 (x3 + 2).toNatClampNeg) M268 with
            | none => rw [hc269] at h; cases h
            | some r269 =>
              obtain ⟨c269, M269⟩ := r269
              rw [hc269] at h
              dsimp only at h
              have hq269 := T_169 (X := X) (d := d) (by omega) (M := M268) hc269
              refine Rc.callV tb_258 rfl rfl rfl mS_169 mP_169 mL_169 mO_169 rfl rfl ob_77 rfl rfl hq269 ?_
              refine Rc.icmp_eq (pc1 := 1392) tb_258 rfl rfl (by decide) (by decide) (fun hb270 => ?_) (fun hb270 => ?_)
              · rw [if_pos hb270] at h
                refine Rc.mask (b := 15) ((tb_258.2 1392).trans rfl) (ls' := [some (.ref (999)), some (.ref (0)), some (.ref (77)), some (.int (x3))]) rfl ?_
                exact TJ_258_1392_18 (X := X) (d := d + 1) (by omega) h hP hE
              · rw [if_neg hb270] at h
                refine Rc.run tb_258 1 (pc' := 302) (ls' := [some (.ref (999)), some (.ref (0)), some (.ref (77)), some (.int (x3))]) (st' := [.int (0)]) rfl rfl ?_
                obtain rfl := Option.some.inj h
                obtain ⟨rfl, rfl⟩ := hE _ rfl
                exact Rc.zret tb_258 rfl mR_258 (Or.inl rfl)
          · rw [if_neg hb271] at h
            cases h
        · rw [if_neg hb272] at h
          cases h
    · rw [if_neg hb273] at h
      cases h
  · rw [if_neg hb274] at h
    cases h
theorem TJ_258_237_18 {X : AX} {d : Nat} (hd : 456 ≤ d) {x3 : Int32} {M : IM} {v : Option Value} {M' : IM} {o : (Int32 × IM) ⊕ ((Int32 × IM) ⊕ (Int32 × IM))} (h : J_258_237_18 X x3 M = some o) (hP : ∀ s', o = .inl s' → (fun (x3, M) => Rc X d 258 18 [some (.ref (999)), some (.ref (0)), some (.ref (77)), some (.int (x3))] [] M v M') s') (hE : ∀ r, o = .inr r → (fun r => match r with | .inl (x3, M) => Rc X d 258 1398 [none, none, none, none] [] M v M' | .inr q => v = some (.int q.1) ∧ M' = q.2) r) : Rc X d 258 237 [some (.ref (999)), some (.ref (0)), some (.ref (77)), some (.int (x3))] [] M v M' := by
  obtain ⟨d, rfl⟩ : ∃ e, d = e + 1 := ⟨d - 1, by omega⟩
  unfold J_258_237_18 at h
  dsimp only at hP hE
  refine Rc.run tb_258 5 (pc' := 242) (ls' := [some (.ref (999)), some (.ref (0)), some (.ref (77)), some (.int (x3))]) (st' := [.int (x3 + 1), .ref (999), .ref (0)]) rfl rfl ?_
  by_cases hb281 : inb (x3 + 1) X.1 = true
  · rw [if_pos hb281] at h
    refine Rc.xald tb_258 rfl rfl  hb281 ?_
    refine Rc.run tb_258 4 (pc' := 247) (ls' := [some (.ref (999)), some (.ref (0)), some (.ref (77)), some (.int (x3))]) (st' := [.int (x3 + 2), .ref (999), .int (X.2 (x3 + 1).toNatClampNeg), .ref (0)]) rfl rfl ?_
    by_cases hb280 : inb (x3 + 2) X.1 = true
    · rw [if_pos hb280] at h
      refine Rc.xald tb_258 rfl rfl  hb280 ?_
      cases hc275 : F_94 (X.2 (x3 + 1).toNatClampNeg) (X.2 (x3 + 2).toNatClampNeg) M with
      | none => rw [hc275] at h; cases h
      | some r275 =>
        obtain ⟨c275, M275⟩ := r275
        rw [hc275] at h
        dsimp only at h
        have hq275 := T_94 (X := X) (d := d) (by omega) (M := M) hc275
        refine Rc.callV tb_258 rfl rfl rfl mS_94 mP_94 mL_94 mO_94 rfl rfl ob_0 rfl rfl hq275 ?_
        refine Rc.run tb_258 5 (pc' := 256) (ls' := [some (.ref (999)), some (.ref (0)), some (.ref (77)), some (.int (x3))]) (st' := [.int (x3 + 1), .ref (999), .ref (77), .int (c275)]) rfl rfl ?_
        by_cases hb279 : inb (x3 + 1) X.1 = true
        · rw [if_pos hb279] at h
          refine Rc.xald tb_258 rfl rfl  hb279 ?_
          refine Rc.run tb_258 4 (pc' := 261) (ls' := [some (.ref (999)), some (.ref (0)), some (.ref (77)), some (.int (x3))]) (st' := [.int (x3 + 2), .ref (999), .int (X.2 (x3 + 1).toNatClampNeg), .ref (77), .int (c275)]) rfl rfl ?_
          by_cases hb278 : inb (x3 + 2) X.1 = true
          · rw [if_pos hb278] at h
            refine Rc.xald tb_258 rfl rfl  hb278 ?_
            cases hc276 : F_168 (X.2 (x3 + 1).toNatClampNeg) (X.2 (x3 + 2).toNatClampNeg) M275 with
            | none => rw [hc276] at h; cases h
            | some r276 =>
              obtain ⟨c276, M276⟩ := r276
              rw [hc276] at h
              dsimp only at h
              have hq276 := T_168 (X := X) (d := d) (by omega) (M := M275) hc276
              refine Rc.callV tb_258 rfl rfl rfl mS_168 mP_168 mL_168 mO_168 rfl rfl ob_77 rfl rfl hq276 ?_
              refine Rc.icmp_eq (pc1 := 1392) tb_258 rfl rfl (by decide) (by decide) (fun hb277 => ?_) (fun hb277 => ?_)
              · rw [if_pos hb277] at h
                refine Rc.mask (b := 15) ((tb_258.2 1392).trans rfl) (ls' := [some (.ref (999)), some (.ref (0)), some (.ref (77)), some (.int (x3))]) rfl ?_
                exact TJ_258_1392_18 (X := X) (d := d + 1) (by omega) h hP hE
              · rw [if_neg hb277] at h
                refine Rc.run tb_258 1 (pc' := 269) (ls' := [some (.ref (999)), some (.ref (0)), some (.ref (77)), some (.int (x3))]) (st' := [.int (0)]) rfl rfl ?_
                obtain rfl := Option.some.inj h
                obtain ⟨rfl, rfl⟩ := hE _ rfl
                exact Rc.zret tb_258 rfl mR_258 (Or.inl rfl)
          · rw [if_neg hb278] at h
            cases h
        · rw [if_neg hb279] at h
          cases h
    · rw [if_neg hb280] at h
      cases h
  · rw [if_neg hb281] at h
    cases h
theorem TJ_258_204_18 {X : AX} {d : Nat} (hd : 456 ≤ d) {x3 : Int32} {M : IM} {v : Option Value} {M' : IM} {o : (Int32 × IM) ⊕ ((Int32 × IM) ⊕ (Int32 × IM))} (h : J_258_204_18 X x3 M = some o) (hP : ∀ s', o = .inl s' → (fun (x3, M) => Rc X d 258 18 [some (.ref (999)), some (.ref (0)), some (.ref (77)), some (.int (x3))] [] M v M') s') (hE : ∀ r, o = .inr r → (fun r => match r with | .inl (x3, M) => Rc X d 258 1398 [none, none, none, none] [] M v M' | .inr q => v = some (.int q.1) ∧ M' = q.2) r) : Rc X d 258 204 [some (.ref (999)), some (.ref (0)), some (.ref (77)), some (.int (x3))] [] M v M' := by
  obtain ⟨d, rfl⟩ : ∃ e, d = e + 1 := ⟨d - 1, by omega⟩
  unfold J_258_204_18 at h
  dsimp only at hP hE
  refine Rc.run tb_258 5 (pc' := 209) (ls' := [some (.ref (999)), some (.ref (0)), some (.ref (77)), some (.int (x3))]) (st' := [.int (x3 + 1), .ref (999), .ref (0)]) rfl rfl ?_
  by_cases hb288 : inb (x3 + 1) X.1 = true
  · rw [if_pos hb288] at h
    refine Rc.xald tb_258 rfl rfl  hb288 ?_
    refine Rc.run tb_258 4 (pc' := 214) (ls' := [some (.ref (999)), some (.ref (0)), some (.ref (77)), some (.int (x3))]) (st' := [.int (x3 + 2), .ref (999), .int (X.2 (x3 + 1).toNatClampNeg), .ref (0)]) rfl rfl ?_
    by_cases hb287 : inb (x3 + 2) X.1 = true
    · rw [if_pos hb287] at h
      refine Rc.xald tb_258 rfl rfl  hb287 ?_
      cases hc282 : F_93 (X.2 (x3 + 1).toNatClampNeg) (X.2 (x3 + 2).toNatClampNeg) M with
      | none => rw [hc282] at h; cases h
      | some r282 =>
        obtain ⟨c282, M282⟩ := r282
        rw [hc282] at h
        dsimp only at h
        have hq282 := T_93 (X := X) (d := d) (by omega) (M := M) hc282
        refine Rc.callV tb_258 rfl rfl rfl mS_93 mP_93 mL_93 mO_93 rfl rfl ob_0 rfl rfl hq282 ?_
        refine Rc.run tb_258 5 (pc' := 223) (ls' := [some (.ref (999)), some (.ref (0)), some (.ref (77)), some (.int (x3))]) (st' := [.int (x3 + 1), .ref (999), .ref (77), .int (c282)]) rfl rfl ?_
        by_cases hb286 : inb (x3 + 1) X.1 = true
        · rw [if_pos hb286] at h
          refine Rc.xald tb_258 rfl rfl  hb286 ?_
          refine Rc.run tb_258 4 (pc' := 228) (ls' := [some (.ref (999)), some (.ref (0)), some (.ref (77)), some (.int (x3))]) (st' := [.int (x3 + 2), .ref (999), .int (X.2 (x3 + 1).toNatClampNeg), .ref (77), .int (c282)]) rfl rfl ?_
          by_cases hb285 : inb (x3 + 2) X.1 = true
          · rw [if_pos hb285] at h
            refine Rc.xald tb_258 rfl rfl  hb285 ?_
            cases hc283 : F_167 (X.2 (x3 + 1).toNatClampNeg) (X.2 (x3 + 2).toNatClampNeg) M282 with
            | none => rw [hc283] at h; cases h
            | some r283 =>
              obtain ⟨c283, M283⟩ := r283
              rw [hc283] at h
              dsimp only at h
              have hq283 := T_167 (X := X) (d := d) (by omega) (M := M282) hc283
              refine Rc.callV tb_258 rfl rfl rfl mS_167 mP_167 mL_167 mO_167 rfl rfl ob_77 rfl rfl hq283 ?_
              refine Rc.icmp_eq (pc1 := 1392) tb_258 rfl rfl (by decide) (by decide) (fun hb284 => ?_) (fun hb284 => ?_)
              · rw [if_pos hb284] at h
                refine Rc.mask (b := 15) ((tb_258.2 1392).trans rfl) (ls' := [some (.ref (999)), some (.ref (0)), some (.ref (77)), some (.int (x3))]) rfl ?_
                exact TJ_258_1392_18 (X := X) (d := d + 1) (by omega) h hP hE
              · rw [if_neg hb284] at h
                refine Rc.run tb_258 1 (pc' := 236) (ls' := [some (.ref (999)), some (.ref (0)), some (.ref (77)), some (.int (x3))]) (st' := [.int (0)]) rfl rfl ?_
                obtain rfl := Option.some.inj h
                obtain ⟨rfl, rfl⟩ := hE _ rfl
                exact Rc.zret tb_258 rfl mR_258 (Or.inl rfl)
          · rw [if_neg hb285] at h
            cases h
        · rw [if_neg hb286] at h
          cases h
    · rw [if_neg hb287] at h
      cases h
  · rw [if_neg hb288] at h
    cases h
theorem TB_258_18 {X : AX} {d : Nat} (hd : 456 ≤ d) {v : Option Value} {M' : IM} : ∀ (s : Int32 × IM) (o : (Int32 × IM) ⊕ ((Int32 × IM) ⊕ (Int32 × IM))), B_258_18 X s = some o → (∀ s', o = .inl s' → (fun (x3, M) => Rc X d 258 18 [some (.ref (999)), some (.ref (0)), some (.ref (77)), some (.int (x3))] [] M v M') s') → (∀ r, o = .inr r → (fun r => match r with | .inl (x3, M) => Rc X d 258 1398 [none, none, none, none] [] M v M' | .inr q => v = some (.int q.1) ∧ M' = q.2) r) → (fun (x3, M) => Rc X d 258 18 [some (.ref (999)), some (.ref (0)), some (.ref (77)), some (.int (x3))] [] M v M') s := by
  rintro ⟨x3, M⟩ o h hP hE
  show Rc X d 258 18 [some (.ref (999)), some (.ref (0)), some (.ref (77)), some (.int (x3))] [] M v M'
  obtain ⟨d, rfl⟩ : ∃ e, d = e + 1 := ⟨d - 1, by omega⟩
  unfold B_258_18 at h
  dsimp only at h hP hE
  refine Rc.run tb_258 2 (pc' := 20) (ls' := [some (.ref (999)), some (.ref (0)), some (.ref (77)), some (.int (x3))]) (st' := [.ref (999), .int (x3)]) rfl rfl ?_
  refine Rc.xlen tb_258 rfl rfl ?_
  refine Rc.run tb_258 2 (pc' := 24) (ls' := [some (.ref (999)), some (.ref (0)), some (.ref (77)), some (.int (x3))]) (st' := [.int ((Int32.ofNat X.1) - 6), .int (x3)]) rfl rfl ?_
  refine Rc.icmp_gt (pc1 := 1398) tb_258 rfl rfl (by decide) (by decide) (fun hb290 => ?_) (fun hb290 => ?_)
  · rw [if_pos hb290] at h
    refine Rc.mask (b := 0) ((tb_258.2 1398).trans rfl) (ls' := [none, none, none, none]) rfl ?_
    obtain rfl := Option.some.inj h
    exact hE _ rfl
  · rw [if_neg hb290] at h
    refine Rc.run tb_258 2 (pc' := 29) (ls' := [some (.ref (999)), some (.ref (0)), some (.ref (77)), some (.int (x3))]) (st' := [.int (x3), .ref (999)]) rfl rfl ?_
    by_cases hb289 : inb x3 X.1 = true
    · rw [if_pos hb289] at h
      refine Rc.xald tb_258 rfl rfl  hb289 ?_
      refine Rc.run tb_258 2 (pc' := 33) (ls' := [some (.ref (999)), some (.ref (0)), some (.ref (77)), some (.int (x3))]) (st' := [.int ((X.2 x3.toNatClampNeg) &&& 63)]) rfl rfl ?_
      by_cases hk1 : ((X.2 x3.toNatClampNeg) &&& 63) = 0
      · rw [if_pos hk1] at h
        refine Rc.table (off := 171) (pc1 := 204) tb_258 rfl rfl (by decide) (tsw_at (k := 0) (by rw [hk1]; decide) (by decide +kernel)) (by decide) (by decide) ?_
        exact TJ_258_204_18 (X := X) (d := d + 1) (by omega) h hP hE
      · rw [if_neg hk1] at h
        by_cases hk2 : ((X.2 x3.toNatClampNeg) &&& 63) = 1
        · rw [if_pos hk2] at h
          refine Rc.table (off := 204) (pc1 := 237) tb_258 rfl rfl (by decide) (tsw_at (k := 1) (by rw [hk2]; decide) (by decide +kernel)) (by decide) (by decide) ?_
          exact TJ_258_237_18 (X := X) (d := d + 1) (by omega) h hP hE
        · rw [if_neg hk2] at h
          by_cases hk3 : ((X.2 x3.toNatClampNeg) &&& 63) = 2
          · rw [if_pos hk3] at h
            refine Rc.table (off := 237) (pc1 := 270) tb_258 rfl rfl (by decide) (tsw_at (k := 2) (by rw [hk3]; decide) (by decide +kernel)) (by decide) (by decide) ?_
            exact TJ_258_270_18 (X := X) (d := d + 1) (by omega) h hP hE
          · rw [if_neg hk3] at h
            by_cases hk4 : ((X.2 x3.toNatClampNeg) &&& 63) = 3
            · rw [if_pos hk4] at h
              refine Rc.table (off := 270) (pc1 := 303) tb_258 rfl rfl (by decide) (tsw_at (k := 3) (by rw [hk4]; decide) (by decide +kernel)) (by decide) (by decide) ?_
              exact TJ_258_303_18 (X := X) (d := d + 1) (by omega) h hP hE
            · rw [if_neg hk4] at h
              by_cases hk5 : ((X.2 x3.toNatClampNeg) &&& 63) = 4
              · rw [if_pos hk5] at h
                refine Rc.table (off := 293) (pc1 := 326) tb_258 rfl rfl (by decide) (tsw_at (k := 4) (by rw [hk5]; decide) (by decide +kernel)) (by decide) (by decide) ?_
                exact TJ_258_326_18 (X := X) (d := d + 1) (by omega) h hP hE
              · rw [if_neg hk5] at h
                by_cases hk6 : ((X.2 x3.toNatClampNeg) &&& 63) = 5
                · rw [if_pos hk6] at h
                  refine Rc.table (off := 316) (pc1 := 349) tb_258 rfl rfl (by decide) (tsw_at (k := 5) (by rw [hk6]; decide) (by decide +kernel)) (by decide) (by decide) ?_
                  exact TJ_258_349_18 (X := X) (d := d + 1) (by omega) h hP hE
                · rw [if_neg hk6] at h
                  by_cases hk7 : ((X.2 x3.toNatClampNeg) &&& 63) = 6
                  · rw [if_pos hk7] at h
                    refine Rc.table (off := 339) (pc1 := 372) tb_258 rfl rfl (by decide) (tsw_at (k := 6) (by rw [hk7]; decide) (by decide +kernel)) (by decide) (by decide) ?_
                    exact TJ_258_372_18 (X := X) (d := d + 1) (by omega) h hP hE
                  · rw [if_neg hk7] at h
                    by_cases hk8 : ((X.2 x3.toNatClampNeg) &&& 63) = 7
                    · rw [if_pos hk8] at h
                      refine Rc.table (off := 402) (pc1 := 435) tb_258 rfl rfl (by decide) (tsw_at (k := 7) (by rw [hk8]; decide) (by decide +kernel)) (by decide) (by decide) ?_
                      exact TJ_258_435_18 (X := X) (d := d + 1) (by omega) h hP hE
                    · rw [if_neg hk8] at h
                      by_cases hk9 : ((X.2 x3.toNatClampNeg) &&& 63) = 8
                      · rw [if_pos hk9] at h
                        refine Rc.table (off := 435) (pc1 := 468) tb_258 rfl rfl (by decide) (tsw_at (k := 8) (by rw [hk9]; decide) (by decide +kernel)) (by decide) (by decide) ?_
                        exact TJ_258_468_18 (X := X) (d := d + 1) (by omega) h hP hE
                      · rw [if_neg hk9] at h
                        by_cases hk10 : ((X.2 x3.toNatClampNeg) &&& 63) = 9
                        · rw [if_pos hk10] at h
                          refine Rc.table (off := 468) (pc1 := 501) tb_258 rfl rfl (by decide) (tsw_at (k := 9) (by rw [hk10]; decide) (by decide +kernel)) (by decide) (by decide) ?_
                          exact TJ_258_501_18 (X := X) (d := d + 1) (by omega) h hP hE
                        · rw [if_neg hk10] at h
                          by_cases hk11 : ((X.2 x3.toNatClampNeg) &&& 63) = 10
                          · rw [if_pos hk11] at h
                            refine Rc.table (off := 501) (pc1 := 534) tb_258 rfl rfl (by decide) (tsw_at (k := 10) (by rw [hk11]; decide) (by decide +kernel)) (by decide) (by decide) ?_
                            exact TJ_258_534_18 (X := X) (d := d + 1) (by omega) h hP hE
                          · rw [if_neg hk11] at h
                            by_cases hk12 : ((X.2 x3.toNatClampNeg) &&& 63) = 11
                            · rw [if_pos hk12] at h
                              refine Rc.table (off := 544) (pc1 := 577) tb_258 rfl rfl (by decide) (tsw_at (k := 11) (by rw [hk12]; decide) (by decide +kernel)) (by decide) (by decide) ?_
                              exact TJ_258_577_18 (X := X) (d := d + 1) (by omega) h hP hE
                            · rw [if_neg hk12] at h
                              by_cases hk13 : ((X.2 x3.toNatClampNeg) &&& 63) = 12
                              · rw [if_pos hk13] at h
                                refine Rc.table (off := 597) (pc1 := 630) tb_258 rfl rfl (by decide) (tsw_at (k := 12) (by rw [hk13]; decide) (by decide +kernel)) (by decide) (by decide) ?_
                                exact TJ_258_630_18 (X := X) (d := d + 1) (by omega) h hP hE
                              · rw [if_neg hk13] at h
                                by_cases hk14 : ((X.2 x3.toNatClampNeg) &&& 63) = 13
                                · rw [if_pos hk14] at h
                                  refine Rc.table (off := 620) (pc1 := 653) tb_258 rfl rfl (by decide) (tsw_at (k := 13) (by rw [hk14]; decide) (by decide +kernel)) (by decide) (by decide) ?_
                                  exact TJ_258_653_18 (X := X) (d := d + 1) (by omega) h hP hE
                                · rw [if_neg hk14] at h
                                  by_cases hk15 : ((X.2 x3.toNatClampNeg) &&& 63) = 14
                                  · rw [if_pos hk15] at h
                                    refine Rc.table (off := 633) (pc1 := 666) tb_258 rfl rfl (by decide) (tsw_at (k := 14) (by rw [hk15]; decide) (by decide +kernel)) (by decide) (by decide) ?_
                                    exact TJ_258_666_18 (X := X) (d := d + 1) (by omega) h hP hE
                                  · rw [if_neg hk15] at h
                                    by_cases hk16 : ((X.2 x3.toNatClampNeg) &&& 63) = 15
                                    · rw [if_pos hk16] at h
                                      refine Rc.table (off := 666) (pc1 := 699) tb_258 rfl rfl (by decide) (tsw_at (k := 15) (by rw [hk16]; decide) (by decide +kernel)) (by decide) (by decide) ?_
                                      exact TJ_258_699_18 (X := X) (d := d + 1) (by omega) h hP hE
                                    · rw [if_neg hk16] at h
                                      by_cases hk17 : ((X.2 x3.toNatClampNeg) &&& 63) = 16
                                      · rw [if_pos hk17] at h
                                        refine Rc.table (off := 689) (pc1 := 722) tb_258 rfl rfl (by decide) (tsw_at (k := 16) (by rw [hk17]; decide) (by decide +kernel)) (by decide) (by decide) ?_
                                        exact TJ_258_722_18 (X := X) (d := d + 1) (by omega) h hP hE
                                      · rw [if_neg hk17] at h
                                        by_cases hk18 : ((X.2 x3.toNatClampNeg) &&& 63) = 17
                                        · rw [if_pos hk18] at h
                                          refine Rc.table (off := 713) (pc1 := 746) tb_258 rfl rfl (by decide) (tsw_at (k := 17) (by rw [hk18]; decide) (by decide +kernel)) (by decide) (by decide) ?_
                                          exact TJ_258_746_18 (X := X) (d := d + 1) (by omega) h hP hE
                                        · rw [if_neg hk18] at h
                                          by_cases hk19 : ((X.2 x3.toNatClampNeg) &&& 63) = 18
                                          · rw [if_pos hk19] at h
                                            refine Rc.table (off := 746) (pc1 := 779) tb_258 rfl rfl (by decide) (tsw_at (k := 18) (by rw [hk19]; decide) (by decide +kernel)) (by decide) (by decide) ?_
                                            exact TJ_258_779_18 (X := X) (d := d + 1) (by omega) h hP hE
                                          · rw [if_neg hk19] at h
                                            by_cases hk20 : ((X.2 x3.toNatClampNeg) &&& 63) = 19
                                            · rw [if_pos hk20] at h
                                              refine Rc.table (off := 769) (pc1 := 802) tb_258 rfl rfl (by decide) (tsw_at (k := 19) (by rw [hk20]; decide) (by decide +kernel)) (by decide) (by decide) ?_
                                              exact TJ_258_802_18 (X := X) (d := d + 1) (by omega) h hP hE
                                            · rw [if_neg hk20] at h
                                              by_cases hk21 : ((X.2 x3.toNatClampNeg) &&& 63) = 20
                                              · rw [if_pos hk21] at h
                                                refine Rc.table (off := 792) (pc1 := 825) tb_258 rfl rfl (by decide) (tsw_at (k := 20) (by rw [hk21]; decide) (by decide +kernel)) (by decide) (by decide) ?_
                                                exact TJ_258_825_18 (X := X) (d := d + 1) (by omega) h hP hE
                                              · rw [if_neg hk21] at h
                                                by_cases hk22 : ((X.2 x3.toNatClampNeg) &&& 63) = 21
                                                · rw [if_pos hk22] at h
                                                  refine Rc.table (off := 825) (pc1 := 858) tb_258 rfl rfl (by decide) (tsw_at (k := 21) (by rw [hk22]; decide) (by decide +kernel)) (by decide) (by decide) ?_
                                                  exact TJ_258_858_18 (X := X) (d := d + 1) (by omega) h hP hE
                                                · rw [if_neg hk22] at h
                                                  by_cases hk23 : ((X.2 x3.toNatClampNeg) &&& 63) = 22
                                                  · rw [if_pos hk23] at h
                                                    refine Rc.table (off := 858) (pc1 := 891) tb_258 rfl rfl (by decide) (tsw_at (k := 22) (by rw [hk23]; decide) (by decide +kernel)) (by decide) (by decide) ?_
                                                    exact TJ_258_891_18 (X := X) (d := d + 1) (by omega) h hP hE
                                                  · rw [if_neg hk23] at h
                                                    by_cases hk24 : ((X.2 x3.toNatClampNeg) &&& 63) = 23
                                                    · rw [if_pos hk24] at h
                                                      refine Rc.table (off := 881) (pc1 := 914) tb_258 rfl rfl (by decide) (tsw_at (k := 23) (by rw [hk24]; decide) (by decide +kernel)) (by decide) (by decide) ?_
                                                      exact TJ_258_914_18 (X := X) (d := d + 1) (by omega) h hP hE
                                                    · rw [if_neg hk24] at h
                                                      by_cases hk25 : ((X.2 x3.toNatClampNeg) &&& 63) = 24
                                                      · rw [if_pos hk25] at h
                                                        refine Rc.table (off := 904) (pc1 := 937) tb_258 rfl rfl (by decide) (tsw_at (k := 24) (by rw [hk25]; decide) (by decide +kernel)) (by decide) (by decide) ?_
                                                        exact TJ_258_937_18 (X := X) (d := d + 1) (by omega) h hP hE
                                                      · rw [if_neg hk25] at h
                                                        by_cases hk26 : ((X.2 x3.toNatClampNeg) &&& 63) = 25
                                                        · rw [if_pos hk26] at h
                                                          refine Rc.table (off := 937) (pc1 := 970) tb_258 rfl rfl (by decide) (tsw_at (k := 25) (by rw [hk26]; decide) (by decide +kernel)) (by decide) (by decide) ?_
                                                          exact TJ_258_970_18 (X := X) (d := d + 1) (by omega) h hP hE
                                                        · rw [if_neg hk26] at h
                                                          by_cases hk27 : ((X.2 x3.toNatClampNeg) &&& 63) = 26
                                                          · rw [if_pos hk27] at h
                                                            refine Rc.table (off := 970) (pc1 := 1003) tb_258 rfl rfl (by decide) (tsw_at (k := 26) (by rw [hk27]; decide) (by decide +kernel)) (by decide) (by decide) ?_
                                                            exact TJ_258_1003_18 (X := X) (d := d + 1) (by omega) h hP hE
                                                          · rw [if_neg hk27] at h
                                                            by_cases hk28 : ((X.2 x3.toNatClampNeg) &&& 63) = 27
                                                            · rw [if_pos hk28] at h
                                                              refine Rc.table (off := 993) (pc1 := 1026) tb_258 rfl rfl (by decide) (tsw_at (k := 27) (by rw [hk28]; decide) (by decide +kernel)) (by decide) (by decide) ?_
                                                              exact TJ_258_1026_18 (X := X) (d := d + 1) (by omega) h hP hE
                                                            · rw [if_neg hk28] at h
                                                              by_cases hk29 : ((X.2 x3.toNatClampNeg) &&& 63) = 28
                                                              · rw [if_pos hk29] at h
                                                                refine Rc.table (off := 1026) (pc1 := 1059) tb_258 rfl rfl (by decide) (tsw_at (k := 28) (by rw [hk29]; decide) (by decide +kernel)) (by decide) (by decide) ?_
                                                                exact TJ_258_1059_18 (X := X) (d := d + 1) (by omega) h hP hE
                                                              · rw [if_neg hk29] at h
                                                                by_cases hk30 : ((X.2 x3.toNatClampNeg) &&& 63) = 29
                                                                · rw [if_pos hk30] at h
                                                                  refine Rc.table (off := 1069) (pc1 := 1102) tb_258 rfl rfl (by decide) (tsw_at (k := 29) (by rw [hk30]; decide) (by decide +kernel)) (by decide) (by decide) ?_
                                                                  exact TJ_258_1102_18 (X := X) (d := d + 1) (by omega) h hP hE
                                                                · rw [if_neg hk30] at h
                                                                  by_cases hk31 : ((X.2 x3.toNatClampNeg) &&& 63) = 30
                                                                  · rw [if_pos hk31] at h
                                                                    refine Rc.table (off := 1092) (pc1 := 1125) tb_258 rfl rfl (by decide) (tsw_at (k := 30) (by rw [hk31]; decide) (by decide +kernel)) (by decide) (by decide) ?_
                                                                    exact TJ_258_1125_18 (X := X) (d := d + 1) (by omega) h hP hE
                                                                  · rw [if_neg hk31] at h
                                                                    by_cases hk32 : ((X.2 x3.toNatClampNeg) &&& 63) = 31
                                                                    · rw [if_pos hk32] at h
                                                                      refine Rc.table (off := 1135) (pc1 := 1168) tb_258 rfl rfl (by decide) (tsw_at (k := 31) (by rw [hk32]; decide) (by decide +kernel)) (by decide) (by decide) ?_
                                                                      exact TJ_258_1168_18 (X := X) (d := d + 1) (by omega) h hP hE
                                                                    · rw [if_neg hk32] at h
                                                                      by_cases hk33 : ((X.2 x3.toNatClampNeg) &&& 63) = 32
                                                                      · rw [if_pos hk33] at h
                                                                        refine Rc.table (off := 1178) (pc1 := 1211) tb_258 rfl rfl (by decide) (tsw_at (k := 32) (by rw [hk33]; decide) (by decide +kernel)) (by decide) (by decide) ?_
                                                                        exact TJ_258_1211_18 (X := X) (d := d + 1) (by omega) h hP hE
                                                                      · rw [if_neg hk33] at h
                                                                        by_cases hk34 : ((X.2 x3.toNatClampNeg) &&& 63) = 33
                                                                        · rw [if_pos hk34] at h
                                                                          refine Rc.table (off := 1241) (pc1 := 1274) tb_258 rfl rfl (by decide) (tsw_at (k := 33) (by rw [hk34]; decide) (by decide +kernel)) (by decide) (by decide) ?_
                                                                          exact TJ_258_1274_18 (X := X) (d := d + 1) (by omega) h hP hE
                                                                        · rw [if_neg hk34] at h
                                                                          by_cases hk35 : ((X.2 x3.toNatClampNeg) &&& 63) = 34
                                                                          · rw [if_pos hk35] at h
                                                                            refine Rc.table (off := 1254) (pc1 := 1287) tb_258 rfl rfl (by decide) (tsw_at (k := 34) (by rw [hk35]; decide) (by decide +kernel)) (by decide) (by decide) ?_
                                                                            exact TJ_258_1287_18 (X := X) (d := d + 1) (by omega) h hP hE
                                                                          · rw [if_neg hk35] at h
                                                                            by_cases hk36 : ((X.2 x3.toNatClampNeg) &&& 63) = 35
                                                                            · rw [if_pos hk36] at h
                                                                              refine Rc.table (off := 1267) (pc1 := 1300) tb_258 rfl rfl (by decide) (tsw_at (k := 35) (by rw [hk36]; decide) (by decide +kernel)) (by decide) (by decide) ?_
                                                                              exact TJ_258_1300_18 (X := X) (d := d + 1) (by omega) h hP hE
                                                                            · rw [if_neg hk36] at h
                                                                              by_cases hk37 : ((X.2 x3.toNatClampNeg) &&& 63) = 36
                                                                              · rw [if_pos hk37] at h
                                                                                refine Rc.table (off := 1290) (pc1 := 1323) tb_258 rfl rfl (by decide) (tsw_at (k := 36) (by rw [hk37]; decide) (by decide +kernel)) (by decide) (by decide) ?_
                                                                                exact TJ_258_1323_18 (X := X) (d := d + 1) (by omega) h hP hE
                                                                              · rw [if_neg hk37] at h
                                                                                by_cases hk38 : ((X.2 x3.toNatClampNeg) &&& 63) = 37
                                                                                · rw [if_pos hk38] at h
                                                                                  refine Rc.table (off := 1313) (pc1 := 1346) tb_258 rfl rfl (by decide) (tsw_at (k := 37) (by rw [hk38]; decide) (by decide +kernel)) (by decide) (by decide) ?_
                                                                                  exact TJ_258_1346_18 (X := X) (d := d + 1) (by omega) h hP hE
                                                                                · rw [if_neg hk38] at h
                                                                                  by_cases hk39 : ((X.2 x3.toNatClampNeg) &&& 63) = 38
                                                                                  · rw [if_pos hk39] at h
                                                                                    refine Rc.table (off := 1336) (pc1 := 1369) tb_258 rfl rfl (by decide) (tsw_at (k := 38) (by rw [hk39]; decide) (by decide +kernel)) (by decide) (by decide) ?_
                                                                                    exact TJ_258_1369_18 (X := X) (d := d + 1) (by omega) h hP hE
                                                                                  · rw [if_neg hk39] at h
                                                                                    refine Rc.table (off := 1359) (pc1 := 1392) tb_258 rfl rfl (by decide) (tsw_df [0, 1, 2, 3, 4, 5, 6, 7, 8, 9, 10, 11, 12, 13, 14, 15, 16, 17, 18, 19, 20, 21, 22, 23, 24, 25, 26, 27, 28, 29, 30, 31, 32, 33, 34, 35, 36, 37, 38] (by decide +kernel) (fun k hk => by simp only [List.mem_cons, List.not_mem_nil, or_false] at hk; rcases hk with rfl | rfl | rfl | rfl | rfl | rfl | rfl | rfl | rfl | rfl | rfl | rfl | rfl | rfl | rfl | rfl | rfl | rfl | rfl | rfl | rfl | rfl | rfl | rfl | rfl | rfl | rfl | rfl | rfl | rfl | rfl | rfl | rfl | rfl | rfl | rfl | rfl | rfl | rfl <;> assumption)) (by decide) (by decide) ?_
                                                                                    refine Rc.mask (b := 15) ((tb_258.2 1392).trans rfl) (ls' := [some (.ref (999)), some (.ref (0)), some (.ref (77)), some (.int (x3))]) rfl ?_
                                                                                    exact TJ_258_1392_18 (X := X) (d := d + 1) (by omega) h hP hE
    · rw [if_neg hb289] at h
      cases h
theorem TL_258_18 {X : AX} {d : Nat} (hd : 456 ≤ d) {x3 : Int32} {M : IM} {v : Option Value} {M' : IM} {r : (Int32 × IM) ⊕ (Int32 × IM)} (h : L_258_18 X x3 M = some r) (hE : (fun r => match r with | .inl (x3, M) => Rc X d 258 1398 [none, none, none, none] [] M v M' | .inr q => v = some (.int q.1) ∧ M' = q.2) r) : Rc X d 258 18 [some (.ref (999)), some (.ref (0)), some (.ref (77)), some (.int (x3))] [] M v M' := by
  exact loopN_rc (P := fun (x3, M) => Rc X d 258 18 [some (.ref (999)), some (.ref (0)), some (.ref (77)), some (.int (x3))] [] M v M') (E := fun r => match r with | .inl (x3, M) => Rc X d 258 1398 [none, none, none, none] [] M v M' | .inr q => v = some (.int q.1) ∧ M' = q.2) (TB_258_18 (X := X) hd) FU _ r h hE
