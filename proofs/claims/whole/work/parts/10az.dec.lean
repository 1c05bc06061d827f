/-! printed by dec.py: what each method wants, and that the machine keeps it -/ 
def w_L_law (sc : Nat × (Nat → Int32)) (i0 : Int) (K : Int → XH → Prop) (h : XH) : Prop :=
  (∃ (I7 : Int → XH → Prop) (m7 : Int → XH → Nat), I7 i0 h ∧ ∀ (x1 : Int) (h6 : XH), HT h6 → HX h h6 → rg x1 → I7 x1 h6 → (((wr ((sc.1 : Int) - 6) < x1 → (K 1 h6)) ∧ (¬ (wr ((sc.1 : Int) - 6) < x1) → ((0 ≤ x1 ∧ x1 < (sc.1 : Int)) ∧ ∃ J14 : XH → Prop, (∀ (h13 : XH), HT h13 → HX h h13 → J14 h13 → (∀ x15 : Int, x15 = wr (x1 + 6) → rg x15 → (I7 x15 h13 ∧ m7 x15 h13 < m7 x1 h6))) ∧ ((iand ((sc.2 (x1).toNat).toInt) 63 < 0 ∨ 61 < iand ((sc.2 (x1).toNat).toInt) 63 → J14 h6) ∧ (iand ((sc.2 (x1).toNat).toInt) 63 = 0 → ((0 ≤ wr (x1 + 1) ∧ wr (x1 + 1) < (sc.1 : Int)) ∧ (0 ≤ wr (x1 + 2) ∧ wr (x1 + 2) < (sc.1 : Int)) ∧ (0 ≤ wr (x1 + 3) ∧ wr (x1 + 3) < (sc.1 : Int)) ∧ (0 ≤ wr (x1 + 4) ∧ wr (x1 + 4) < (sc.1 : Int)) ∧ (0 ≤ wr (x1 + 5) ∧ wr (x1 + 5) < (sc.1 : Int)) ∧ w_L_append ((sc.2 (wr (x1 + 1)).toNat).toInt) ((sc.2 (wr (x1 + 2)).toNat).toInt) ((sc.2 (wr (x1 + 3)).toNat).toInt) ((sc.2 (wr (x1 + 4)).toNat).toInt) ((sc.2 (wr (x1 + 5)).toNat).toInt) (fun x22 h23 => HT h23 → HX h6 h23 → rg x22 → (w_X14_append ((sc.2 (wr (x1 + 1)).toNat).toInt) ((sc.2 (wr (x1 + 2)).toNat).toInt) ((sc.2 (wr (x1 + 3)).toNat).toInt) ((sc.2 (wr (x1 + 4)).toNat).toInt) ((sc.2 (wr (x1 + 5)).toNat).toInt) (fun x24 h25 => HT h25 → HX h23 h25 → rg x24 → (w_X14_thrown (fun x26 => rg x26 → (((x26 = x22 → (∃ J27 : Prop, (J27 → (J14 h25)) ∧ ((¬ x22 = 0 → J27) ∧ (¬ (¬ x22 = 0) → (((hL h25 467 0 = i2l x24 → J27) ∧ (¬ (hL h25 467 0 = i2l x24) → (K 0 h25)))))))) ∧ (¬ (x26 = x22) → (K 0 h25))))) h25)) h23)) h6)) ∧ (iand ((sc.2 (x1).toNat).toInt) 63 = 1 → (w_X12_clearTape (fun x31 h32 => HT h32 → HX h6 h32 → rg x31 → (w_X14_clearTape (fun x33 h34 => HT h34 → HX h32 h34 → rg x33 → (((x31 = x33 → J14 h34) ∧ (¬ (x31 = x33) → (K 0 h34))))) h32)) h6)) ∧ (iand ((sc.2 (x1).toNat).toInt) 63 = 2 → (w_X12_errorPosition (fun x36 => rg x36 → (w_X14_errorPosition (fun x37 h38 => HT h38 → HX h6 h38 → rg x37 → (((x36 = x37 → J14 h38) ∧ (¬ (x36 = x37) → (K 0 h38))))) h6)) h6)) ∧ (iand ((sc.2 (x1).toNat).toInt) 63 = 3 → (w_L_pack (fun x40 h41 => HT h41 → HX h6 h41 → rg x40 → (w_X14_pack (fun x42 h43 => HT h43 → HX h41 h43 → rg x42 → (w_X14_thrown (fun x44 => rg x44 → (((x44 = x40 → (∃ J45 : Prop, (J45 → (J14 h43)) ∧ ((¬ x40 = 0 → J45) ∧ (¬ (¬ x40 = 0) → (((hL h43 467 0 = i2l x42 → J45) ∧ (¬ (hL h43 467 0 = i2l x42) → (K 0 h43)))))))) ∧ (¬ (x44 = x40) → (K 0 h43))))) h43)) h41)) h6)) ∧ (iand ((sc.2 (x1).toNat).toInt) 63 = 4 → ((0 ≤ wr (x1 + 1) ∧ wr (x1 + 1) < (sc.1 : Int)) ∧ (0 ≤ wr (x1 + 2) ∧ wr (x1 + 2) < (sc.1 : Int)) ∧ (0 ≤ wr (x1 + 3) ∧ wr (x1 + 3) < (sc.1 : Int)) ∧ (0 ≤ wr (x1 + 4) ∧ wr (x1 + 4) < (sc.1 : Int)) ∧ (0 ≤ wr (x1 + 5) ∧ wr (x1 + 5) < (sc.1 : Int)) ∧ w_L_version ((sc.2 (wr (x1 + 1)).toNat).toInt) ((sc.2 (wr (x1 + 2)).toNat).toInt) ((sc.2 (wr (x1 + 3)).toNat).toInt) ((sc.2 (wr (x1 + 4)).toNat).toInt) ((sc.2 (wr (x1 + 5)).toNat).toInt) (fun x54 h55 => HT h55 → HX h6 h55 → rg x54 → (w_X14_version ((sc.2 (wr (x1 + 1)).toNat).toInt) ((sc.2 (wr (x1 + 2)).toNat).toInt) ((sc.2 (wr (x1 + 3)).toNat).toInt) ((sc.2 (wr (x1 + 4)).toNat).toInt) ((sc.2 (wr (x1 + 5)).toNat).toInt) (fun x56 h57 => HT h57 → HX h55 h57 → rg x56 → (w_X14_thrown (fun x58 => rg x58 → (((x58 = x54 → (∃ J59 : Prop, (J59 → (J14 h57)) ∧ ((¬ x54 = 0 → J59) ∧ (¬ (¬ x54 = 0) → (((hL h57 467 0 = i2l x56 → J59) ∧ (¬ (hL h57 467 0 = i2l x56) → (K 0 h57)))))))) ∧ (¬ (x58 = x54) → (K 0 h57))))) h57)) h55)) h6)) ∧ (iand ((sc.2 (x1).toNat).toInt) 63 = 5 → ((0 ≤ wr (x1 + 1) ∧ wr (x1 + 1) < (sc.1 : Int)) ∧ (0 ≤ wr (x1 + 2) ∧ wr (x1 + 2) < (sc.1 : Int)) ∧ (0 ≤ wr (x1 + 3) ∧ wr (x1 + 3) < (sc.1 : Int)) ∧ ∃ J67 : Int → Prop, (∀ (x66 : Int), rg x66 → J67 x66 → (w_L_need ((sc.2 (wr (x1 + 1)).toNat).toInt) ((sc.2 (wr (x1 + 2)).toNat).toInt) x66 (fun x68 h69 => HT h69 → HX h6 h69 → rg x68 → (∃ J71 : Int → Prop, (∀ (x70 : Int), rg x70 → J71 x70 → (w_X14_need ((sc.2 (wr (x1 + 1)).toNat).toInt) ((sc.2 (wr (x1 + 2)).toNat).toInt) x70 (fun x72 h73 => HT h73 → HX h69 h73 → rg x72 → (w_X14_thrown (fun x74 => rg x74 → (((x74 = x68 → (∃ J75 : Prop, (J75 → (J14 h73)) ∧ ((¬ x68 = 0 → J75) ∧ (¬ (¬ x68 = 0) → (((hL h73 467 0 = i2l x72 → J75) ∧ (¬ (hL h73 467 0 = i2l x72) → (K 0 h73)))))))) ∧ (¬ (x74 = x68) → (K 0 h73))))) h73)) h69)) ∧ (((sc.2 (wr (x1 + 3)).toNat).toInt = 0 → (J71 0)) ∧ (¬ ((sc.2 (wr (x1 + 3)).toNat).toInt = 0) → (J71 1))))) h6)) ∧ (((sc.2 (wr (x1 + 3)).toNat).toInt = 0 → (J67 0)) ∧ (¬ ((sc.2 (wr (x1 + 3)).toNat).toInt = 0) → (J67 1))))) ∧ (iand ((sc.2 (x1).toNat).toInt) 63 = 6 → ((0 ≤ wr (x1 + 1) ∧ wr (x1 + 1) < (sc.1 : Int)) ∧ (0 ≤ wr (x1 + 2) ∧ wr (x1 + 2) < (sc.1 : Int)) ∧ w_L_ban ((sc.2 (wr (x1 + 1)).toNat).toInt) ((sc.2 (wr (x1 + 2)).toNat).toInt) (fun x83 h84 => HT h84 → HX h6 h84 → rg x83 → (w_X14_ban ((sc.2 (wr (x1 + 1)).toNat).toInt) ((sc.2 (wr (x1 + 2)).toNat).toInt) (fun x85 h86 => HT h86 → HX h84 h86 → rg x85 → (w_X14_thrown (fun x87 => rg x87 → (((x87 = x83 → (∃ J88 : Prop, (J88 → (J14 h86)) ∧ ((¬ x83 = 0 → J88) ∧ (¬ (¬ x83 = 0) → (((hL h86 467 0 = i2l x85 → J88) ∧ (¬ (hL h86 467 0 = i2l x85) → (K 0 h86)))))))) ∧ (¬ (x87 = x83) → (K 0 h86))))) h86)) h84)) h6)) ∧ (iand ((sc.2 (x1).toNat).toInt) 63 = 7 → ((0 ≤ wr (x1 + 1) ∧ wr (x1 + 1) < (sc.1 : Int)) ∧ (0 ≤ wr (x1 + 2) ∧ wr (x1 + 2) < (sc.1 : Int)) ∧ (0 ≤ wr (x1 + 3) ∧ wr (x1 + 3) < (sc.1 : Int)) ∧ (0 ≤ wr (x1 + 4) ∧ wr (x1 + 4) < (sc.1 : Int)) ∧ w_L_provide ((sc.2 (wr (x1 + 1)).toNat).toInt) ((sc.2 (wr (x1 + 2)).toNat).toInt) ((sc.2 (wr (x1 + 3)).toNat).toInt) ((sc.2 (wr (x1 + 4)).toNat).toInt) (fun x96 h97 => HT h97 → HX h6 h97 → rg x96 → (w_X14_provide ((sc.2 (wr (x1 + 1)).toNat).toInt) ((sc.2 (wr (x1 + 2)).toNat).toInt) ((sc.2 (wr (x1 + 3)).toNat).toInt) ((sc.2 (wr (x1 + 4)).toNat).toInt) (fun x98 h99 => HT h99 → HX h97 h99 → rg x98 → (w_X14_thrown (fun x100 => rg x100 → (((x100 = x96 → (∃ J101 : Prop, (J101 → (J14 h99)) ∧ ((¬ x96 = 0 → J101) ∧ (¬ (¬ x96 = 0) → (((hL h99 467 0 = i2l x98 → J101) ∧ (¬ (hL h99 467 0 = i2l x98) → (K 0 h99)))))))) ∧ (¬ (x100 = x96) → (K 0 h99))))) h99)) h97)) h6)) ∧ (iand ((sc.2 (x1).toNat).toInt) 63 = 8 → ((0 ≤ wr (x1 + 1) ∧ wr (x1 + 1) < (sc.1 : Int)) ∧ (0 ≤ wr (x1 + 2) ∧ wr (x1 + 2) < (sc.1 : Int)) ∧ w_L_option ((sc.2 (wr (x1 + 1)).toNat).toInt) ((sc.2 (wr (x1 + 2)).toNat).toInt) (fun x107 h108 => HT h108 → HX h6 h108 → rg x107 → (w_X14_option ((sc.2 (wr (x1 + 1)).toNat).toInt) ((sc.2 (wr (x1 + 2)).toNat).toInt) (fun x109 h110 => HT h110 → HX h108 h110 → rg x109 → (w_X14_thrown (fun x111 => rg x111 → (((x111 = x107 → (∃ J112 : Prop, (J112 → (J14 h110)) ∧ ((¬ x107 = 0 → J112) ∧ (¬ (¬ x107 = 0) → (((hL h110 467 0 = i2l x109 → J112) ∧ (¬ (hL h110 467 0 = i2l x109) → (K 0 h110)))))))) ∧ (¬ (x111 = x107) → (K 0 h110))))) h110)) h108)) h6)) ∧ (iand ((sc.2 (x1).toNat).toInt) 63 = 9 → ((0 ≤ wr (x1 + 1) ∧ wr (x1 + 1) < (sc.1 : Int)) ∧ w_L_count ((sc.2 (wr (x1 + 1)).toNat).toInt) (fun x117 h118 => HT h118 → HX h6 h118 → rg x117 → (w_X14_count ((sc.2 (wr (x1 + 1)).toNat).toInt) (fun x119 h120 => HT h120 → HX h118 h120 → rg x119 → (w_X14_thrown (fun x121 => rg x121 → (((x121 = x117 → (∃ J122 : Prop, (J122 → (J14 h120)) ∧ ((¬ x117 = 0 → J122) ∧ (¬ (¬ x117 = 0) → (((hL h120 467 0 = i2l x119 → J122) ∧ (¬ (hL h120 467 0 = i2l x119) → (K 0 h120)))))))) ∧ (¬ (x121 = x117) → (K 0 h120))))) h120)) h118)) h6)) ∧ (iand ((sc.2 (x1).toNat).toInt) 63 = 10 → ((0 ≤ wr (x1 + 1) ∧ wr (x1 + 1) < (sc.1 : Int)) ∧ w_L_versions ((sc.2 (wr (x1 + 1)).toNat).toInt) (fun x127 h128 => HT h128 → HX h6 h128 → rg x127 → (w_X14_versions ((sc.2 (wr (x1 + 1)).toNat).toInt) (fun x129 h130 => HT h130 → HX h128 h130 → rg x129 → (w_X14_thrown (fun x131 => rg x131 → (((x131 = x127 → (∃ J132 : Prop, (J132 → (J14 h130)) ∧ ((¬ x127 = 0 → J132) ∧ (¬ (¬ x127 = 0) → (((hL h130 467 0 = i2l x129 → J132) ∧ (¬ (hL h130 467 0 = i2l x129) → (K 0 h130)))))))) ∧ (¬ (x131 = x127) → (K 0 h130))))) h130)) h128)) h6)) ∧ (iand ((sc.2 (x1).toNat).toInt) 63 = 11 → ((0 ≤ wr (x1 + 1) ∧ wr (x1 + 1) < (sc.1 : Int)) ∧ (0 ≤ wr (x1 + 2) ∧ wr (x1 + 2) < (sc.1 : Int)) ∧ w_L_versionAt ((sc.2 (wr (x1 + 1)).toNat).toInt) ((sc.2 (wr (x1 + 2)).toNat).toInt) (fun x138 h139 => HT h139 → HX h6 h139 → rg x138 → (w_X14_versionAt ((sc.2 (wr (x1 + 1)).toNat).toInt) ((sc.2 (wr (x1 + 2)).toNat).toInt) (fun x140 h141 => HT h141 → HX h139 h141 → rg x140 → (w_X14_thrown (fun x142 => rg x142 → (((x142 = x138 → (∃ J143 : Prop, (J143 → (J14 h141)) ∧ ((¬ x138 = 0 → J143) ∧ (¬ (¬ x138 = 0) → (((hL h141 467 0 = i2l x140 → J143) ∧ (¬ (hL h141 467 0 = i2l x140) → (K 0 h141)))))))) ∧ (¬ (x142 = x138) → (K 0 h141))))) h141)) h139)) h6)) ∧ (iand ((sc.2 (x1).toNat).toInt) 63 = 12 → ((0 ≤ wr (x1 + 1) ∧ wr (x1 + 1) < (sc.1 : Int)) ∧ w_L_inRange ((sc.2 (wr (x1 + 1)).toNat).toInt) (fun x148 h149 => HT h149 → HX h6 h149 → rg x148 → (w_X14_inRange ((sc.2 (wr (x1 + 1)).toNat).toInt) (fun x150 h151 => HT h151 → HX h149 h151 → rg x150 → (w_X14_thrown (fun x152 => rg x152 → (((x152 = x148 → (∃ J153 : Prop, (J153 → (J14 h151)) ∧ ((¬ x148 = 0 → J153) ∧ (¬ (¬ x148 = 0) → (((hL h151 467 0 = i2l x150 → J153) ∧ (¬ (hL h151 467 0 = i2l x150) → (K 0 h151)))))))) ∧ (¬ (x152 = x148) → (K 0 h151))))) h151)) h149)) h6)) ∧ (iand ((sc.2 (x1).toNat).toInt) 63 = 13 → ((0 ≤ wr (x1 + 1) ∧ wr (x1 + 1) < (sc.1 : Int)) ∧ w_L_root ((sc.2 (wr (x1 + 1)).toNat).toInt) (fun x158 h159 => HT h159 → HX h6 h159 → rg x158 → (w_X14_root ((sc.2 (wr (x1 + 1)).toNat).toInt) (fun x160 h161 => HT h161 → HX h159 h161 → rg x160 → (w_X14_thrown (fun x162 => rg x162 → (((x162 = x158 → (∃ J163 : Prop, (J163 → (J14 h161)) ∧ ((¬ x158 = 0 → J163) ∧ (¬ (¬ x158 = 0) → (((hL h161 467 0 = i2l x160 → J163) ∧ (¬ (hL h161 467 0 = i2l x160) → (K 0 h161)))))))) ∧ (¬ (x162 = x158) → (K 0 h161))))) h161)) h159)) h6)) ∧ (iand ((sc.2 (x1).toNat).toInt) 63 = 14 → (w_L_wish (fun x167 h168 => HT h168 → HX h6 h168 → rg x167 → (w_X14_wish (fun x169 h170 => HT h170 → HX h168 h170 → rg x169 → (w_X14_thrown (fun x171 => rg x171 → (((x171 = x167 → (∃ J172 : Prop, (J172 → (J14 h170)) ∧ ((¬ x167 = 0 → J172) ∧ (¬ (¬ x167 = 0) → (((hL h170 467 0 = i2l x169 → J172) ∧ (¬ (hL h170 467 0 = i2l x169) → (K 0 h170)))))))) ∧ (¬ (x171 = x167) → (K 0 h170))))) h170)) h168)) h6)) ∧ (iand ((sc.2 (x1).toNat).toInt) 63 = 15 → ((0 ≤ wr (x1 + 1) ∧ wr (x1 + 1) < (sc.1 : Int)) ∧ w_L_unwish ((sc.2 (wr (x1 + 1)).toNat).toInt) (fun x177 h178 => HT h178 → HX h6 h178 → rg x177 → (w_X14_unwish ((sc.2 (wr (x1 + 1)).toNat).toInt) (fun x179 h180 => HT h180 → HX h178 h180 → rg x179 → (w_X14_thrown (fun x181 => rg x181 → (((x181 = x177 → (∃ J182 : Prop, (J182 → (J14 h180)) ∧ ((¬ x177 = 0 → J182) ∧ (¬ (¬ x177 = 0) → (((hL h180 467 0 = i2l x179 → J182) ∧ (¬ (hL h180 467 0 = i2l x179) → (K 0 h180)))))))) ∧ (¬ (x181 = x177) → (K 0 h180))))) h180)) h178)) h6)) ∧ (iand ((sc.2 (x1).toNat).toInt) 63 = 16 → ((0 ≤ wr (x1 + 1) ∧ wr (x1 + 1) < (sc.1 : Int)) ∧ (0 ≤ wr (x1 + 2) ∧ wr (x1 + 2) < (sc.1 : Int)) ∧ ∃ J189 : Int → Prop, (∀ (x188 : Int), rg x188 → J189 x188 → (w_L_hold ((sc.2 (wr (x1 + 1)).toNat).toInt) x188 (fun x190 h191 => HT h191 → HX h6 h191 → rg x190 → (∃ J193 : Int → Prop, (∀ (x192 : Int), rg x192 → J193 x192 → (w_X14_hold ((sc.2 (wr (x1 + 1)).toNat).toInt) x192 (fun x194 h195 => HT h195 → HX h191 h195 → rg x194 → (w_X14_thrown (fun x196 => rg x196 → (((x196 = x190 → (∃ J197 : Prop, (J197 → (J14 h195)) ∧ ((¬ x190 = 0 → J197) ∧ (¬ (¬ x190 = 0) → (((hL h195 467 0 = i2l x194 → J197) ∧ (¬ (hL h195 467 0 = i2l x194) → (K 0 h195)))))))) ∧ (¬ (x196 = x190) → (K 0 h195))))) h195)) h191)) ∧ (((sc.2 (wr (x1 + 2)).toNat).toInt = 0 → (J193 0)) ∧ (¬ ((sc.2 (wr (x1 + 2)).toNat).toInt = 0) → (J193 1))))) h6)) ∧ (((sc.2 (wr (x1 + 2)).toNat).toInt = 0 → (J189 0)) ∧ (¬ ((sc.2 (wr (x1 + 2)).toNat).toInt = 0) → (J189 1))))) ∧ (iand ((sc.2 (x1).toNat).toInt) 63 = 17 → ((0 ≤ wr (x1 + 1) ∧ wr (x1 + 1) < (sc.1 : Int)) ∧ w_L_pin ((sc.2 (wr (x1 + 1)).toNat).toInt) (fun x204 h205 => HT h205 → HX h6 h205 → rg x204 → (w_X14_pin ((sc.2 (wr (x1 + 1)).toNat).toInt) (fun x206 h207 => HT h207 → HX h205 h207 → rg x206 → (w_X14_thrown (fun x208 => rg x208 → (((x208 = x204 → (∃ J209 : Prop, (J209 → (J14 h207)) ∧ ((¬ x204 = 0 → J209) ∧ (¬ (¬ x204 = 0) → (((hL h207 467 0 = i2l x206 → J209) ∧ (¬ (hL h207 467 0 = i2l x206) → (K 0 h207)))))))) ∧ (¬ (x208 = x204) → (K 0 h207))))) h207)) h205)) h6)) ∧ (iand ((sc.2 (x1).toNat).toInt) 63 = 18 → ((0 ≤ wr (x1 + 1) ∧ wr (x1 + 1) < (sc.1 : Int)) ∧ w_L_quota ((sc.2 (wr (x1 + 1)).toNat).toInt) (fun x214 h215 => HT h215 → HX h6 h215 → rg x214 → (w_X14_quota ((sc.2 (wr (x1 + 1)).toNat).toInt) (fun x216 h217 => HT h217 → HX h215 h217 → rg x216 → (w_X14_thrown (fun x218 => rg x218 → (((x218 = x214 → (∃ J219 : Prop, (J219 → (J14 h217)) ∧ ((¬ x214 = 0 → J219) ∧ (¬ (¬ x214 = 0) → (((hL h217 467 0 = i2l x216 → J219) ∧ (¬ (hL h217 467 0 = i2l x216) → (K 0 h217)))))))) ∧ (¬ (x218 = x214) → (K 0 h217))))) h217)) h215)) h6)) ∧ (iand ((sc.2 (x1).toNat).toInt) 63 = 19 → ((0 ≤ wr (x1 + 1) ∧ wr (x1 + 1) < (sc.1 : Int)) ∧ ∃ J225 : Int → Prop, (∀ (x224 : Int), rg x224 → J225 x224 → (w_X12_solve x224 (fun x226 h227 => HT h227 → HX h6 h227 → rg x226 → (∃ J229 : Int → Prop, (∀ (x228 : Int), rg x228 → J229 x228 → (w_X14_solve x228 (fun x230 h231 => HT h231 → HX h227 h231 → rg x230 → (((x226 = x230 → J14 h231) ∧ (¬ (x226 = x230) → (K 0 h231))))) h227)) ∧ (((sc.2 (wr (x1 + 1)).toNat).toInt = 0 → (J229 0)) ∧ (¬ ((sc.2 (wr (x1 + 1)).toNat).toInt = 0) → (J229 1))))) h6)) ∧ (((sc.2 (wr (x1 + 1)).toNat).toInt = 0 → (J225 0)) ∧ (¬ ((sc.2 (wr (x1 + 1)).toNat).toInt = 0) → (J225 1))))) ∧ (iand ((sc.2 (x1).toNat).toInt) 63 = 20 → ((0 ≤ wr (x1 + 1) ∧ wr (x1 + 1) < (sc.1 : Int)) ∧ w_L_versionOf ((sc.2 (wr (x1 + 1)).toNat).toInt) (fun x236 h237 => HT h237 → HX h6 h237 → rg x236 → (w_X14_versionOf ((sc.2 (wr (x1 + 1)).toNat).toInt) (fun x238 h239 => HT h239 → HX h237 h239 → rg x238 → (w_X14_thrown (fun x240 => rg x240 → (((x240 = x236 → (∃ J241 : Prop, (J241 → (J14 h239)) ∧ ((¬ x236 = 0 → J241) ∧ (¬ (¬ x236 = 0) → (((hL h239 467 0 = i2l x238 → J241) ∧ (¬ (hL h239 467 0 = i2l x238) → (K 0 h239)))))))) ∧ (¬ (x240 = x236) → (K 0 h239))))) h239)) h237)) h6)) ∧ (iand ((sc.2 (x1).toNat).toInt) 63 = 21 → ((0 ≤ wr (x1 + 1) ∧ wr (x1 + 1) < (sc.1 : Int)) ∧ w_L_isOn ((sc.2 (wr (x1 + 1)).toNat).toInt) (fun x246 h247 => HT h247 → HX h6 h247 → rg x246 → (w_X14_isOn ((sc.2 (wr (x1 + 1)).toNat).toInt) (fun x248 h249 => HT h249 → HX h247 h249 → rg x248 → (x248 = 0 ∨ x248 = 1) → (w_X14_thrown (fun x250 => rg x250 → (((x250 = x246 → (∃ J251 : Prop, (J251 → (J14 h249)) ∧ ((¬ x246 = 0 → J251) ∧ (¬ (¬ x246 = 0) → (∃ J253 : BitVec 64 → Prop, (∀ (b252 : BitVec 64), J253 b252 → (((hL h249 467 0 = b252 → J251) ∧ (¬ (hL h249 467 0 = b252) → (K 0 h249))))) ∧ ((x248 = 0 → (J253 (0#64))) ∧ (¬ (x248 = 0) → (J253 (1#64))))))))) ∧ (¬ (x250 = x246) → (K 0 h249))))) h249)) h247)) h6)) ∧ (iand ((sc.2 (x1).toNat).toInt) 63 = 22 → (w_X12_changes (fun x258 => rg x258 → (w_X14_changes (fun x259 h260 => HT h260 → HX h6 h260 → rg x259 → (((x258 = x259 → J14 h260) ∧ (¬ (x258 = x259) → (K 0 h260))))) h6)) h6)) ∧ (iand ((sc.2 (x1).toNat).toInt) 63 = 23 → ((0 ≤ wr (x1 + 1) ∧ wr (x1 + 1) < (sc.1 : Int)) ∧ (0 ≤ wr (x1 + 2) ∧ wr (x1 + 2) < (sc.1 : Int)) ∧ w_L_must ((sc.2 (wr (x1 + 1)).toNat).toInt) ((sc.2 (wr (x1 + 2)).toNat).toInt) (fun x264 h265 => HT h265 → HX h6 h265 → rg x264 → (w_X14_must ((sc.2 (wr (x1 + 1)).toNat).toInt) ((sc.2 (wr (x1 + 2)).toNat).toInt) (fun x266 h267 => HT h267 → HX h265 h267 → rg x266 → (w_X14_thrown (fun x268 => rg x268 → (((x268 = x264 → (∃ J269 : Prop, (J269 → (J14 h267)) ∧ ((¬ x264 = 0 → J269) ∧ (¬ (¬ x264 = 0) → (((hL h267 467 0 = i2l x266 → J269) ∧ (¬ (hL h267 467 0 = i2l x266) → (K 0 h267)))))))) ∧ (¬ (x268 = x264) → (K 0 h267))))) h267)) h265)) h6)) ∧ (iand ((sc.2 (x1).toNat).toInt) 63 = 24 → (w_X12_fitting (fun x273 h274 => HT h274 → HX h6 h274 → rg x273 → (w_X14_fitting (fun x275 h276 => HT h276 → HX h274 h276 → rg x275 → (((x273 = x275 → J14 h276) ∧ (¬ (x273 = x275) → (K 0 h276))))) h274)) h6)) ∧ (iand ((sc.2 (x1).toNat).toInt) 63 = 25 → ((0 ≤ wr (x1 + 1) ∧ wr (x1 + 1) < (sc.1 : Int)) ∧ w_L_because ((sc.2 (wr (x1 + 1)).toNat).toInt) (fun x279 h280 => HT h280 → HX h6 h280 → rg x279 → (w_X14_because ((sc.2 (wr (x1 + 1)).toNat).toInt) (fun x281 h282 => HT h282 → HX h280 h282 → rg x281 → (w_X14_thrown (fun x283 => rg x283 → (((x283 = x279 → (∃ J284 : Prop, (J284 → (J14 h282)) ∧ ((¬ x279 = 0 → J284) ∧ (¬ (¬ x279 = 0) → (((hL h282 467 0 = i2l x281 → J284) ∧ (¬ (hL h282 467 0 = i2l x281) → (K 0 h282)))))))) ∧ (¬ (x283 = x279) → (K 0 h282))))) h282)) h280)) h6)) ∧ (iand ((sc.2 (x1).toNat).toInt) 63 = 26 → ((0 ≤ wr (x1 + 1) ∧ wr (x1 + 1) < (sc.1 : Int)) ∧ w_L_far ((sc.2 (wr (x1 + 1)).toNat).toInt) (fun x289 h290 => HT h290 → HX h6 h290 → rg x289 → (w_X14_far ((sc.2 (wr (x1 + 1)).toNat).toInt) (fun x291 h292 => HT h292 → HX h290 h292 → rg x291 → (w_X14_thrown (fun x293 => rg x293 → (((x293 = x289 → (∃ J294 : Prop, (J294 → (J14 h292)) ∧ ((¬ x289 = 0 → J294) ∧ (¬ (¬ x289 = 0) → (((hL h292 467 0 = i2l x291 → J294) ∧ (¬ (hL h292 467 0 = i2l x291) → (K 0 h292)))))))) ∧ (¬ (x293 = x289) → (K 0 h292))))) h292)) h290)) h6)) ∧ (iand ((sc.2 (x1).toNat).toInt) 63 = 27 → (w_X12_core (fun x298 h299 => HT h299 → HX h6 h299 → rg x298 → (w_X14_core (fun x300 h301 => HT h301 → HX h299 h301 → rg x300 → (((x298 = x300 → J14 h301) ∧ (¬ (x298 = x300) → (K 0 h301))))) h299)) h6)) ∧ (iand ((sc.2 (x1).toNat).toInt) 63 = 28 → ((0 ≤ wr (x1 + 1) ∧ wr (x1 + 1) < (sc.1 : Int)) ∧ (0 ≤ wr (x1 + 2) ∧ wr (x1 + 2) < (sc.1 : Int)) ∧ w_L_coreAt ((sc.2 (wr (x1 + 1)).toNat).toInt) ((sc.2 (wr (x1 + 2)).toNat).toInt) (fun x305 h306 => HT h306 → HX h6 h306 → rg x305 → (w_X14_coreAt ((sc.2 (wr (x1 + 1)).toNat).toInt) ((sc.2 (wr (x1 + 2)).toNat).toInt) (fun x307 h308 => HT h308 → HX h306 h308 → rg x307 → (w_X14_thrown (fun x309 => rg x309 → (((x309 = x305 → (∃ J310 : Prop, (J310 → (J14 h308)) ∧ ((¬ x305 = 0 → J310) ∧ (¬ (¬ x305 = 0) → (((hL h308 467 0 = i2l x307 → J310) ∧ (¬ (hL h308 467 0 = i2l x307) → (K 0 h308)))))))) ∧ (¬ (x309 = x305) → (K 0 h308))))) h308)) h306)) h6)) ∧ (iand ((sc.2 (x1).toNat).toInt) 63 = 29 → (w_X12_proof (fun x314 h315 => HT h315 → HX h6 h315 → rg x314 → (w_X14_proof (fun x316 h317 => HT h317 → HX h315 h317 → rg x316 → (((x314 = x316 → J14 h317) ∧ (¬ (x314 = x316) → (K 0 h317))))) h315)) h6)) ∧ (iand ((sc.2 (x1).toNat).toInt) 63 = 30 → ((0 ≤ wr (x1 + 1) ∧ wr (x1 + 1) < (sc.1 : Int)) ∧ (0 ≤ wr (x1 + 2) ∧ wr (x1 + 2) < (sc.1 : Int)) ∧ w_L_proofAt ((sc.2 (wr (x1 + 1)).toNat).toInt) ((sc.2 (wr (x1 + 2)).toNat).toInt) (fun x321 h322 => HT h322 → HX h6 h322 → rg x321 → (w_X14_proofAt ((sc.2 (wr (x1 + 1)).toNat).toInt) ((sc.2 (wr (x1 + 2)).toNat).toInt) (fun x323 h324 => HT h324 → HX h322 h324 → rg x323 → (w_X14_thrown (fun x325 => rg x325 → (((x325 = x321 → (∃ J326 : Prop, (J326 → (J14 h324)) ∧ ((¬ x321 = 0 → J326) ∧ (¬ (¬ x321 = 0) → (((hL h324 467 0 = i2l x323 → J326) ∧ (¬ (hL h324 467 0 = i2l x323) → (K 0 h324)))))))) ∧ (¬ (x325 = x321) → (K 0 h324))))) h324)) h322)) h6)) ∧ (iand ((sc.2 (x1).toNat).toInt) 63 = 31 → ((0 ≤ wr (x1 + 1) ∧ wr (x1 + 1) < (sc.1 : Int)) ∧ (0 ≤ wr (x1 + 2) ∧ wr (x1 + 2) < (sc.1 : Int)) ∧ w_L_literalAt ((sc.2 (wr (x1 + 1)).toNat).toInt) ((sc.2 (wr (x1 + 2)).toNat).toInt) (fun x332 h333 => HT h333 → HX h6 h333 → rg x332 → (w_X14_literalAt ((sc.2 (wr (x1 + 1)).toNat).toInt) ((sc.2 (wr (x1 + 2)).toNat).toInt) (fun x334 h335 => HT h335 → HX h333 h335 → rg x334 → (w_X14_thrown (fun x336 => rg x336 → (((x336 = x332 → (∃ J337 : Prop, (J337 → (J14 h335)) ∧ ((¬ x332 = 0 → J337) ∧ (¬ (¬ x332 = 0) → (((hL h335 467 0 = i2l x334 → J337) ∧ (¬ (hL h335 467 0 = i2l x334) → (K 0 h335)))))))) ∧ (¬ (x336 = x332) → (K 0 h335))))) h335)) h333)) h6)) ∧ (iand ((sc.2 (x1).toNat).toInt) 63 = 32 → ((0 ≤ wr (x1 + 1) ∧ wr (x1 + 1) < (sc.1 : Int)) ∧ w_L_lock ((sc.2 (wr (x1 + 1)).toNat).toInt) (fun x342 h343 => HT h343 → HX h6 h343 → rg x342 → (w_X14_lock ((sc.2 (wr (x1 + 1)).toNat).toInt) (fun x344 h345 => HT h345 → HX h343 h345 → rg x344 → (w_X14_thrown (fun x346 => rg x346 → (((x346 = x342 → (∃ J347 : Prop, (J347 → (J14 h345)) ∧ ((¬ x342 = 0 → J347) ∧ (¬ (¬ x342 = 0) → (((hL h345 467 0 = i2l x344 → J347) ∧ (¬ (hL h345 467 0 = i2l x344) → (K 0 h345)))))))) ∧ (¬ (x346 = x342) → (K 0 h345))))) h345)) h343)) h6)) ∧ (iand ((sc.2 (x1).toNat).toInt) 63 = 33 → ((0 ≤ wr (x1 + 1) ∧ wr (x1 + 1) < (sc.1 : Int)) ∧ (0 ≤ wr (x1 + 2) ∧ wr (x1 + 2) < (sc.1 : Int)) ∧ w_L_lockDiffers ((sc.2 (wr (x1 + 1)).toNat).toInt) ((sc.2 (wr (x1 + 2)).toNat).toInt) (fun x353 h354 => HT h354 → HX h6 h354 → rg x353 → (w_X14_lockDiffers ((sc.2 (wr (x1 + 1)).toNat).toInt) ((sc.2 (wr (x1 + 2)).toNat).toInt) (fun x355 h356 => HT h356 → HX h354 h356 → rg x355 → (w_X14_thrown (fun x357 => rg x357 → (((x357 = x353 → (∃ J358 : Prop, (J358 → (J14 h356)) ∧ ((¬ x353 = 0 → J358) ∧ (¬ (¬ x353 = 0) → (((hL h356 467 0 = i2l x355 → J358) ∧ (¬ (hL h356 467 0 = i2l x355) → (K 0 h356)))))))) ∧ (¬ (x357 = x353) → (K 0 h356))))) h356)) h354)) h6)) ∧ (iand ((sc.2 (x1).toNat).toInt) 63 = 34 → ((0 ≤ wr (x1 + 1) ∧ wr (x1 + 1) < (sc.1 : Int)) ∧ (0 ≤ wr (x1 + 2) ∧ wr (x1 + 2) < (sc.1 : Int)) ∧ w_L_mergeLocks ((sc.2 (wr (x1 + 1)).toNat).toInt) ((sc.2 (wr (x1 + 2)).toNat).toInt) (fun x364 h365 => HT h365 → HX h6 h365 → rg x364 → (w_X14_mergeLocks ((sc.2 (wr (x1 + 1)).toNat).toInt) ((sc.2 (wr (x1 + 2)).toNat).toInt) (fun x366 h367 => HT h367 → HX h365 h367 → rg x366 → (w_X14_thrown (fun x368 => rg x368 → (((x368 = x364 → (∃ J369 : Prop, (J369 → (J14 h367)) ∧ ((¬ x364 = 0 → J369) ∧ (¬ (¬ x364 = 0) → (((hL h367 467 0 = i2l x366 → J369) ∧ (¬ (hL h367 467 0 = i2l x366) → (K 0 h367)))))))) ∧ (¬ (x368 = x364) → (K 0 h367))))) h367)) h365)) h6)) ∧ (iand ((sc.2 (x1).toNat).toInt) 63 = 35 → ((0 ≤ wr (x1 + 1) ∧ wr (x1 + 1) < (sc.1 : Int)) ∧ w_L_takeLock ((sc.2 (wr (x1 + 1)).toNat).toInt) (fun x374 h375 => HT h375 → HX h6 h375 → rg x374 → (w_X14_takeLock ((sc.2 (wr (x1 + 1)).toNat).toInt) (fun x376 h377 => HT h377 → HX h375 h377 → rg x376 → (w_X14_thrown (fun x378 => rg x378 → (((x378 = x374 → (∃ J379 : Prop, (J379 → (J14 h377)) ∧ ((¬ x374 = 0 → J379) ∧ (¬ (¬ x374 = 0) → (((hL h377 467 0 = i2l x376 → J379) ∧ (¬ (hL h377 467 0 = i2l x376) → (K 0 h377)))))))) ∧ (¬ (x378 = x374) → (K 0 h377))))) h377)) h375)) h6)) ∧ (iand ((sc.2 (x1).toNat).toInt) 63 = 36 → (w_L_mirror (fun x383 h384 => HT h384 → HX h6 h384 → rg x383 → (w_X14_mirror (fun x385 h386 => HT h386 → HX h384 h386 → rg x385 → (w_X14_thrown (fun x387 => rg x387 → (((x387 = x383 → (∃ J388 : Prop, (J388 → (J14 h386)) ∧ ((¬ x383 = 0 → J388) ∧ (¬ (¬ x383 = 0) → (((hL h386 467 0 = i2l x385 → J388) ∧ (¬ (hL h386 467 0 = i2l x385) → (K 0 h386)))))))) ∧ (¬ (x387 = x383) → (K 0 h386))))) h386)) h384)) h6)) ∧ (iand ((sc.2 (x1).toNat).toInt) 63 = 37 → ((0 ≤ wr (x1 + 1) ∧ wr (x1 + 1) < (sc.1 : Int)) ∧ (0 ≤ wr (x1 + 2) ∧ wr (x1 + 2) < (sc.1 : Int)) ∧ (0 ≤ wr (x1 + 3) ∧ wr (x1 + 3) < (sc.1 : Int)) ∧ (0 ≤ wr (x1 + 4) ∧ wr (x1 + 4) < (sc.1 : Int)) ∧ w_L_offer ((sc.2 (wr (x1 + 1)).toNat).toInt) ((sc.2 (wr (x1 + 2)).toNat).toInt) ((sc.2 (wr (x1 + 3)).toNat).toInt) ((sc.2 (wr (x1 + 4)).toNat).toInt) (fun x396 h397 => HT h397 → HX h6 h397 → rg x396 → (w_X14_offer ((sc.2 (wr (x1 + 1)).toNat).toInt) ((sc.2 (wr (x1 + 2)).toNat).toInt) ((sc.2 (wr (x1 + 3)).toNat).toInt) ((sc.2 (wr (x1 + 4)).toNat).toInt) (fun x398 h399 => HT h399 → HX h397 h399 → rg x398 → (w_X14_thrown (fun x400 => rg x400 → (((x400 = x396 → (∃ J401 : Prop, (J401 → (J14 h399)) ∧ ((¬ x396 = 0 → J401) ∧ (¬ (¬ x396 = 0) → (((hL h399 467 0 = i2l x398 → J401) ∧ (¬ (hL h399 467 0 = i2l x398) → (K 0 h399)))))))) ∧ (¬ (x400 = x396) → (K 0 h399))))) h399)) h397)) h6)) ∧ (iand ((sc.2 (x1).toNat).toInt) 63 = 38 → ((0 ≤ wr (x1 + 1) ∧ wr (x1 + 1) < (sc.1 : Int)) ∧ w_L_sumWrong ((sc.2 (wr (x1 + 1)).toNat).toInt) (fun x406 h407 => HT h407 → HX h6 h407 → rg x406 → (w_X14_sumWrong ((sc.2 (wr (x1 + 1)).toNat).toInt) (fun x408 h409 => HT h409 → HX h407 h409 → rg x408 → (w_X14_thrown (fun x410 => rg x410 → (((x410 = x406 → (∃ J411 : Prop, (J411 → (J14 h409)) ∧ ((¬ x406 = 0 → J411) ∧ (¬ (¬ x406 = 0) → (((hL h409 467 0 = i2l x408 → J411) ∧ (¬ (hL h409 467 0 = i2l x408) → (K 0 h409)))))))) ∧ (¬ (x410 = x406) → (K 0 h409))))) h409)) h407)) h6)) ∧ (iand ((sc.2 (x1).toNat).toInt) 63 = 39 → (w_X12_fetches (fun x415 h416 => HT h416 → HX h6 h416 → rg x415 → (w_X14_fetches (fun x417 h418 => HT h418 → HX h416 h418 → rg x417 → (((x415 = x417 → J14 h418) ∧ (¬ (x415 = x417) → (K 0 h418))))) h416)) h6)) ∧ (iand ((sc.2 (x1).toNat).toInt) 63 = 40 → ((0 ≤ wr (x1 + 1) ∧ wr (x1 + 1) < (sc.1 : Int)) ∧ (0 ≤ wr (x1 + 2) ∧ wr (x1 + 2) < (sc.1 : Int)) ∧ ∃ J423 : Int → Prop, (∀ (x422 : Int), rg x422 → J423 x422 → (w_L_fetchAt ((sc.2 (wr (x1 + 1)).toNat).toInt) x422 (fun x424 h425 => HT h425 → HX h6 h425 → rg x424 → (∃ J427 : Int → Prop, (∀ (x426 : Int), rg x426 → J427 x426 → (w_X14_fetchAt ((sc.2 (wr (x1 + 1)).toNat).toInt) x426 (fun x428 h429 => HT h429 → HX h425 h429 → rg x428 → (w_X14_thrown (fun x430 => rg x430 → (((x430 = x424 → (∃ J431 : Prop, (J431 → (J14 h429)) ∧ ((¬ x424 = 0 → J431) ∧ (¬ (¬ x424 = 0) → (((hL h429 467 0 = i2l x428 → J431) ∧ (¬ (hL h429 467 0 = i2l x428) → (K 0 h429)))))))) ∧ (¬ (x430 = x424) → (K 0 h429))))) h429)) h425)) ∧ (((sc.2 (wr (x1 + 2)).toNat).toInt = 0 → (J427 0)) ∧ (¬ ((sc.2 (wr (x1 + 2)).toNat).toInt = 0) → (J427 1))))) h6)) ∧ (((sc.2 (wr (x1 + 2)).toNat).toInt = 0 → (J423 0)) ∧ (¬ ((sc.2 (wr (x1 + 2)).toNat).toInt = 0) → (J423 1))))) ∧ (iand ((sc.2 (x1).toNat).toInt) 63 = 41 → (w_L_plan (fun x437 h438 => HT h438 → HX h6 h438 → rg x437 → (w_X14_plan (fun x439 h440 => HT h440 → HX h438 h440 → rg x439 → (w_X14_thrown (fun x441 => rg x441 → (((x441 = x437 → (∃ J442 : Prop, (J442 → (J14 h440)) ∧ ((¬ x437 = 0 → J442) ∧ (¬ (¬ x437 = 0) → (((hL h440 467 0 = i2l x439 → J442) ∧ (¬ (hL h440 467 0 = i2l x439) → (K 0 h440)))))))) ∧ (¬ (x441 = x437) → (K 0 h440))))) h440)) h438)) h6)) ∧ (iand ((sc.2 (x1).toNat).toInt) 63 = 42 → ((0 ≤ wr (x1 + 1) ∧ wr (x1 + 1) < (sc.1 : Int)) ∧ w_L_planAt ((sc.2 (wr (x1 + 1)).toNat).toInt) (fun x447 h448 => HT h448 → HX h6 h448 → rg x447 → (w_X14_planAt ((sc.2 (wr (x1 + 1)).toNat).toInt) (fun x449 h450 => HT h450 → HX h448 h450 → rg x449 → (w_X14_thrown (fun x451 => rg x451 → (((x451 = x447 → (∃ J452 : Prop, (J452 → (J14 h450)) ∧ ((¬ x447 = 0 → J452) ∧ (¬ (¬ x447 = 0) → (((hL h450 467 0 = i2l x449 → J452) ∧ (¬ (hL h450 467 0 = i2l x449) → (K 0 h450)))))))) ∧ (¬ (x451 = x447) → (K 0 h450))))) h450)) h448)) h6)) ∧ (iand ((sc.2 (x1).toNat).toInt) 63 = 43 → (w_L_install (fun x456 h457 => HT h457 → HX h6 h457 → rg x456 → (w_X14_install (fun x458 h459 => HT h459 → HX h457 h459 → rg x458 → (w_X14_thrown (fun x460 => rg x460 → (((x460 = x456 → (∃ J461 : Prop, (J461 → (J14 h459)) ∧ ((¬ x456 = 0 → J461) ∧ (¬ (¬ x456 = 0) → (((hL h459 467 0 = i2l x458 → J461) ∧ (¬ (hL h459 467 0 = i2l x458) → (K 0 h459)))))))) ∧ (¬ (x460 = x456) → (K 0 h459))))) h459)) h457)) h6)) ∧ (iand ((sc.2 (x1).toNat).toInt) 63 = 44 → ((0 ≤ wr (x1 + 1) ∧ wr (x1 + 1) < (sc.1 : Int)) ∧ w_L_failure ((sc.2 (wr (x1 + 1)).toNat).toInt) (fun x466 h467 => HT h467 → HX h6 h467 → rg x466 → (w_X14_failure ((sc.2 (wr (x1 + 1)).toNat).toInt) (fun x468 h469 => HT h469 → HX h467 h469 → rg x468 → (w_X14_thrown (fun x470 => rg x470 → (((x470 = x466 → (∃ J471 : Prop, (J471 → (J14 h469)) ∧ ((¬ x466 = 0 → J471) ∧ (¬ (¬ x466 = 0) → (((hL h469 467 0 = i2l x468 → J471) ∧ (¬ (hL h469 467 0 = i2l x468) → (K 0 h469)))))))) ∧ (¬ (x470 = x466) → (K 0 h469))))) h469)) h467)) h6)) ∧ (iand ((sc.2 (x1).toNat).toInt) 63 = 45 → ((0 ≤ wr (x1 + 1) ∧ wr (x1 + 1) < (sc.1 : Int)) ∧ w_L_installed ((sc.2 (wr (x1 + 1)).toNat).toInt) (fun x476 h477 => HT h477 → HX h6 h477 → rg x476 → (w_X14_installed ((sc.2 (wr (x1 + 1)).toNat).toInt) (fun x478 h479 => HT h479 → HX h477 h479 → rg x478 → (w_X14_thrown (fun x480 => rg x480 → (((x480 = x476 → (∃ J481 : Prop, (J481 → (J14 h479)) ∧ ((¬ x476 = 0 → J481) ∧ (¬ (¬ x476 = 0) → (((hL h479 467 0 = i2l x478 → J481) ∧ (¬ (hL h479 467 0 = i2l x478) → (K 0 h479)))))))) ∧ (¬ (x480 = x476) → (K 0 h479))))) h479)) h477)) h6)) ∧ (iand ((sc.2 (x1).toNat).toInt) 63 = 46 → ((0 ≤ wr (x1 + 1) ∧ wr (x1 + 1) < (sc.1 : Int)) ∧ w_L_owner ((sc.2 (wr (x1 + 1)).toNat).toInt) (fun x486 h487 => HT h487 → HX h6 h487 → rg x486 → (w_X14_owner ((sc.2 (wr (x1 + 1)).toNat).toInt) (fun x488 h489 => HT h489 → HX h487 h489 → rg x488 → (w_X14_thrown (fun x490 => rg x490 → (((x490 = x486 → (∃ J491 : Prop, (J491 → (J14 h489)) ∧ ((¬ x486 = 0 → J491) ∧ (¬ (¬ x486 = 0) → (((hL h489 467 0 = i2l x488 → J491) ∧ (¬ (hL h489 467 0 = i2l x488) → (K 0 h489)))))))) ∧ (¬ (x490 = x486) → (K 0 h489))))) h489)) h487)) h6)) ∧ (iand ((sc.2 (x1).toNat).toInt) 63 = 47 → (w_X12_clashes (fun x495 => rg x495 → (w_X14_clashes (fun x496 h497 => HT h497 → HX h6 h497 → rg x496 → (((x495 = x496 → J14 h497) ∧ (¬ (x495 = x496) → (K 0 h497))))) h6)) h6)) ∧ (iand ((sc.2 (x1).toNat).toInt) 63 = 48 → ((0 ≤ wr (x1 + 1) ∧ wr (x1 + 1) < (sc.1 : Int)) ∧ (0 ≤ wr (x1 + 2) ∧ wr (x1 + 2) < (sc.1 : Int)) ∧ (0 ≤ wr (x1 + 3) ∧ wr (x1 + 3) < (sc.1 : Int)) ∧ ∃ J503 : Int → Prop, (∀ (x502 : Int), rg x502 → J503 x502 → (w_L_fails ((sc.2 (wr (x1 + 1)).toNat).toInt) ((sc.2 (wr (x1 + 2)).toNat).toInt) x502 (fun x504 h505 => HT h505 → HX h6 h505 → rg x504 → (∃ J507 : Int → Prop, (∀ (x506 : Int), rg x506 → J507 x506 → (w_X14_fails ((sc.2 (wr (x1 + 1)).toNat).toInt) ((sc.2 (wr (x1 + 2)).toNat).toInt) x506 (fun x508 h509 => HT h509 → HX h505 h509 → rg x508 → (x508 = 0 ∨ x508 = 1) → (w_X14_thrown (fun x510 => rg x510 → (((x510 = x504 → (∃ J511 : Prop, (J511 → (J14 h509)) ∧ ((¬ x504 = 0 → J511) ∧ (¬ (¬ x504 = 0) → (∃ J513 : BitVec 64 → Prop, (∀ (b512 : BitVec 64), J513 b512 → (((hL h509 467 0 = b512 → J511) ∧ (¬ (hL h509 467 0 = b512) → (K 0 h509))))) ∧ ((x508 = 0 → (J513 (0#64))) ∧ (¬ (x508 = 0) → (J513 (1#64))))))))) ∧ (¬ (x510 = x504) → (K 0 h509))))) h509)) h505)) ∧ (((sc.2 (wr (x1 + 3)).toNat).toInt = 0 → (J507 0)) ∧ (¬ ((sc.2 (wr (x1 + 3)).toNat).toInt = 0) → (J507 1))))) h6)) ∧ (((sc.2 (wr (x1 + 3)).toNat).toInt = 0 → (J503 0)) ∧ (¬ ((sc.2 (wr (x1 + 3)).toNat).toInt = 0) → (J503 1))))) ∧ (iand ((sc.2 (x1).toNat).toInt) 63 = 49 → (w_X12_scripts (fun x520 h521 => HT h521 → HX h6 h521 → rg x520 → (w_X14_scripts (fun x522 h523 => HT h523 → HX h521 h523 → rg x522 → (((x520 = x522 → J14 h523) ∧ (¬ (x520 = x522) → (K 0 h523))))) h521)) h6)) ∧ (iand ((sc.2 (x1).toNat).toInt) 63 = 50 → ((0 ≤ wr (x1 + 1) ∧ wr (x1 + 1) < (sc.1 : Int)) ∧ w_L_scriptAt ((sc.2 (wr (x1 + 1)).toNat).toInt) (fun x526 h527 => HT h527 → HX h6 h527 → rg x526 → (w_X14_scriptAt ((sc.2 (wr (x1 + 1)).toNat).toInt) (fun x528 h529 => HT h529 → HX h527 h529 → rg x528 → (w_X14_thrown (fun x530 => rg x530 → (((x530 = x526 → (∃ J531 : Prop, (J531 → (J14 h529)) ∧ ((¬ x526 = 0 → J531) ∧ (¬ (¬ x526 = 0) → (((hL h529 467 0 = i2l x528 → J531) ∧ (¬ (hL h529 467 0 = i2l x528) → (K 0 h529)))))))) ∧ (¬ (x530 = x526) → (K 0 h529))))) h529)) h527)) h6)) ∧ (iand ((sc.2 (x1).toNat).toInt) 63 = 51 → (w_X12_orphans (fun x535 h536 => HT h536 → HX h6 h536 → rg x535 → (w_X14_orphans (fun x537 h538 => HT h538 → HX h536 h538 → rg x537 → (((x535 = x537 → J14 h538) ∧ (¬ (x535 = x537) → (K 0 h538))))) h536)) h6)) ∧ (iand ((sc.2 (x1).toNat).toInt) 63 = 52 → ((0 ≤ wr (x1 + 1) ∧ wr (x1 + 1) < (sc.1 : Int)) ∧ w_L_without ((sc.2 (wr (x1 + 1)).toNat).toInt) (fun x541 h542 => HT h542 → HX h6 h542 → rg x541 → (w_X14_without ((sc.2 (wr (x1 + 1)).toNat).toInt) (fun x543 h544 => HT h544 → HX h542 h544 → rg x543 → (w_X14_thrown (fun x545 => rg x545 → (((x545 = x541 → (∃ J546 : Prop, (J546 → (J14 h544)) ∧ ((¬ x541 = 0 → J546) ∧ (¬ (¬ x541 = 0) → (((hL h544 467 0 = i2l x543 → J546) ∧ (¬ (hL h544 467 0 = i2l x543) → (K 0 h544)))))))) ∧ (¬ (x545 = x541) → (K 0 h544))))) h544)) h542)) h6)) ∧ (iand ((sc.2 (x1).toNat).toInt) 63 = 53 → ((0 ≤ wr (x1 + 1) ∧ wr (x1 + 1) < (sc.1 : Int)) ∧ w_L_backTo ((sc.2 (wr (x1 + 1)).toNat).toInt) (fun x551 h552 => HT h552 → HX h6 h552 → rg x551 → (w_X14_backTo ((sc.2 (wr (x1 + 1)).toNat).toInt) (fun x553 h554 => HT h554 → HX h552 h554 → rg x553 → (w_X14_thrown (fun x555 => rg x555 → (((x555 = x551 → (∃ J556 : Prop, (J556 → (J14 h554)) ∧ ((¬ x551 = 0 → J556) ∧ (¬ (¬ x551 = 0) → (((hL h554 467 0 = i2l x553 → J556) ∧ (¬ (hL h554 467 0 = i2l x553) → (K 0 h554)))))))) ∧ (¬ (x555 = x551) → (K 0 h554))))) h554)) h552)) h6)) ∧ (iand ((sc.2 (x1).toNat).toInt) 63 = 54 → ((0 ≤ wr (x1 + 1) ∧ wr (x1 + 1) < (sc.1 : Int)) ∧ (0 ≤ wr (x1 + 2) ∧ wr (x1 + 2) < (sc.1 : Int)) ∧ w_L_then ((sc.2 (wr (x1 + 1)).toNat).toInt) ((sc.2 (wr (x1 + 2)).toNat).toInt) (fun x562 h563 => HT h563 → HX h6 h563 → rg x562 → (w_X14_then ((sc.2 (wr (x1 + 1)).toNat).toInt) ((sc.2 (wr (x1 + 2)).toNat).toInt) (fun x564 h565 => HT h565 → HX h563 h565 → rg x564 → (w_X14_thrown (fun x566 => rg x566 → (((x566 = x562 → (∃ J567 : Prop, (J567 → (J14 h565)) ∧ ((¬ x562 = 0 → J567) ∧ (¬ (¬ x562 = 0) → (((hL h565 467 0 = i2l x564 → J567) ∧ (¬ (hL h565 467 0 = i2l x564) → (K 0 h565)))))))) ∧ (¬ (x566 = x562) → (K 0 h565))))) h565)) h563)) h6)) ∧ (iand ((sc.2 (x1).toNat).toInt) 63 = 55 → (w_X12_size (fun x571 => rg x571 → (w_X14_size (fun x572 h573 => HT h573 → HX h6 h573 → rg x572 → (((x571 = x572 → J14 h573) ∧ (¬ (x571 = x572) → (K 0 h573))))) h6)) h6)) ∧ (iand ((sc.2 (x1).toNat).toInt) 63 = 56 → (w_X12_undo (fun x575 h576 => HT h576 → HX h6 h576 → rg x575 → (w_X14_undo (fun x577 h578 => HT h578 → HX h576 h578 → rg x577 → (((x575 = x577 → J14 h578) ∧ (¬ (x575 = x577) → (K 0 h578))))) h576)) h6)) ∧ (iand ((sc.2 (x1).toNat).toInt) 63 = 57 → (w_X12_checksum (fun x580 => rg x580 → (w_X14_checksum (fun x581 h582 => HT h582 → HX h6 h582 → rg x581 → (((x580 = x581 → J14 h582) ∧ (¬ (x580 = x581) → (K 0 h582))))) h6)) h6)) ∧ (iand ((sc.2 (x1).toNat).toInt) 63 = 58 → (w_X12_isSound (fun x584 h585 => HT h585 → HX h6 h585 → rg x584 → (x584 = 0 ∨ x584 = 1) → (w_X14_isSound (fun x586 h587 => HT h587 → HX h585 h587 → rg x586 → (x586 = 0 ∨ x586 = 1) → (((x584 = x586 → J14 h587) ∧ (¬ (x584 = x586) → (K 0 h587))))) h585)) h6)) ∧ (iand ((sc.2 (x1).toNat).toInt) 63 = 59 → (w_X12_errors (fun x589 h590 => HT h590 → HX h6 h590 → rg x589 → (w_X14_errors (fun x591 h592 => HT h592 → HX h590 h592 → rg x591 → (((x589 = x591 → J14 h592) ∧ (¬ (x589 = x591) → (K 0 h592))))) h590)) h6)) ∧ (iand ((sc.2 (x1).toNat).toInt) 63 = 60 → (w_X12_meanSize (fun f594 => (w_X14_meanSize (fun f595 h596 => HT h596 → HX h6 h596 → (∃ J597 : Prop, (J597 → (J14 h596)) ∧ (((Op.cmpValue (FP.dcmp f594 f595) .l).toInt = 0 → J597) ∧ (¬ ((Op.cmpValue (FP.dcmp f594 f595) .l).toInt = 0) → (∃ J598 : Prop, (J598 → (K 0 h596)) ∧ (((Op.cmpValue (FP.dcmp f594 f594) .l).toInt = 0 → J598) ∧ (¬ ((Op.cmpValue (FP.dcmp f594 f594) .l).toInt = 0) → (((¬ (Op.cmpValue (FP.dcmp f595 f595) .l).toInt = 0 → J597) ∧ (¬ (¬ (Op.cmpValue (FP.dcmp f595 f595) .l).toInt = 0) → J598)))))))))) h6)) h6)) ∧ (iand ((sc.2 (x1).toNat).toInt) 63 = 61 → (w_X12_share (fun f602 => (xn64 (FP.f2d f602) = true ∧ w_X14_share (fun f604 h605 => HT h605 → HX h6 h605 → (xn64 (FP.f2d f604) = true ∧ ∃ J607 : Prop, (J607 → (J14 h605)) ∧ (((Op.cmpValue (FP.dcmp (FP.f2d f602) (FP.f2d f604)) .l).toInt = 0 → J607) ∧ (¬ ((Op.cmpValue (FP.dcmp (FP.f2d f602) (FP.f2d f604)) .l).toInt = 0) → (∃ J608 : Prop, (J608 → (K 0 h605)) ∧ (((Op.cmpValue (FP.dcmp (FP.f2d f602) (FP.f2d f602)) .l).toInt = 0 → J608) ∧ (¬ ((Op.cmpValue (FP.dcmp (FP.f2d f602) (FP.f2d f602)) .l).toInt = 0) → (((¬ (Op.cmpValue (FP.dcmp (FP.f2d f604) (FP.f2d f604)) .l).toInt = 0 → J607) ∧ (¬ (¬ (Op.cmpValue (FP.dcmp (FP.f2d f604) (FP.f2d f604)) .l).toInt = 0) → J608)))))))))) h6)) h6))))))))
set_option maxHeartbeats 40000000 in
theorem a_L_law {sc : Nat × (Nat → Int32)} {goal : XO → XH → Prop} {fs : List XF} {h : XH} (i0 : Int) {K : Int → XH → Prop} (hsc : rg (sc.1 : Int)) (hd : fs.length + 81 ≤ 1000) (ri0 : rg i0) (w : w_L_law sc i0 K h) (t0 : HT h) (k : ∀ (r : Int) (h1 : XH), HT h1 → HX h h1 → rg r → (r = 0 ∨ r = 1) → K r h1 → XFin xP sc goal fs (.inl (some (.int (J r)))) h1) : RR sc goal fs 0 23 [some (.ref 0), some (rv 2), some (rv 437), some (rv 467), some (.int (J i0)), none, none, none, none] [] h := by
  unfold w_L_law at w
  obtain ⟨I7, m7, w, y7⟩ := w
  have Q7 : ∀ (n : Nat) (d2 : Option Value) (d3 : Option Value) (d4 : Option Value) (d5 : Option Value) (x1 : Int) (h6 : XH), HT h6 → HX h h6 → rg x1 → m7 x1 h6 < n → I7 x1 h6 → RR sc goal fs 0 23 [some (.ref 0), some (rv 2), some (rv 437), some (rv 467), some (.int (J x1)), d2, d3, d4, d5] [] h6 := by
    intro n
    induction n with
    | zero => intro d2 d3 d4 d5 x1 h6 t6 s6 rx1 q7 _; exact absurd q7 (Nat.not_lt_zero _)
    | succ n ih7 =>
      intro d2 d3 d4 d5 x1 h6 t6 s6 rx1 q7 z7
      have w := y7 x1 h6 t6 s6 rx1 z7
      refine r_n (pc1 := 25) [.int (J x1)] _ rfl rfl ?_
      refine r_n (pc1 := 26) [.ref 0, .int (J x1)] _ rfl rfl ?_
      refine r_slen (pc1 := 27) rfl rfl ?_
      refine r_n (pc1 := 29) [.int (J 6), .int (J (sc.1 : Int)), .int (J x1)] _ rfl rfl ?_
      refine r_isub (pc1 := 30) rfl rfl ?_
      refine r_ic (t := 3472) (pc1 := 33) rfl rfl rfl rx1 (rgw _) (fun c612 => ?_) (fun c612 => ?_)
      · have w := w.1 c612
        refine r_n (pc1 := 3473) [.int (J 1)] _ rfl rfl ?_
        exact r_retB rfl rfl rfl (.inr rfl) (k _ _ t6 s6 (rgk rfl) (.inr rfl) w)
      · have w := w.2 c612
        refine r_n (pc1 := 34) [.ref 0] _ rfl rfl ?_
        refine r_n (pc1 := 36) [.int (J x1), .ref 0] _ rfl rfl ?_
        obtain ⟨c8, w⟩ := w
        refine r_sal (pc1 := 37) rfl rfl t6 rx1 c8.1 c8.2 ?_
        refine r_n (pc1 := 39) [.int (J 63), .int (J ((sc.2 (x1).toNat).toInt))] _ rfl rfl ?_
        refine r_iand (pc1 := 40) rfl rfl ?_
        obtain ⟨J14, j14, w⟩ := w
        have Q14 : ∀ (d9 : Option Value) (d10 : Option Value) (d11 : Option Value) (d12 : Option Value) (h13 : XH), HT h13 → HX h h13 → J14 h13 → RR sc goal fs 0 3466 [some (.ref 0), some (rv 2), some (rv 437), some (rv 467), some (.int (J x1)), d9, d10, d11, d12] [] h13 := by
          intro d9 d10 d11 d12 h13 t13 s13 z14
          have w := j14 h13 t13 s13 z14
          refine r_inc (pc1 := 3469) (g := fun zz => [some (.ref 0), some (rv 2), some (rv 437), some (rv 467), some (.int (J zz)), d9, d10, d11, d12]) rfl rfl rfl rfl (fun _ => rfl) (fun x15 ex15 rx15 => ?_)
          have w := w x15 ex15 rx15
          refine r_goto (t := 23) rfl rfl ?_
          exact ih7 _ _ _ _ x15 h13 t13 s13 rx15 (Nat.lt_of_lt_of_le w.2 (Nat.le_of_lt_succ q7)) w.1
        refine r_tsw (t0 := 3466) rfl (rgt _) rfl rfl (fun c16 => ?_) ?_
        · have w := w.1 c16
          exact Q14 _ _ _ _  h6 t6 s6  w
        have w := w.2
        refine ⟨fun c16 => ⟨304, rfl, ?_⟩, ⟨fun c16 => ⟨408, rfl, ?_⟩, ⟨fun c16 => ⟨421, rfl, ?_⟩, ⟨fun c16 => ⟨434, rfl, ?_⟩, ⟨fun c16 => ⟨478, rfl, ?_⟩, ⟨fun c16 => ⟨582, rfl, ?_⟩, ⟨fun c16 => ⟨678, rfl, ?_⟩, ⟨fun c16 => ⟨746, rfl, ?_⟩, ⟨fun c16 => ⟨838, rfl, ?_⟩, ⟨fun c16 => ⟨906, rfl, ?_⟩, ⟨fun c16 => ⟨962, rfl, ?_⟩, ⟨fun c16 => ⟨1018, rfl, ?_⟩, ⟨fun c16 => ⟨1086, rfl, ?_⟩, ⟨fun c16 => ⟨1142, rfl, ?_⟩, ⟨fun c16 => ⟨1198, rfl, ?_⟩, ⟨fun c16 => ⟨1242, rfl, ?_⟩, ⟨fun c16 => ⟨1298, rfl, ?_⟩, ⟨fun c16 => ⟨1382, rfl, ?_⟩, ⟨fun c16 => ⟨1438, rfl, ?_⟩, ⟨fun c16 => ⟨1494, rfl, ?_⟩, ⟨fun c16 => ⟨1535, rfl, ?_⟩, ⟨fun c16 => ⟨1591, rfl, ?_⟩, ⟨fun c16 => ⟨1654, rfl, ?_⟩, ⟨fun c16 => ⟨1667, rfl, ?_⟩, ⟨fun c16 => ⟨1735, rfl, ?_⟩, ⟨fun c16 => ⟨1748, rfl, ?_⟩, ⟨fun c16 => ⟨1804, rfl, ?_⟩, ⟨fun c16 => ⟨1860, rfl, ?_⟩, ⟨fun c16 => ⟨1873, rfl, ?_⟩, ⟨fun c16 => ⟨1941, rfl, ?_⟩, ⟨fun c16 => ⟨1954, rfl, ?_⟩, ⟨fun c16 => ⟨2022, rfl, ?_⟩, ⟨fun c16 => ⟨2090, rfl, ?_⟩, ⟨fun c16 => ⟨2146, rfl, ?_⟩, ⟨fun c16 => ⟨2214, rfl, ?_⟩, ⟨fun c16 => ⟨2282, rfl, ?_⟩, ⟨fun c16 => ⟨2338, rfl, ?_⟩, ⟨fun c16 => ⟨2382, rfl, ?_⟩, ⟨fun c16 => ⟨2474, rfl, ?_⟩, ⟨fun c16 => ⟨2530, rfl, ?_⟩, ⟨fun c16 => ⟨2543, rfl, ?_⟩, ⟨fun c16 => ⟨2627, rfl, ?_⟩, ⟨fun c16 => ⟨2671, rfl, ?_⟩, ⟨fun c16 => ⟨2727, rfl, ?_⟩, ⟨fun c16 => ⟨2771, rfl, ?_⟩, ⟨fun c16 => ⟨2827, rfl, ?_⟩, ⟨fun c16 => ⟨2883, rfl, ?_⟩, ⟨fun c16 => ⟨2939, rfl, ?_⟩, ⟨fun c16 => ⟨2952, rfl, ?_⟩, ⟨fun c16 => ⟨3055, rfl, ?_⟩, ⟨fun c16 => ⟨3068, rfl, ?_⟩, ⟨fun c16 => ⟨3124, rfl, ?_⟩, ⟨fun c16 => ⟨3137, rfl, ?_⟩, ⟨fun c16 => ⟨3193, rfl, ?_⟩, ⟨fun c16 => ⟨3249, rfl, ?_⟩, ⟨fun c16 => ⟨3317, rfl, ?_⟩, ⟨fun c16 => ⟨3330, rfl, ?_⟩, ⟨fun c16 => ⟨3343, rfl, ?_⟩, ⟨fun c16 => ⟨3356, rfl, ?_⟩, ⟨fun c16 => ⟨3369, rfl, ?_⟩, ⟨fun c16 => ⟨3382, rfl, ?_⟩, ⟨fun c16 => ⟨3423, rfl, ?_⟩, trivial⟩⟩⟩⟩⟩⟩⟩⟩⟩⟩⟩⟩⟩⟩⟩⟩⟩⟩⟩⟩⟩⟩⟩⟩⟩⟩⟩⟩⟩⟩⟩⟩⟩⟩⟩⟩⟩⟩⟩⟩⟩⟩⟩⟩⟩⟩⟩⟩⟩⟩⟩⟩⟩⟩⟩⟩⟩⟩⟩⟩⟩⟩
        · have w := w.1 c16
          refine r_aldn (pc1 := 305) rfl rfl rfl ?_
          refine r_n (pc1 := 306) [.ref 0, rv 2] _ rfl rfl ?_
          refine r_n (pc1 := 308) [.int (J x1), .ref 0, rv 2] _ rfl rfl ?_
          refine r_n (pc1 := 309) [.int (J 1), .int (J x1), .ref 0, rv 2] _ rfl rfl ?_
          refine r_iadd (pc1 := 310) rfl rfl ?_
          obtain ⟨c17, w⟩ := w
          refine r_sal (pc1 := 311) rfl rfl t6 (rgw _) c17.1 c17.2 ?_
          refine r_n (pc1 := 312) [.ref 0, .int (J ((sc.2 (wr (x1 + 1)).toNat).toInt)), rv 2] _ rfl rfl ?_
          refine r_n (pc1 := 314) [.int (J x1), .ref 0, .int (J ((sc.2 (wr (x1 + 1)).toNat).toInt)), rv 2] _ rfl rfl ?_
          refine r_n (pc1 := 315) [.int (J 2), .int (J x1), .ref 0, .int (J ((sc.2 (wr (x1 + 1)).toNat).toInt)), rv 2] _ rfl rfl ?_
          refine r_iadd (pc1 := 316) rfl rfl ?_
          obtain ⟨c18, w⟩ := w
          refine r_sal (pc1 := 317) rfl rfl t6 (rgw _) c18.1 c18.2 ?_
          refine r_n (pc1 := 318) [.ref 0, .int (J ((sc.2 (wr (x1 + 2)).toNat).toInt)), .int (J ((sc.2 (wr (x1 + 1)).toNat).toInt)), rv 2] _ rfl rfl ?_
          refine r_n (pc1 := 320) [.int (J x1), .ref 0, .int (J ((sc.2 (wr (x1 + 2)).toNat).toInt)), .int (J ((sc.2 (wr (x1 + 1)).toNat).toInt)), rv 2] _ rfl rfl ?_
          refine r_n (pc1 := 321) [.int (J 3), .int (J x1), .ref 0, .int (J ((sc.2 (wr (x1 + 2)).toNat).toInt)), .int (J ((sc.2 (wr (x1 + 1)).toNat).toInt)), rv 2] _ rfl rfl ?_
          refine r_iadd (pc1 := 322) rfl rfl ?_
          obtain ⟨c19, w⟩ := w
          refine r_sal (pc1 := 323) rfl rfl t6 (rgw _) c19.1 c19.2 ?_
          refine r_n (pc1 := 324) [.ref 0, .int (J ((sc.2 (wr (x1 + 3)).toNat).toInt)), .int (J ((sc.2 (wr (x1 + 2)).toNat).toInt)), .int (J ((sc.2 (wr (x1 + 1)).toNat).toInt)), rv 2] _ rfl rfl ?_
          refine r_n (pc1 := 326) [.int (J x1), .ref 0, .int (J ((sc.2 (wr (x1 + 3)).toNat).toInt)), .int (J ((sc.2 (wr (x1 + 2)).toNat).toInt)), .int (J ((sc.2 (wr (x1 + 1)).toNat).toInt)), rv 2] _ rfl rfl ?_
          refine r_n (pc1 := 327) [.int (J 4), .int (J x1), .ref 0, .int (J ((sc.2 (wr (x1 + 3)).toNat).toInt)), .int (J ((sc.2 (wr (x1 + 2)).toNat).toInt)), .int (J ((sc.2 (wr (x1 + 1)).toNat).toInt)), rv 2] _ rfl rfl ?_
          refine r_iadd (pc1 := 328) rfl rfl ?_
          obtain ⟨c20, w⟩ := w
          refine r_sal (pc1 := 329) rfl rfl t6 (rgw _) c20.1 c20.2 ?_
          refine r_n (pc1 := 330) [.ref 0, .int (J ((sc.2 (wr (x1 + 4)).toNat).toInt)), .int (J ((sc.2 (wr (x1 + 3)).toNat).toInt)), .int (J ((sc.2 (wr (x1 + 2)).toNat).toInt)), .int (J ((sc.2 (wr (x1 + 1)).toNat).toInt)), rv 2] _ rfl rfl ?_
          refine r_n (pc1 := 332) [.int (J x1), .ref 0, .int (J ((sc.2 (wr (x1 + 4)).toNat).toInt)), .int (J ((sc.2 (wr (x1 + 3)).toNat).toInt)), .int (J ((sc.2 (wr (x1 + 2)).toNat).toInt)), .int (J ((sc.2 (wr (x1 + 1)).toNat).toInt)), rv 2] _ rfl rfl ?_
          refine r_n (pc1 := 333) [.int (J 5), .int (J x1), .ref 0, .int (J ((sc.2 (wr (x1 + 4)).toNat).toInt)), .int (J ((sc.2 (wr (x1 + 3)).toNat).toInt)), .int (J ((sc.2 (wr (x1 + 2)).toNat).toInt)), .int (J ((sc.2 (wr (x1 + 1)).toNat).toInt)), rv 2] _ rfl rfl ?_
          refine r_iadd (pc1 := 334) rfl rfl ?_
          obtain ⟨c21, w⟩ := w
          refine r_sal (pc1 := 335) rfl rfl t6 (rgw _) c21.1 c21.2 ?_
          refine r_aldn (pc1 := 336) rfl rfl rfl ?_
          refine r_iq rfl rfl rfl rfl rfl rfl (xe_of (xa_r (xa_i (xa_i (xa_i (xa_i (xa_i (xa_r xa_0))))))) rfl rfl) (r_d0 hd rfl) (a_L_append ((sc.2 (wr (x1 + 1)).toNat).toInt) ((sc.2 (wr (x1 + 2)).toNat).toInt) ((sc.2 (wr (x1 + 3)).toNat).toInt) ((sc.2 (wr (x1 + 4)).toNat).toInt) ((sc.2 (wr (x1 + 5)).toNat).toInt) (r_d1 hd rfl) (rgt _) (rgt _) (rgt _) (rgt _) (rgt _) w t6 (fun x22 h23 t23 u23 rx22 w => ?_))
          refine r_fI (pc1 := 339) rfl ?_
          have s23 := HX_trans s6 u23
          have w := w t23 u23
          have w := w rx22
          refine r_ist (pc1 := 341) (ls1 := [some (.ref 0), some (rv 2), some (rv 437), some (rv 467), some (.int (J x1)), some (.int (J x22)), d3, d4, d5]) rfl rfl rfl rfl ?_
          refine r_aldn (pc1 := 342) rfl rfl rfl ?_
          refine r_n (pc1 := 343) [.ref 0, rv 437] _ rfl rfl ?_
          refine r_n (pc1 := 345) [.int (J x1), .ref 0, rv 437] _ rfl rfl ?_
          refine r_n (pc1 := 346) [.int (J 1), .int (J x1), .ref 0, rv 437] _ rfl rfl ?_
          refine r_iadd (pc1 := 347) rfl rfl ?_
          refine r_sal (pc1 := 348) rfl rfl t23 (rgw _) c17.1 c17.2 ?_
          refine r_n (pc1 := 349) [.ref 0, .int (J ((sc.2 (wr (x1 + 1)).toNat).toInt)), rv 437] _ rfl rfl ?_
          refine r_n (pc1 := 351) [.int (J x1), .ref 0, .int (J ((sc.2 (wr (x1 + 1)).toNat).toInt)), rv 437] _ rfl rfl ?_
          refine r_n (pc1 := 352) [.int (J 2), .int (J x1), .ref 0, .int (J ((sc.2 (wr (x1 + 1)).toNat).toInt)), rv 437] _ rfl rfl ?_
          refine r_iadd (pc1 := 353) rfl rfl ?_
          refine r_sal (pc1 := 354) rfl rfl t23 (rgw _) c18.1 c18.2 ?_
          refine r_n (pc1 := 355) [.ref 0, .int (J ((sc.2 (wr (x1 + 2)).toNat).toInt)), .int (J ((sc.2 (wr (x1 + 1)).toNat).toInt)), rv 437] _ rfl rfl ?_
          refine r_n (pc1 := 357) [.int (J x1), .ref 0, .int (J ((sc.2 (wr (x1 + 2)).toNat).toInt)), .int (J ((sc.2 (wr (x1 + 1)).toNat).toInt)), rv 437] _ rfl rfl ?_
          refine r_n (pc1 := 358) [.int (J 3), .int (J x1), .ref 0, .int (J ((sc.2 (wr (x1 + 2)).toNat).toInt)), .int (J ((sc.2 (wr (x1 + 1)).toNat).toInt)), rv 437] _ rfl rfl ?_
          refine r_iadd (pc1 := 359) rfl rfl ?_
          refine r_sal (pc1 := 360) rfl rfl t23 (rgw _) c19.1 c19.2 ?_
          refine r_n (pc1 := 361) [.ref 0, .int (J ((sc.2 (wr (x1 + 3)).toNat).toInt)), .int (J ((sc.2 (wr (x1 + 2)).toNat).toInt)), .int (J ((sc.2 (wr (x1 + 1)).toNat).toInt)), rv 437] _ rfl rfl ?_
          refine r_n (pc1 := 363) [.int (J x1), .ref 0, .int (J ((sc.2 (wr (x1 + 3)).toNat).toInt)), .int (J ((sc.2 (wr (x1 + 2)).toNat).toInt)), .int (J ((sc.2 (wr (x1 + 1)).toNat).toInt)), rv 437] _ rfl rfl ?_
          refine r_n (pc1 := 364) [.int (J 4), .int (J x1), .ref 0, .int (J ((sc.2 (wr (x1 + 3)).toNat).toInt)), .int (J ((sc.2 (wr (x1 + 2)).toNat).toInt)), .int (J ((sc.2 (wr (x1 + 1)).toNat).toInt)), rv 437] _ rfl rfl ?_
          refine r_iadd (pc1 := 365) rfl rfl ?_
          refine r_sal (pc1 := 366) rfl rfl t23 (rgw _) c20.1 c20.2 ?_
          refine r_n (pc1 := 367) [.ref 0, .int (J ((sc.2 (wr (x1 + 4)).toNat).toInt)), .int (J ((sc.2 (wr (x1 + 3)).toNat).toInt)), .int (J ((sc.2 (wr (x1 + 2)).toNat).toInt)), .int (J ((sc.2 (wr (x1 + 1)).toNat).toInt)), rv 437] _ rfl rfl ?_
          refine r_n (pc1 := 369) [.int (J x1), .ref 0, .int (J ((sc.2 (wr (x1 + 4)).toNat).toInt)), .int (J ((sc.2 (wr (x1 + 3)).toNat).toInt)), .int (J ((sc.2 (wr (x1 + 2)).toNat).toInt)), .int (J ((sc.2 (wr (x1 + 1)).toNat).toInt)), rv 437] _ rfl rfl ?_
          refine r_n (pc1 := 370) [.int (J 5), .int (J x1), .ref 0, .int (J ((sc.2 (wr (x1 + 4)).toNat).toInt)), .int (J ((sc.2 (wr (x1 + 3)).toNat).toInt)), .int (J ((sc.2 (wr (x1 + 2)).toNat).toInt)), .int (J ((sc.2 (wr (x1 + 1)).toNat).toInt)), rv 437] _ rfl rfl ?_
          refine r_iadd (pc1 := 371) rfl rfl ?_
          refine r_sal (pc1 := 372) rfl rfl t23 (rgw _) c21.1 c21.2 ?_
          refine r_iv rfl rfl rfl rfl rfl rfl t23 (lyk t23 rfl) rfl (xe_of (xa_r (xa_i (xa_i (xa_i (xa_i (xa_i xa_0)))))) rfl rfl) (r_d0 hd rfl) (a_X14_append ((sc.2 (wr (x1 + 1)).toNat).toInt) ((sc.2 (wr (x1 + 2)).toNat).toInt) ((sc.2 (wr (x1 + 3)).toNat).toInt) ((sc.2 (wr (x1 + 4)).toNat).toInt) ((sc.2 (wr (x1 + 5)).toNat).toInt) (r_d1 hd rfl) (rgt _) (rgt _) (rgt _) (rgt _) (rgt _) w t23 (fun x24 h25 t25 u25 rx24 w => ?_))
          refine r_fI (pc1 := 375) rfl ?_
          have s25 := HX_trans s23 u25
          have w := w t25 u25
          have w := w rx24
          refine r_ist (pc1 := 377) (ls1 := [some (.ref 0), some (rv 2), some (rv 437), some (rv 467), some (.int (J x1)), some (.int (J x22)), some (.int (J x24)), d4, d5]) rfl rfl rfl rfl ?_
          refine r_aldn (pc1 := 378) rfl rfl rfl ?_
          refine r_iv rfl rfl rfl rfl rfl rfl t25 (lyk t25 rfl) rfl (xe_of (xa_r xa_0) rfl rfl) (r_d0 hd rfl) (a_X14_thrown  (r_d1 hd rfl)  w t25 (fun x26 rx26 w => ?_))
          refine r_fI (pc1 := 381) rfl ?_
          have w := w rx26
          refine r_n (pc1 := 383) [.int (J x22), .int (J x26)] _ rfl rfl ?_
          refine r_ic (t := 388) (pc1 := 386) rfl rfl rfl rx26 rx22 (fun c30 => ?_) (fun c30 => ?_)
          · have w := w.1 c30
            refine r_n (pc1 := 390) [.int (J x22)] _ rfl rfl ?_
            obtain ⟨J27, j27, w⟩ := w
            have Q27 : J27 → RR sc goal fs 0 405 [some (.ref 0), some (rv 2), some (rv 437), some (rv 467), some (.int (J x1)), some (.int (J x22)), some (.int (J x24)), d4, d5] [] h25 := by
              intro z27
              have w := j27 z27
              refine r_goto (t := 3466) rfl rfl ?_
              exact Q14 _ _ _ _  h25 t25 s25  w
            refine r_iz (t := 405) (pc1 := 393) rfl rfl rfl rx22 (fun c29 => ?_) (fun c29 => ?_)
            · have w := w.1 c29
              exact Q27     w
            · have w := w.2 c29
              refine r_aldn (pc1 := 394) rfl rfl rfl ?_
              refine r_n (pc1 := 395) [.int (J 0), rv 467] _ rfl rfl ?_
              refine r_lal (pc1 := 396) rfl rfl t25 (lyk t25 rfl) (rgk rfl) (by decide) (lt_len (lyn t25 rfl) (by decide)) ?_
              refine r_n (pc1 := 398) [.int (J x24), .long (G (hL h25 467 0))] _ rfl rfl ?_
              refine r_i2l (pc1 := 399) rfl rfl ?_
              refine r_lc (pc2 := 400) (t := 405) (pc1 := 403) rfl rfl rfl rfl rfl (fun c28 => ?_) (fun c28 => ?_)
              · have w := w.1 c28
                exact Q27     w
              · have w := w.2 c28
                refine r_n (pc1 := 404) [.int (J 0)] _ rfl rfl ?_
                exact r_retB rfl rfl rfl (.inl rfl) (k _ _ t25 s25 (rgk rfl) (.inl rfl) w)
          · have w := w.2 c30
            refine r_n (pc1 := 387) [.int (J 0)] _ rfl rfl ?_
            exact r_retB rfl rfl rfl (.inl rfl) (k _ _ t25 s25 (rgk rfl) (.inl rfl) w)
        · have w := w.2.1 c16
          refine r_aldn (pc1 := 409) rfl rfl rfl ?_
          refine r_iv rfl rfl rfl rfl rfl rfl t6 (lyk t6 rfl) rfl (xe_of (xa_r xa_0) rfl rfl) (r_d0 hd rfl) (a_X12_clearTape  (r_d1 hd rfl)  w t6 (fun x31 h32 t32 u32 rx31 w => ?_))
          refine r_fI (pc1 := 412) rfl ?_
          have s32 := HX_trans s6 u32
          have w := w t32 u32
          have w := w rx31
          refine r_aldn (pc1 := 413) rfl rfl rfl ?_
          refine r_iv rfl rfl rfl rfl rfl rfl t32 (lyk t32 rfl) rfl (xe_of (xa_r xa_0) rfl rfl) (r_d0 hd rfl) (a_X14_clearTape  (r_d1 hd rfl)  w t32 (fun x33 h34 t34 u34 rx33 w => ?_))
          refine r_fI (pc1 := 416) rfl ?_
          have s34 := HX_trans s32 u34
          have w := w t34 u34
          have w := w rx33
          refine r_ic (t := 3466) (pc1 := 419) rfl rfl rfl rx31 rx33 (fun c35 => ?_) (fun c35 => ?_)
          · have w := w.1 c35
            exact Q14 _ _ _ _  h34 t34 s34  w
          · have w := w.2 c35
            refine r_n (pc1 := 420) [.int (J 0)] _ rfl rfl ?_
            exact r_retB rfl rfl rfl (.inl rfl) (k _ _ t34 s34 (rgk rfl) (.inl rfl) w)
        · have w := w.2.2.1 c16
          refine r_aldn (pc1 := 422) rfl rfl rfl ?_
          refine r_iv rfl rfl rfl rfl rfl rfl t6 (lyk t6 rfl) rfl (xe_of (xa_r xa_0) rfl rfl) (r_d0 hd rfl) (a_X12_errorPosition  (r_d1 hd rfl)  w t6 (fun x36 rx36 w => ?_))
          refine r_fI (pc1 := 425) rfl ?_
          have w := w rx36
          refine r_aldn (pc1 := 426) rfl rfl rfl ?_
          refine r_iv rfl rfl rfl rfl rfl rfl t6 (lyk t6 rfl) rfl (xe_of (xa_r xa_0) rfl rfl) (r_d0 hd rfl) (a_X14_errorPosition  (r_d1 hd rfl)  w t6 (fun x37 h38 t38 u38 rx37 w => ?_))
          refine r_fI (pc1 := 429) rfl ?_
          have s38 := HX_trans s6 u38
          have w := w t38 u38
          have w := w rx37
          refine r_ic (t := 3466) (pc1 := 432) rfl rfl rfl rx36 rx37 (fun c39 => ?_) (fun c39 => ?_)
          · have w := w.1 c39
            exact Q14 _ _ _ _  h38 t38 s38  w
          · have w := w.2 c39
            refine r_n (pc1 := 433) [.int (J 0)] _ rfl rfl ?_
            exact r_retB rfl rfl rfl (.inl rfl) (k _ _ t38 s38 (rgk rfl) (.inl rfl) w)
        · have w := w.2.2.2.1 c16
          refine r_aldn (pc1 := 435) rfl rfl rfl ?_
          refine r_aldn (pc1 := 436) rfl rfl rfl ?_
          refine r_iq rfl rfl rfl rfl rfl rfl (xe_of (xa_r (xa_r xa_0)) rfl rfl) (r_d0 hd rfl) (a_L_pack  (r_d1 hd rfl)  w t6 (fun x40 h41 t41 u41 rx40 w => ?_))
          refine r_fI (pc1 := 439) rfl ?_
          have s41 := HX_trans s6 u41
          have w := w t41 u41
          have w := w rx40
          refine r_ist (pc1 := 441) (ls1 := [some (.ref 0), some (rv 2), some (rv 437), some (rv 467), some (.int (J x1)), some (.int (J x40)), d3, d4, d5]) rfl rfl rfl rfl ?_
          refine r_aldn (pc1 := 442) rfl rfl rfl ?_
          refine r_iv rfl rfl rfl rfl rfl rfl t41 (lyk t41 rfl) rfl (xe_of (xa_r xa_0) rfl rfl) (r_d0 hd rfl) (a_X14_pack  (r_d1 hd rfl)  w t41 (fun x42 h43 t43 u43 rx42 w => ?_))
          refine r_fI (pc1 := 445) rfl ?_
          have s43 := HX_trans s41 u43
          have w := w t43 u43
          have w := w rx42
          refine r_ist (pc1 := 447) (ls1 := [some (.ref 0), some (rv 2), some (rv 437), some (rv 467), some (.int (J x1)), some (.int (J x40)), some (.int (J x42)), d4, d5]) rfl rfl rfl rfl ?_
          refine r_aldn (pc1 := 448) rfl rfl rfl ?_
          refine r_iv rfl rfl rfl rfl rfl rfl t43 (lyk t43 rfl) rfl (xe_of (xa_r xa_0) rfl rfl) (r_d0 hd rfl) (a_X14_thrown  (r_d1 hd rfl)  w t43 (fun x44 rx44 w => ?_))
          refine r_fI (pc1 := 451) rfl ?_
          have w := w rx44
          refine r_n (pc1 := 453) [.int (J x40), .int (J x44)] _ rfl rfl ?_
          refine r_ic (t := 458) (pc1 := 456) rfl rfl rfl rx44 rx40 (fun c48 => ?_) (fun c48 => ?_)
          · have w := w.1 c48
            refine r_n (pc1 := 460) [.int (J x40)] _ rfl rfl ?_
            obtain ⟨J45, j45, w⟩ := w
            have Q45 : J45 → RR sc goal fs 0 475 [some (.ref 0), some (rv 2), some (rv 437), some (rv 467), some (.int (J x1)), some (.int (J x40)), some (.int (J x42)), d4, d5] [] h43 := by
              intro z45
              have w := j45 z45
              refine r_goto (t := 3466) rfl rfl ?_
              exact Q14 _ _ _ _  h43 t43 s43  w
            refine r_iz (t := 475) (pc1 := 463) rfl rfl rfl rx40 (fun c47 => ?_) (fun c47 => ?_)
            · have w := w.1 c47
              exact Q45     w
            · have w := w.2 c47
              refine r_aldn (pc1 := 464) rfl rfl rfl ?_
              refine r_n (pc1 := 465) [.int (J 0), rv 467] _ rfl rfl ?_
              refine r_lal (pc1 := 466) rfl rfl t43 (lyk t43 rfl) (rgk rfl) (by decide) (lt_len (lyn t43 rfl) (by decide)) ?_
              refine r_n (pc1 := 468) [.int (J x42), .long (G (hL h43 467 0))] _ rfl rfl ?_
              refine r_i2l (pc1 := 469) rfl rfl ?_
              refine r_lc (pc2 := 470) (t := 475) (pc1 := 473) rfl rfl rfl rfl rfl (fun c46 => ?_) (fun c46 => ?_)
              · have w := w.1 c46
                exact Q45     w
              · have w := w.2 c46
                refine r_n (pc1 := 474) [.int (J 0)] _ rfl rfl ?_
                exact r_retB rfl rfl rfl (.inl rfl) (k _ _ t43 s43 (rgk rfl) (.inl rfl) w)
          · have w := w.2 c48
            refine r_n (pc1 := 457) [.int (J 0)] _ rfl rfl ?_
            exact r_retB rfl rfl rfl (.inl rfl) (k _ _ t43 s43 (rgk rfl) (.inl rfl) w)
        · have w := w.2.2.2.2.1 c16
          refine r_aldn (pc1 := 479) rfl rfl rfl ?_
          refine r_n (pc1 := 480) [.ref 0, rv 2] _ rfl rfl ?_
          refine r_n (pc1 := 482) [.int (J x1), .ref 0, rv 2] _ rfl rfl ?_
          refine r_n (pc1 := 483) [.int (J 1), .int (J x1), .ref 0, rv 2] _ rfl rfl ?_
          refine r_iadd (pc1 := 484) rfl rfl ?_
          obtain ⟨c49, w⟩ := w
          refine r_sal (pc1 := 485) rfl rfl t6 (rgw _) c49.1 c49.2 ?_
          refine r_n (pc1 := 486) [.ref 0, .int (J ((sc.2 (wr (x1 + 1)).toNat).toInt)), rv 2] _ rfl rfl ?_
          refine r_n (pc1 := 488) [.int (J x1), .ref 0, .int (J ((sc.2 (wr (x1 + 1)).toNat).toInt)), rv 2] _ rfl rfl ?_
          refine r_n (pc1 := 489) [.int (J 2), .int (J x1), .ref 0, .int (J ((sc.2 (wr (x1 + 1)).toNat).toInt)), rv 2] _ rfl rfl ?_
          refine r_iadd (pc1 := 490) rfl rfl ?_
          obtain ⟨c50, w⟩ := w
          refine r_sal (pc1 := 491) rfl rfl t6 (rgw _) c50.1 c50.2 ?_
          refine r_n (pc1 := 492) [.ref 0, .int (J ((sc.2 (wr (x1 + 2)).toNat).toInt)), .int (J ((sc.2 (wr (x1 + 1)).toNat).toInt)), rv 2] _ rfl rfl ?_
          refine r_n (pc1 := 494) [.int (J x1), .ref 0, .int (J ((sc.2 (wr (x1 + 2)).toNat).toInt)), .int (J ((sc.2 (wr (x1 + 1)).toNat).toInt)), rv 2] _ rfl rfl ?_
          refine r_n (pc1 := 495) [.int (J 3), .int (J x1), .ref 0, .int (J ((sc.2 (wr (x1 + 2)).toNat).toInt)), .int (J ((sc.2 (wr (x1 + 1)).toNat).toInt)), rv 2] _ rfl rfl ?_
          refine r_iadd (pc1 := 496) rfl rfl ?_
          obtain ⟨c51, w⟩ := w
          refine r_sal (pc1 := 497) rfl rfl t6 (rgw _) c51.1 c51.2 ?_
          refine r_n (pc1 := 498) [.ref 0, .int (J ((sc.2 (wr (x1 + 3)).toNat).toInt)), .int (J ((sc.2 (wr (x1 + 2)).toNat).toInt)), .int (J ((sc.2 (wr (x1 + 1)).toNat).toInt)), rv 2] _ rfl rfl ?_
          refine r_n (pc1 := 500) [.int (J x1), .ref 0, .int (J ((sc.2 (wr (x1 + 3)).toNat).toInt)), .int (J ((sc.2 (wr (x1 + 2)).toNat).toInt)), .int (J ((sc.2 (wr (x1 + 1)).toNat).toInt)), rv 2] _ rfl rfl ?_
          refine r_n (pc1 := 501) [.int (J 4), .int (J x1), .ref 0, .int (J ((sc.2 (wr (x1 + 3)).toNat).toInt)), .int (J ((sc.2 (wr (x1 + 2)).toNat).toInt)), .int (J ((sc.2 (wr (x1 + 1)).toNat).toInt)), rv 2] _ rfl rfl ?_
          refine r_iadd (pc1 := 502) rfl rfl ?_
          obtain ⟨c52, w⟩ := w
          refine r_sal (pc1 := 503) rfl rfl t6 (rgw _) c52.1 c52.2 ?_
          refine r_n (pc1 := 504) [.ref 0, .int (J ((sc.2 (wr (x1 + 4)).toNat).toInt)), .int (J ((sc.2 (wr (x1 + 3)).toNat).toInt)), .int (J ((sc.2 (wr (x1 + 2)).toNat).toInt)), .int (J ((sc.2 (wr (x1 + 1)).toNat).toInt)), rv 2] _ rfl rfl ?_
          refine r_n (pc1 := 506) [.int (J x1), .ref 0, .int (J ((sc.2 (wr (x1 + 4)).toNat).toInt)), .int (J ((sc.2 (wr (x1 + 3)).toNat).toInt)), .int (J ((sc.2 (wr (x1 + 2)).toNat).toInt)), .int (J ((sc.2 (wr (x1 + 1)).toNat).toInt)), rv 2] _ rfl rfl ?_
          refine r_n (pc1 := 507) [.int (J 5), .int (J x1), .ref 0, .int (J ((sc.2 (wr (x1 + 4)).toNat).toInt)), .int (J ((sc.2 (wr (x1 + 3)).toNat).toInt)), .int (J ((sc.2 (wr (x1 + 2)).toNat).toInt)), .int (J ((sc.2 (wr (x1 + 1)).toNat).toInt)), rv 2] _ rfl rfl ?_
          refine r_iadd (pc1 := 508) rfl rfl ?_
          obtain ⟨c53, w⟩ := w
          refine r_sal (pc1 := 509) rfl rfl t6 (rgw _) c53.1 c53.2 ?_
          refine r_aldn (pc1 := 510) rfl rfl rfl ?_
          refine r_iq rfl rfl rfl rfl rfl rfl (xe_of (xa_r (xa_i (xa_i (xa_i (xa_i (xa_i (xa_r xa_0))))))) rfl rfl) (r_d0 hd rfl) (a_L_version ((sc.2 (wr (x1 + 1)).toNat).toInt) ((sc.2 (wr (x1 + 2)).toNat).toInt) ((sc.2 (wr (x1 + 3)).toNat).toInt) ((sc.2 (wr (x1 + 4)).toNat).toInt) ((sc.2 (wr (x1 + 5)).toNat).toInt) (r_d1 hd rfl) (rgt _) (rgt _) (rgt _) (rgt _) (rgt _) w t6 (fun x54 h55 t55 u55 rx54 w => ?_))
          refine r_fI (pc1 := 513) rfl ?_
          have s55 := HX_trans s6 u55
          have w := w t55 u55
          have w := w rx54
          refine r_ist (pc1 := 515) (ls1 := [some (.ref 0), some (rv 2), some (rv 437), some (rv 467), some (.int (J x1)), some (.int (J x54)), d3, d4, d5]) rfl rfl rfl rfl ?_
          refine r_aldn (pc1 := 516) rfl rfl rfl ?_
          refine r_n (pc1 := 517) [.ref 0, rv 437] _ rfl rfl ?_
          refine r_n (pc1 := 519) [.int (J x1), .ref 0, rv 437] _ rfl rfl ?_
          refine r_n (pc1 := 520) [.int (J 1), .int (J x1), .ref 0, rv 437] _ rfl rfl ?_
          refine r_iadd (pc1 := 521) rfl rfl ?_
          refine r_sal (pc1 := 522) rfl rfl t55 (rgw _) c49.1 c49.2 ?_
          refine r_n (pc1 := 523) [.ref 0, .int (J ((sc.2 (wr (x1 + 1)).toNat).toInt)), rv 437] _ rfl rfl ?_
          refine r_n (pc1 := 525) [.int (J x1), .ref 0, .int (J ((sc.2 (wr (x1 + 1)).toNat).toInt)), rv 437] _ rfl rfl ?_
          refine r_n (pc1 := 526) [.int (J 2), .int (J x1), .ref 0, .int (J ((sc.2 (wr (x1 + 1)).toNat).toInt)), rv 437] _ rfl rfl ?_
          refine r_iadd (pc1 := 527) rfl rfl ?_
          refine r_sal (pc1 := 528) rfl rfl t55 (rgw _) c50.1 c50.2 ?_
          refine r_n (pc1 := 529) [.ref 0, .int (J ((sc.2 (wr (x1 + 2)).toNat).toInt)), .int (J ((sc.2 (wr (x1 + 1)).toNat).toInt)), rv 437] _ rfl rfl ?_
          refine r_n (pc1 := 531) [.int (J x1), .ref 0, .int (J ((sc.2 (wr (x1 + 2)).toNat).toInt)), .int (J ((sc.2 (wr (x1 + 1)).toNat).toInt)), rv 437] _ rfl rfl ?_
          refine r_n (pc1 := 532) [.int (J 3), .int (J x1), .ref 0, .int (J ((sc.2 (wr (x1 + 2)).toNat).toInt)), .int (J ((sc.2 (wr (x1 + 1)).toNat).toInt)), rv 437] _ rfl rfl ?_
          refine r_iadd (pc1 := 533) rfl rfl ?_
          refine r_sal (pc1 := 534) rfl rfl t55 (rgw _) c51.1 c51.2 ?_
          refine r_n (pc1 := 535) [.ref 0, .int (J ((sc.2 (wr (x1 + 3)).toNat).toInt)), .int (J ((sc.2 (wr (x1 + 2)).toNat).toInt)), .int (J ((sc.2 (wr (x1 + 1)).toNat).toInt)), rv 437] _ rfl rfl ?_
          refine r_n (pc1 := 537) [.int (J x1), .ref 0, .int (J ((sc.2 (wr (x1 + 3)).toNat).toInt)), .int (J ((sc.2 (wr (x1 + 2)).toNat).toInt)), .int (J ((sc.2 (wr (x1 + 1)).toNat).toInt)), rv 437] _ rfl rfl ?_
          refine r_n (pc1 := 538) [.int (J 4), .int (J x1), .ref 0, .int (J ((sc.2 (wr (x1 + 3)).toNat).toInt)), .int (J ((sc.2 (wr (x1 + 2)).toNat).toInt)), .int (J ((sc.2 (wr (x1 + 1)).toNat).toInt)), rv 437] _ rfl rfl ?_
          refine r_iadd (pc1 := 539) rfl rfl ?_
          refine r_sal (pc1 := 540) rfl rfl t55 (rgw _) c52.1 c52.2 ?_
          refine r_n (pc1 := 541) [.ref 0, .int (J ((sc.2 (wr (x1 + 4)).toNat).toInt)), .int (J ((sc.2 (wr (x1 + 3)).toNat).toInt)), .int (J ((sc.2 (wr (x1 + 2)).toNat).toInt)), .int (J ((sc.2 (wr (x1 + 1)).toNat).toInt)), rv 437] _ rfl rfl ?_
          refine r_n (pc1 := 543) [.int (J x1), .ref 0, .int (J ((sc.2 (wr (x1 + 4)).toNat).toInt)), .int (J ((sc.2 (wr (x1 + 3)).toNat).toInt)), .int (J ((sc.2 (wr (x1 + 2)).toNat).toInt)), .int (J ((sc.2 (wr (x1 + 1)).toNat).toInt)), rv 437] _ rfl rfl ?_
          refine r_n (pc1 := 544) [.int (J 5), .int (J x1), .ref 0, .int (J ((sc.2 (wr (x1 + 4)).toNat).toInt)), .int (J ((sc.2 (wr (x1 + 3)).toNat).toInt)), .int (J ((sc.2 (wr (x1 + 2)).toNat).toInt)), .int (J ((sc.2 (wr (x1 + 1)).toNat).toInt)), rv 437] _ rfl rfl ?_
          refine r_iadd (pc1 := 545) rfl rfl ?_
          refine r_sal (pc1 := 546) rfl rfl t55 (rgw _) c53.1 c53.2 ?_
          refine r_iv rfl rfl rfl rfl rfl rfl t55 (lyk t55 rfl) rfl (xe_of (xa_r (xa_i (xa_i (xa_i (xa_i (xa_i xa_0)))))) rfl rfl) (r_d0 hd rfl) (a_X14_version ((sc.2 (wr (x1 + 1)).toNat).toInt) ((sc.2 (wr (x1 + 2)).toNat).toInt) ((sc.2 (wr (x1 + 3)).toNat).toInt) ((sc.2 (wr (x1 + 4)).toNat).toInt) ((sc.2 (wr (x1 + 5)).toNat).toInt) (r_d1 hd rfl) (rgt _) (rgt _) (rgt _) (rgt _) (rgt _) w t55 (fun x56 h57 t57 u57 rx56 w => ?_))
          refine r_fI (pc1 := 549) rfl ?_
          have s57 := HX_trans s55 u57
          have w := w t57 u57
          have w := w rx56
          refine r_ist (pc1 := 551) (ls1 := [some (.ref 0), some (rv 2), some (rv 437), some (rv 467), some (.int (J x1)), some (.int (J x54)), some (.int (J x56)), d4, d5]) rfl rfl rfl rfl ?_
          refine r_aldn (pc1 := 552) rfl rfl rfl ?_
          refine r_iv rfl rfl rfl rfl rfl rfl t57 (lyk t57 rfl) rfl (xe_of (xa_r xa_0) rfl rfl) (r_d0 hd rfl) (a_X14_thrown  (r_d1 hd rfl)  w t57 (fun x58 rx58 w => ?_))
          refine r_fI (pc1 := 555) rfl ?_
          have w := w rx58
          refine r_n (pc1 := 557) [.int (J x54), .int (J x58)] _ rfl rfl ?_
          refine r_ic (t := 562) (pc1 := 560) rfl rfl rfl rx58 rx54 (fun c62 => ?_) (fun c62 => ?_)
          · have w := w.1 c62
            refine r_n (pc1 := 564) [.int (J x54)] _ rfl rfl ?_
            obtain ⟨J59, j59, w⟩ := w
            have Q59 : J59 → RR sc goal fs 0 579 [some (.ref 0), some (rv 2), some (rv 437), some (rv 467), some (.int (J x1)), some (.int (J x54)), some (.int (J x56)), d4, d5] [] h57 := by
              intro z59
              have w := j59 z59
              refine r_goto (t := 3466) rfl rfl ?_
              exact Q14 _ _ _ _  h57 t57 s57  w
            refine r_iz (t := 579) (pc1 := 567) rfl rfl rfl rx54 (fun c61 => ?_) (fun c61 => ?_)
            · have w := w.1 c61
              exact Q59     w
            · have w := w.2 c61
              refine r_aldn (pc1 := 568) rfl rfl rfl ?_
              refine r_n (pc1 := 569) [.int (J 0), rv 467] _ rfl rfl ?_
              refine r_lal (pc1 := 570) rfl rfl t57 (lyk t57 rfl) (rgk rfl) (by decide) (lt_len (lyn t57 rfl) (by decide)) ?_
              refine r_n (pc1 := 572) [.int (J x56), .long (G (hL h57 467 0))] _ rfl rfl ?_
              refine r_i2l (pc1 := 573) rfl rfl ?_
              refine r_lc (pc2 := 574) (t := 579) (pc1 := 577) rfl rfl rfl rfl rfl (fun c60 => ?_) (fun c60 => ?_)
              · have w := w.1 c60
                exact Q59     w
              · have w := w.2 c60
                refine r_n (pc1 := 578) [.int (J 0)] _ rfl rfl ?_
                exact r_retB rfl rfl rfl (.inl rfl) (k _ _ t57 s57 (rgk rfl) (.inl rfl) w)
          · have w := w.2 c62
            refine r_n (pc1 := 561) [.int (J 0)] _ rfl rfl ?_
            exact r_retB rfl rfl rfl (.inl rfl) (k _ _ t57 s57 (rgk rfl) (.inl rfl) w)
        · have w := w.2.2.2.2.2.1 c16
          refine r_aldn (pc1 := 583) rfl rfl rfl ?_
          refine r_n (pc1 := 584) [.ref 0, rv 2] _ rfl rfl ?_
          refine r_n (pc1 := 586) [.int (J x1), .ref 0, rv 2] _ rfl rfl ?_
          refine r_n (pc1 := 587) [.int (J 1), .int (J x1), .ref 0, rv 2] _ rfl rfl ?_
          refine r_iadd (pc1 := 588) rfl rfl ?_
          obtain ⟨c63, w⟩ := w
          refine r_sal (pc1 := 589) rfl rfl t6 (rgw _) c63.1 c63.2 ?_
          refine r_n (pc1 := 590) [.ref 0, .int (J ((sc.2 (wr (x1 + 1)).toNat).toInt)), rv 2] _ rfl rfl ?_
          refine r_n (pc1 := 592) [.int (J x1), .ref 0, .int (J ((sc.2 (wr (x1 + 1)).toNat).toInt)), rv 2] _ rfl rfl ?_
          refine r_n (pc1 := 593) [.int (J 2), .int (J x1), .ref 0, .int (J ((sc.2 (wr (x1 + 1)).toNat).toInt)), rv 2] _ rfl rfl ?_
          refine r_iadd (pc1 := 594) rfl rfl ?_
          obtain ⟨c64, w⟩ := w
          refine r_sal (pc1 := 595) rfl rfl t6 (rgw _) c64.1 c64.2 ?_
          refine r_n (pc1 := 596) [.ref 0, .int (J ((sc.2 (wr (x1 + 2)).toNat).toInt)), .int (J ((sc.2 (wr (x1 + 1)).toNat).toInt)), rv 2] _ rfl rfl ?_
          refine r_n (pc1 := 598) [.int (J x1), .ref 0, .int (J ((sc.2 (wr (x1 + 2)).toNat).toInt)), .int (J ((sc.2 (wr (x1 + 1)).toNat).toInt)), rv 2] _ rfl rfl ?_
          refine r_n (pc1 := 599) [.int (J 3), .int (J x1), .ref 0, .int (J ((sc.2 (wr (x1 + 2)).toNat).toInt)), .int (J ((sc.2 (wr (x1 + 1)).toNat).toInt)), rv 2] _ rfl rfl ?_
          refine r_iadd (pc1 := 600) rfl rfl ?_
          obtain ⟨c65, w⟩ := w
          refine r_sal (pc1 := 601) rfl rfl t6 (rgw _) c65.1 c65.2 ?_
          obtain ⟨J67, j67, w⟩ := w
          have Q67 : ∀ (x66 : Int), rg x66 → J67 x66 → RR sc goal fs 0 609 [some (.ref 0), some (rv 2), some (rv 437), some (rv 467), some (.int (J x1)), d2, d3, d4, d5] [.int (J x66), .int (J ((sc.2 (wr (x1 + 2)).toNat).toInt)), .int (J ((sc.2 (wr (x1 + 1)).toNat).toInt)), rv 2] h6 := by
            intro x66 rx66 z67
            have w := j67 x66 rx66 z67
            refine r_aldn (pc1 := 610) rfl rfl rfl ?_
            refine r_iq rfl rfl rfl rfl rfl rfl (xe_of (xa_r (xa_i (xa_i (xa_i (xa_r xa_0))))) rfl rfl) (r_d0 hd rfl) (a_L_need ((sc.2 (wr (x1 + 1)).toNat).toInt) ((sc.2 (wr (x1 + 2)).toNat).toInt) x66 (r_d1 hd rfl) (rgt _) (rgt _) rx66 w t6 (fun x68 h69 t69 u69 rx68 w => ?_))
            refine r_fI (pc1 := 613) rfl ?_
            have s69 := HX_trans s6 u69
            have w := w t69 u69
            have w := w rx68
            refine r_ist (pc1 := 615) (ls1 := [some (.ref 0), some (rv 2), some (rv 437), some (rv 467), some (.int (J x1)), some (.int (J x68)), d3, d4, d5]) rfl rfl rfl rfl ?_
            refine r_aldn (pc1 := 616) rfl rfl rfl ?_
            refine r_n (pc1 := 617) [.ref 0, rv 437] _ rfl rfl ?_
            refine r_n (pc1 := 619) [.int (J x1), .ref 0, rv 437] _ rfl rfl ?_
            refine r_n (pc1 := 620) [.int (J 1), .int (J x1), .ref 0, rv 437] _ rfl rfl ?_
            refine r_iadd (pc1 := 621) rfl rfl ?_
            refine r_sal (pc1 := 622) rfl rfl t69 (rgw _) c63.1 c63.2 ?_
            refine r_n (pc1 := 623) [.ref 0, .int (J ((sc.2 (wr (x1 + 1)).toNat).toInt)), rv 437] _ rfl rfl ?_
            refine r_n (pc1 := 625) [.int (J x1), .ref 0, .int (J ((sc.2 (wr (x1 + 1)).toNat).toInt)), rv 437] _ rfl rfl ?_
            refine r_n (pc1 := 626) [.int (J 2), .int (J x1), .ref 0, .int (J ((sc.2 (wr (x1 + 1)).toNat).toInt)), rv 437] _ rfl rfl ?_
            refine r_iadd (pc1 := 627) rfl rfl ?_
            refine r_sal (pc1 := 628) rfl rfl t69 (rgw _) c64.1 c64.2 ?_
            refine r_n (pc1 := 629) [.ref 0, .int (J ((sc.2 (wr (x1 + 2)).toNat).toInt)), .int (J ((sc.2 (wr (x1 + 1)).toNat).toInt)), rv 437] _ rfl rfl ?_
            refine r_n (pc1 := 631) [.int (J x1), .ref 0, .int (J ((sc.2 (wr (x1 + 2)).toNat).toInt)), .int (J ((sc.2 (wr (x1 + 1)).toNat).toInt)), rv 437] _ rfl rfl ?_
            refine r_n (pc1 := 632) [.int (J 3), .int (J x1), .ref 0, .int (J ((sc.2 (wr (x1 + 2)).toNat).toInt)), .int (J ((sc.2 (wr (x1 + 1)).toNat).toInt)), rv 437] _ rfl rfl ?_
            refine r_iadd (pc1 := 633) rfl rfl ?_
            refine r_sal (pc1 := 634) rfl rfl t69 (rgw _) c65.1 c65.2 ?_
            obtain ⟨J71, j71, w⟩ := w
            have Q71 : ∀ (x70 : Int), rg x70 → J71 x70 → RR sc goal fs 0 642 [some (.ref 0), some (rv 2), some (rv 437), some (rv 467), some (.int (J x1)), some (.int (J x68)), d3, d4, d5] [.int (J x70), .int (J ((sc.2 (wr (x1 + 2)).toNat).toInt)), .int (J ((sc.2 (wr (x1 + 1)).toNat).toInt)), rv 437] h69 := by
              intro x70 rx70 z71
              have w := j71 x70 rx70 z71
              refine r_iv rfl rfl rfl rfl rfl rfl t69 (lyk t69 rfl) rfl (xe_of (xa_r (xa_i (xa_i (xa_i xa_0)))) rfl rfl) (r_d0 hd rfl) (a_X14_need ((sc.2 (wr (x1 + 1)).toNat).toInt) ((sc.2 (wr (x1 + 2)).toNat).toInt) x70 (r_d1 hd rfl) (rgt _) (rgt _) rx70 w t69 (fun x72 h73 t73 u73 rx72 w => ?_))
              refine r_fI (pc1 := 645) rfl ?_
              have s73 := HX_trans s69 u73
              have w := w t73 u73
              have w := w rx72
              refine r_ist (pc1 := 647) (ls1 := [some (.ref 0), some (rv 2), some (rv 437), some (rv 467), some (.int (J x1)), some (.int (J x68)), some (.int (J x72)), d4, d5]) rfl rfl rfl rfl ?_
              refine r_aldn (pc1 := 648) rfl rfl rfl ?_
              refine r_iv rfl rfl rfl rfl rfl rfl t73 (lyk t73 rfl) rfl (xe_of (xa_r xa_0) rfl rfl) (r_d0 hd rfl) (a_X14_thrown  (r_d1 hd rfl)  w t73 (fun x74 rx74 w => ?_))
              refine r_fI (pc1 := 651) rfl ?_
              have w := w rx74
              refine r_n (pc1 := 653) [.int (J x68), .int (J x74)] _ rfl rfl ?_
              refine r_ic (t := 658) (pc1 := 656) rfl rfl rfl rx74 rx68 (fun c78 => ?_) (fun c78 => ?_)
              · have w := w.1 c78
                refine r_n (pc1 := 660) [.int (J x68)] _ rfl rfl ?_
                obtain ⟨J75, j75, w⟩ := w
                have Q75 : J75 → RR sc goal fs 0 675 [some (.ref 0), some (rv 2), some (rv 437), some (rv 467), some (.int (J x1)), some (.int (J x68)), some (.int (J x72)), d4, d5] [] h73 := by
                  intro z75
                  have w := j75 z75
                  refine r_goto (t := 3466) rfl rfl ?_
                  exact Q14 _ _ _ _  h73 t73 s73  w
                refine r_iz (t := 675) (pc1 := 663) rfl rfl rfl rx68 (fun c77 => ?_) (fun c77 => ?_)
                · have w := w.1 c77
                  exact Q75     w
                · have w := w.2 c77
                  refine r_aldn (pc1 := 664) rfl rfl rfl ?_
                  refine r_n (pc1 := 665) [.int (J 0), rv 467] _ rfl rfl ?_
                  refine r_lal (pc1 := 666) rfl rfl t73 (lyk t73 rfl) (rgk rfl) (by decide) (lt_len (lyn t73 rfl) (by decide)) ?_
                  refine r_n (pc1 := 668) [.int (J x72), .long (G (hL h73 467 0))] _ rfl rfl ?_
                  refine r_i2l (pc1 := 669) rfl rfl ?_
                  refine r_lc (pc2 := 670) (t := 675) (pc1 := 673) rfl rfl rfl rfl rfl (fun c76 => ?_) (fun c76 => ?_)
                  · have w := w.1 c76
                    exact Q75     w
                  · have w := w.2 c76
                    refine r_n (pc1 := 674) [.int (J 0)] _ rfl rfl ?_
                    exact r_retB rfl rfl rfl (.inl rfl) (k _ _ t73 s73 (rgk rfl) (.inl rfl) w)
              · have w := w.2 c78
                refine r_n (pc1 := 657) [.int (J 0)] _ rfl rfl ?_
                exact r_retB rfl rfl rfl (.inl rfl) (k _ _ t73 s73 (rgk rfl) (.inl rfl) w)
            refine r_iz (t := 641) (pc1 := 637) rfl rfl rfl (rgt _) (fun c79 => ?_) (fun c79 => ?_)
            · have w := w.1 c79
              refine r_n (pc1 := 642) [.int (J 0), .int (J ((sc.2 (wr (x1 + 2)).toNat).toInt)), .int (J ((sc.2 (wr (x1 + 1)).toNat).toInt)), rv 437] _ rfl rfl ?_
              exact Q71  0  (rgk rfl) w
            · have w := w.2 c79
              refine r_n (pc1 := 638) [.int (J 1), .int (J ((sc.2 (wr (x1 + 2)).toNat).toInt)), .int (J ((sc.2 (wr (x1 + 1)).toNat).toInt)), rv 437] _ rfl rfl ?_
              refine r_goto (t := 642) rfl rfl ?_
              exact Q71  1  (rgk rfl) w
          refine r_iz (t := 608) (pc1 := 604) rfl rfl rfl (rgt _) (fun c80 => ?_) (fun c80 => ?_)
          · have w := w.1 c80
            refine r_n (pc1 := 609) [.int (J 0), .int (J ((sc.2 (wr (x1 + 2)).toNat).toInt)), .int (J ((sc.2 (wr (x1 + 1)).toNat).toInt)), rv 2] _ rfl rfl ?_
            exact Q67  0  (rgk rfl) w
          · have w := w.2 c80
            refine r_n (pc1 := 605) [.int (J 1), .int (J ((sc.2 (wr (x1 + 2)).toNat).toInt)), .int (J ((sc.2 (wr (x1 + 1)).toNat).toInt)), rv 2] _ rfl rfl ?_
            refine r_goto (t := 609) rfl rfl ?_
            exact Q67  1  (rgk rfl) w
        · have w := w.2.2.2.2.2.2.1 c16
          refine r_aldn (pc1 := 679) rfl rfl rfl ?_
          refine r_n (pc1 := 680) [.ref 0, rv 2] _ rfl rfl ?_
          refine r_n (pc1 := 682) [.int (J x1), .ref 0, rv 2] _ rfl rfl ?_
          refine r_n (pc1 := 683) [.int (J 1), .int (J x1), .ref 0, rv 2] _ rfl rfl ?_
          refine r_iadd (pc1 := 684) rfl rfl ?_
          obtain ⟨c81, w⟩ := w
          refine r_sal (pc1 := 685) rfl rfl t6 (rgw _) c81.1 c81.2 ?_
          refine r_n (pc1 := 686) [.ref 0, .int (J ((sc.2 (wr (x1 + 1)).toNat).toInt)), rv 2] _ rfl rfl ?_
          refine r_n (pc1 := 688) [.int (J x1), .ref 0, .int (J ((sc.2 (wr (x1 + 1)).toNat).toInt)), rv 2] _ rfl rfl ?_
          refine r_n (pc1 := 689) [.int (J 2), .int (J x1), .ref 0, .int (J ((sc.2 (wr (x1 + 1)).toNat).toInt)), rv 2] _ rfl rfl ?_
          refine r_iadd (pc1 := 690) rfl rfl ?_
          obtain ⟨c82, w⟩ := w
          refine r_sal (pc1 := 691) rfl rfl t6 (rgw _) c82.1 c82.2 ?_
          refine r_aldn (pc1 := 692) rfl rfl rfl ?_
          refine r_iq rfl rfl rfl rfl rfl rfl (xe_of (xa_r (xa_i (xa_i (xa_r xa_0)))) rfl rfl) (r_d0 hd rfl) (a_L_ban ((sc.2 (wr (x1 + 1)).toNat).toInt) ((sc.2 (wr (x1 + 2)).toNat).toInt) (r_d1 hd rfl) (rgt _) (rgt _) w t6 (fun x83 h84 t84 u84 rx83 w => ?_))
          refine r_fI (pc1 := 695) rfl ?_
          have s84 := HX_trans s6 u84
          have w := w t84 u84
          have w := w rx83
          refine r_ist (pc1 := 697) (ls1 := [some (.ref 0), some (rv 2), some (rv 437), some (rv 467), some (.int (J x1)), some (.int (J x83)), d3, d4, d5]) rfl rfl rfl rfl ?_
          refine r_aldn (pc1 := 698) rfl rfl rfl ?_
          refine r_n (pc1 := 699) [.ref 0, rv 437] _ rfl rfl ?_
          refine r_n (pc1 := 701) [.int (J x1), .ref 0, rv 437] _ rfl rfl ?_
          refine r_n (pc1 := 702) [.int (J 1), .int (J x1), .ref 0, rv 437] _ rfl rfl ?_
          refine r_iadd (pc1 := 703) rfl rfl ?_
          refine r_sal (pc1 := 704) rfl rfl t84 (rgw _) c81.1 c81.2 ?_
          refine r_n (pc1 := 705) [.ref 0, .int (J ((sc.2 (wr (x1 + 1)).toNat).toInt)), rv 437] _ rfl rfl ?_
          refine r_n (pc1 := 707) [.int (J x1), .ref 0, .int (J ((sc.2 (wr (x1 + 1)).toNat).toInt)), rv 437] _ rfl rfl ?_
          refine r_n (pc1 := 708) [.int (J 2), .int (J x1), .ref 0, .int (J ((sc.2 (wr (x1 + 1)).toNat).toInt)), rv 437] _ rfl rfl ?_
          refine r_iadd (pc1 := 709) rfl rfl ?_
          refine r_sal (pc1 := 710) rfl rfl t84 (rgw _) c82.1 c82.2 ?_
          refine r_iv rfl rfl rfl rfl rfl rfl t84 (lyk t84 rfl) rfl (xe_of (xa_r (xa_i (xa_i xa_0))) rfl rfl) (r_d0 hd rfl) (a_X14_ban ((sc.2 (wr (x1 + 1)).toNat).toInt) ((sc.2 (wr (x1 + 2)).toNat).toInt) (r_d1 hd rfl) (rgt _) (rgt _) w t84 (fun x85 h86 t86 u86 rx85 w => ?_))
          refine r_fI (pc1 := 713) rfl ?_
          have s86 := HX_trans s84 u86
          have w := w t86 u86
          have w := w rx85
          refine r_ist (pc1 := 715) (ls1 := [some (.ref 0), some (rv 2), some (rv 437), some (rv 467), some (.int (J x1)), some (.int (J x83)), some (.int (J x85)), d4, d5]) rfl rfl rfl rfl ?_
          refine r_aldn (pc1 := 716) rfl rfl rfl ?_
          refine r_iv rfl rfl rfl rfl rfl rfl t86 (lyk t86 rfl) rfl (xe_of (xa_r xa_0) rfl rfl) (r_d0 hd rfl) (a_X14_thrown  (r_d1 hd rfl)  w t86 (fun x87 rx87 w => ?_))
          refine r_fI (pc1 := 719) rfl ?_
          have w := w rx87
          refine r_n (pc1 := 721) [.int (J x83), .int (J x87)] _ rfl rfl ?_
          refine r_ic (t := 726) (pc1 := 724) rfl rfl rfl rx87 rx83 (fun c91 => ?_) (fun c91 => ?_)
          · have w := w.1 c91
            refine r_n (pc1 := 728) [.int (J x83)] _ rfl rfl ?_
            obtain ⟨J88, j88, w⟩ := w
            have Q88 : J88 → RR sc goal fs 0 743 [some (.ref 0), some (rv 2), some (rv 437), some (rv 467), some (.int (J x1)), some (.int (J x83)), some (.int (J x85)), d4, d5] [] h86 := by
              intro z88
              have w := j88 z88
              refine r_goto (t := 3466) rfl rfl ?_
              exact Q14 _ _ _ _  h86 t86 s86  w
            refine r_iz (t := 743) (pc1 := 731) rfl rfl rfl rx83 (fun c90 => ?_) (fun c90 => ?_)
            · have w := w.1 c90
              exact Q88     w
            · have w := w.2 c90
              refine r_aldn (pc1 := 732) rfl rfl rfl ?_
              refine r_n (pc1 := 733) [.int (J 0), rv 467] _ rfl rfl ?_
              refine r_lal (pc1 := 734) rfl rfl t86 (lyk t86 rfl) (rgk rfl) (by decide) (lt_len (lyn t86 rfl) (by decide)) ?_
              refine r_n (pc1 := 736) [.int (J x85), .long (G (hL h86 467 0))] _ rfl rfl ?_
              refine r_i2l (pc1 := 737) rfl rfl ?_
              refine r_lc (pc2 := 738) (t := 743) (pc1 := 741) rfl rfl rfl rfl rfl (fun c89 => ?_) (fun c89 => ?_)
              · have w := w.1 c89
                exact Q88     w
              · have w := w.2 c89
                refine r_n (pc1 := 742) [.int (J 0)] _ rfl rfl ?_
                exact r_retB rfl rfl rfl (.inl rfl) (k _ _ t86 s86 (rgk rfl) (.inl rfl) w)
          · have w := w.2 c91
            refine r_n (pc1 := 725) [.int (J 0)] _ rfl rfl ?_
            exact r_retB rfl rfl rfl (.inl rfl) (k _ _ t86 s86 (rgk rfl) (.inl rfl) w)
        · have w := w.2.2.2.2.2.2.2.1 c16
          refine r_aldn (pc1 := 747) rfl rfl rfl ?_
          refine r_n (pc1 := 748) [.ref 0, rv 2] _ rfl rfl ?_
          refine r_n (pc1 := 750) [.int (J x1), .ref 0, rv 2] _ rfl rfl ?_
          refine r_n (pc1 := 751) [.int (J 1), .int (J x1), .ref 0, rv 2] _ rfl rfl ?_
          refine r_iadd (pc1 := 752) rfl rfl ?_
          obtain ⟨c92, w⟩ := w
          refine r_sal (pc1 := 753) rfl rfl t6 (rgw _) c92.1 c92.2 ?_
          refine r_n (pc1 := 754) [.ref 0, .int (J ((sc.2 (wr (x1 + 1)).toNat).toInt)), rv 2] _ rfl rfl ?_
          refine r_n (pc1 := 756) [.int (J x1), .ref 0, .int (J ((sc.2 (wr (x1 + 1)).toNat).toInt)), rv 2] _ rfl rfl ?_
          refine r_n (pc1 := 757) [.int (J 2), .int (J x1), .ref 0, .int (J ((sc.2 (wr (x1 + 1)).toNat).toInt)), rv 2] _ rfl rfl ?_
          refine r_iadd (pc1 := 758) rfl rfl ?_
          obtain ⟨c93, w⟩ := w
          refine r_sal (pc1 := 759) rfl rfl t6 (rgw _) c93.1 c93.2 ?_
          refine r_n (pc1 := 760) [.ref 0, .int (J ((sc.2 (wr (x1 + 2)).toNat).toInt)), .int (J ((sc.2 (wr (x1 + 1)).toNat).toInt)), rv 2] _ rfl rfl ?_
          refine r_n (pc1 := 762) [.int (J x1), .ref 0, .int (J ((sc.2 (wr (x1 + 2)).toNat).toInt)), .int (J ((sc.2 (wr (x1 + 1)).toNat).toInt)), rv 2] _ rfl rfl ?_
          refine r_n (pc1 := 763) [.int (J 3), .int (J x1), .ref 0, .int (J ((sc.2 (wr (x1 + 2)).toNat).toInt)), .int (J ((sc.2 (wr (x1 + 1)).toNat).toInt)), rv 2] _ rfl rfl ?_
          refine r_iadd (pc1 := 764) rfl rfl ?_
          obtain ⟨c94, w⟩ := w
          refine r_sal (pc1 := 765) rfl rfl t6 (rgw _) c94.1 c94.2 ?_
          refine r_n (pc1 := 766) [.ref 0, .int (J ((sc.2 (wr (x1 + 3)).toNat).toInt)), .int (J ((sc.2 (wr (x1 + 2)).toNat).toInt)), .int (J ((sc.2 (wr (x1 + 1)).toNat).toInt)), rv 2] _ rfl rfl ?_
          refine r_n (pc1 := 768) [.int (J x1), .ref 0, .int (J ((sc.2 (wr (x1 + 3)).toNat).toInt)), .int (J ((sc.2 (wr (x1 + 2)).toNat).toInt)), .int (J ((sc.2 (wr (x1 + 1)).toNat).toInt)), rv 2] _ rfl rfl ?_
          refine r_n (pc1 := 769) [.int (J 4), .int (J x1), .ref 0, .int (J ((sc.2 (wr (x1 + 3)).toNat).toInt)), .int (J ((sc.2 (wr (x1 + 2)).toNat).toInt)), .int (J ((sc.2 (wr (x1 + 1)).toNat).toInt)), rv 2] _ rfl rfl ?_
          refine r_iadd (pc1 := 770) rfl rfl ?_
          obtain ⟨c95, w⟩ := w
          refine r_sal (pc1 := 771) rfl rfl t6 (rgw _) c95.1 c95.2 ?_
          refine r_aldn (pc1 := 772) rfl rfl rfl ?_
          refine r_iq rfl rfl rfl rfl rfl rfl (xe_of (xa_r (xa_i (xa_i (xa_i (xa_i (xa_r xa_0)))))) rfl rfl) (r_d0 hd rfl) (a_L_provide ((sc.2 (wr (x1 + 1)).toNat).toInt) ((sc.2 (wr (x1 + 2)).toNat).toInt) ((sc.2 (wr (x1 + 3)).toNat).toInt) ((sc.2 (wr (x1 + 4)).toNat).toInt) (r_d1 hd rfl) (rgt _) (rgt _) (rgt _) (rgt _) w t6 (fun x96 h97 t97 u97 rx96 w => ?_))
          refine r_fI (pc1 := 775) rfl ?_
          have s97 := HX_trans s6 u97
          have w := w t97 u97
          have w := w rx96
          refine r_ist (pc1 := 777) (ls1 := [some (.ref 0), some (rv 2), some (rv 437), some (rv 467), some (.int (J x1)), some (.int (J x96)), d3, d4, d5]) rfl rfl rfl rfl ?_
          refine r_aldn (pc1 := 778) rfl rfl rfl ?_
          refine r_n (pc1 := 779) [.ref 0, rv 437] _ rfl rfl ?_
          refine r_n (pc1 := 781) [.int (J x1), .ref 0, rv 437] _ rfl rfl ?_
          refine r_n (pc1 := 782) [.int (J 1), .int (J x1), .ref 0, rv 437] _ rfl rfl ?_
          refine r_iadd (pc1 := 783) rfl rfl ?_
          refine r_sal (pc1 := 784) rfl rfl t97 (rgw _) c92.1 c92.2 ?_
          refine r_n (pc1 := 785) [.ref 0, .int (J ((sc.2 (wr (x1 + 1)).toNat).toInt)), rv 437] _ rfl rfl ?_
          refine r_n (pc1 := 787) [.int (J x1), .ref 0, .int (J ((sc.2 (wr (x1 + 1)).toNat).toInt)), rv 437] _ rfl rfl ?_
          refine r_n (pc1 := 788) [.int (J 2), .int (J x1), .ref 0, .int (J ((sc.2 (wr (x1 + 1)).toNat).toInt)), rv 437] _ rfl rfl ?_
          refine r_iadd (pc1 := 789) rfl rfl ?_
          refine r_sal (pc1 := 790) rfl rfl t97 (rgw _) c93.1 c93.2 ?_
          refine r_n (pc1 := 791) [.ref 0, .int (J ((sc.2 (wr (x1 + 2)).toNat).toInt)), .int (J ((sc.2 (wr (x1 + 1)).toNat).toInt)), rv 437] _ rfl rfl ?_
          refine r_n (pc1 := 793) [.int (J x1), .ref 0, .int (J ((sc.2 (wr (x1 + 2)).toNat).toInt)), .int (J ((sc.2 (wr (x1 + 1)).toNat).toInt)), rv 437] _ rfl rfl ?_
          refine r_n (pc1 := 794) [.int (J 3), .int (J x1), .ref 0, .int (J ((sc.2 (wr (x1 + 2)).toNat).toInt)), .int (J ((sc.2 (wr (x1 + 1)).toNat).toInt)), rv 437] _ rfl rfl ?_
          refine r_iadd (pc1 := 795) rfl rfl ?_
          refine r_sal (pc1 := 796) rfl rfl t97 (rgw _) c94.1 c94.2 ?_
          refine r_n (pc1 := 797) [.ref 0, .int (J ((sc.2 (wr (x1 + 3)).toNat).toInt)), .int (J ((sc.2 (wr (x1 + 2)).toNat).toInt)), .int (J ((sc.2 (wr (x1 + 1)).toNat).toInt)), rv 437] _ rfl rfl ?_
          refine r_n (pc1 := 799) [.int (J x1), .ref 0, .int (J ((sc.2 (wr (x1 + 3)).toNat).toInt)), .int (J ((sc.2 (wr (x1 + 2)).toNat).toInt)), .int (J ((sc.2 (wr (x1 + 1)).toNat).toInt)), rv 437] _ rfl rfl ?_
          refine r_n (pc1 := 800) [.int (J 4), .int (J x1), .ref 0, .int (J ((sc.2 (wr (x1 + 3)).toNat).toInt)), .int (J ((sc.2 (wr (x1 + 2)).toNat).toInt)), .int (J ((sc.2 (wr (x1 + 1)).toNat).toInt)), rv 437] _ rfl rfl ?_
          refine r_iadd (pc1 := 801) rfl rfl ?_
          refine r_sal (pc1 := 802) rfl rfl t97 (rgw _) c95.1 c95.2 ?_
          refine r_iv rfl rfl rfl rfl rfl rfl t97 (lyk t97 rfl) rfl (xe_of (xa_r (xa_i (xa_i (xa_i (xa_i xa_0))))) rfl rfl) (r_d0 hd rfl) (a_X14_provide ((sc.2 (wr (x1 + 1)).toNat).toInt) ((sc.2 (wr (x1 + 2)).toNat).toInt) ((sc.2 (wr (x1 + 3)).toNat).toInt) ((sc.2 (wr (x1 + 4)).toNat).toInt) (r_d1 hd rfl) (rgt _) (rgt _) (rgt _) (rgt _) w t97 (fun x98 h99 t99 u99 rx98 w => ?_))
          refine r_fI (pc1 := 805) rfl ?_
          have s99 := HX_trans s97 u99
          have w := w t99 u99
          have w := w rx98
          refine r_ist (pc1 := 807) (ls1 := [some (.ref 0), some (rv 2), some (rv 437), some (rv 467), some (.int (J x1)), some (.int (J x96)), some (.int (J x98)), d4, d5]) rfl rfl rfl rfl ?_
          refine r_aldn (pc1 := 808) rfl rfl rfl ?_
          refine r_iv rfl rfl rfl rfl rfl rfl t99 (lyk t99 rfl) rfl (xe_of (xa_r xa_0) rfl rfl) (r_d0 hd rfl) (a_X14_thrown  (r_d1 hd rfl)  w t99 (fun x100 rx100 w => ?_))
          refine r_fI (pc1 := 811) rfl ?_
          have w := w rx100
          refine r_n (pc1 := 813) [.int (J x96), .int (J x100)] _ rfl rfl ?_
          refine r_ic (t := 818) (pc1 := 816) rfl rfl rfl rx100 rx96 (fun c104 => ?_) (fun c104 => ?_)
          · have w := w.1 c104
            refine r_n (pc1 := 820) [.int (J x96)] _ rfl rfl ?_
            obtain ⟨J101, j101, w⟩ := w
            have Q101 : J101 → RR sc goal fs 0 835 [some (.ref 0), some (rv 2), some (rv 437), some (rv 467), some (.int (J x1)), some (.int (J x96)), some (.int (J x98)), d4, d5] [] h99 := by
              intro z101
              have w := j101 z101
              refine r_goto (t := 3466) rfl rfl ?_
              exact Q14 _ _ _ _  h99 t99 s99  w
            refine r_iz (t := 835) (pc1 := 823) rfl rfl rfl rx96 (fun c103 => ?_) (fun c103 => ?_)
            · have w := w.1 c103
              exact Q101     w
            · have w := w.2 c103
              refine r_aldn (pc1 := 824) rfl rfl rfl ?_
              refine r_n (pc1 := 825) [.int (J 0), rv 467] _ rfl rfl ?_
              refine r_lal (pc1 := 826) rfl rfl t99 (lyk t99 rfl) (rgk rfl) (by decide) (lt_len (lyn t99 rfl) (by decide)) ?_
              refine r_n (pc1 := 828) [.int (J x98), .long (G (hL h99 467 0))] _ rfl rfl ?_
              refine r_i2l (pc1 := 829) rfl rfl ?_
              refine r_lc (pc2 := 830) (t := 835) (pc1 := 833) rfl rfl rfl rfl rfl (fun c102 => ?_) (fun c102 => ?_)
              · have w := w.1 c102
                exact Q101     w
              · have w := w.2 c102
                refine r_n (pc1 := 834) [.int (J 0)] _ rfl rfl ?_
                exact r_retB rfl rfl rfl (.inl rfl) (k _ _ t99 s99 (rgk rfl) (.inl rfl) w)
          · have w := w.2 c104
            refine r_n (pc1 := 817) [.int (J 0)] _ rfl rfl ?_
            exact r_retB rfl rfl rfl (.inl rfl) (k _ _ t99 s99 (rgk rfl) (.inl rfl) w)
        · have w := w.2.2.2.2.2.2.2.2.1 c16
          refine r_aldn (pc1 := 839) rfl rfl rfl ?_
          refine r_n (pc1 := 840) [.ref 0, rv 2] _ rfl rfl ?_
          refine r_n (pc1 := 842) [.int (J x1), .ref 0, rv 2] _ rfl rfl ?_
          refine r_n (pc1 := 843) [.int (J 1), .int (J x1), .ref 0, rv 2] _ rfl rfl ?_
          refine r_iadd (pc1 := 844) rfl rfl ?_
          obtain ⟨c105, w⟩ := w
          refine r_sal (pc1 := 845) rfl rfl t6 (rgw _) c105.1 c105.2 ?_
          refine r_n (pc1 := 846) [.ref 0, .int (J ((sc.2 (wr (x1 + 1)).toNat).toInt)), rv 2] _ rfl rfl ?_
          refine r_n (pc1 := 848) [.int (J x1), .ref 0, .int (J ((sc.2 (wr (x1 + 1)).toNat).toInt)), rv 2] _ rfl rfl ?_
          refine r_n (pc1 := 849) [.int (J 2), .int (J x1), .ref 0, .int (J ((sc.2 (wr (x1 + 1)).toNat).toInt)), rv 2] _ rfl rfl ?_
          refine r_iadd (pc1 := 850) rfl rfl ?_
          obtain ⟨c106, w⟩ := w
          refine r_sal (pc1 := 851) rfl rfl t6 (rgw _) c106.1 c106.2 ?_
          refine r_aldn (pc1 := 852) rfl rfl rfl ?_
          refine r_iq rfl rfl rfl rfl rfl rfl (xe_of (xa_r (xa_i (xa_i (xa_r xa_0)))) rfl rfl) (r_d0 hd rfl) (a_L_option ((sc.2 (wr (x1 + 1)).toNat).toInt) ((sc.2 (wr (x1 + 2)).toNat).toInt) (r_d1 hd rfl) (rgt _) (rgt _) w t6 (fun x107 h108 t108 u108 rx107 w => ?_))
          refine r_fI (pc1 := 855) rfl ?_
          have s108 := HX_trans s6 u108
          have w := w t108 u108
          have w := w rx107
          refine r_ist (pc1 := 857) (ls1 := [some (.ref 0), some (rv 2), some (rv 437), some (rv 467), some (.int (J x1)), some (.int (J x107)), d3, d4, d5]) rfl rfl rfl rfl ?_
          refine r_aldn (pc1 := 858) rfl rfl rfl ?_
          refine r_n (pc1 := 859) [.ref 0, rv 437] _ rfl rfl ?_
          refine r_n (pc1 := 861) [.int (J x1), .ref 0, rv 437] _ rfl rfl ?_
          refine r_n (pc1 := 862) [.int (J 1), .int (J x1), .ref 0, rv 437] _ rfl rfl ?_
          refine r_iadd (pc1 := 863) rfl rfl ?_
          refine r_sal (pc1 := 864) rfl rfl t108 (rgw _) c105.1 c105.2 ?_
          refine r_n (pc1 := 865) [.ref 0, .int (J ((sc.2 (wr (x1 + 1)).toNat).toInt)), rv 437] _ rfl rfl ?_
          refine r_n (pc1 := 867) [.int (J x1), .ref 0, .int (J ((sc.2 (wr (x1 + 1)).toNat).toInt)), rv 437] _ rfl rfl ?_
          refine r_n (pc1 := 868) [.int (J 2), .int (J x1), .ref 0, .int (J ((sc.2 (wr (x1 + 1)).toNat).toInt)), rv 437] _ rfl rfl ?_
          refine r_iadd (pc1 := 869) rfl rfl ?_
          refine r_sal (pc1 := 870) rfl rfl t108 (rgw _) c106.1 c106.2 ?_
          refine r_iv rfl rfl rfl rfl rfl rfl t108 (lyk t108 rfl) rfl (xe_of (xa_r (xa_i (xa_i xa_0))) rfl rfl) (r_d0 hd rfl) (a_X14_option ((sc.2 (wr (x1 + 1)).toNat).toInt) ((sc.2 (wr (x1 + 2)).toNat).toInt) (r_d1 hd rfl) (rgt _) (rgt _) w t108 (fun x109 h110 t110 u110 rx109 w => ?_))
          refine r_fI (pc1 := 873) rfl ?_
          have s110 := HX_trans s108 u110
          have w := w t110 u110
          have w := w rx109
          refine r_ist (pc1 := 875) (ls1 := [some (.ref 0), some (rv 2), some (rv 437), some (rv 467), some (.int (J x1)), some (.int (J x107)), some (.int (J x109)), d4, d5]) rfl rfl rfl rfl ?_
          refine r_aldn (pc1 := 876) rfl rfl rfl ?_
          refine r_iv rfl rfl rfl rfl rfl rfl t110 (lyk t110 rfl) rfl (xe_of (xa_r xa_0) rfl rfl) (r_d0 hd rfl) (a_X14_thrown  (r_d1 hd rfl)  w t110 (fun x111 rx111 w => ?_))
          refine r_fI (pc1 := 879) rfl ?_
          have w := w rx111
          refine r_n (pc1 := 881) [.int (J x107), .int (J x111)] _ rfl rfl ?_
          refine r_ic (t := 886) (pc1 := 884) rfl rfl rfl rx111 rx107 (fun c115 => ?_) (fun c115 => ?_)
          · have w := w.1 c115
            refine r_n (pc1 := 888) [.int (J x107)] _ rfl rfl ?_
            obtain ⟨J112, j112, w⟩ := w
            have Q112 : J112 → RR sc goal fs 0 903 [some (.ref 0), some (rv 2), some (rv 437), some (rv 467), some (.int (J x1)), some (.int (J x107)), some (.int (J x109)), d4, d5] [] h110 := by
              intro z112
              have w := j112 z112
              refine r_goto (t := 3466) rfl rfl ?_
              exact Q14 _ _ _ _  h110 t110 s110  w
            refine r_iz (t := 903) (pc1 := 891) rfl rfl rfl rx107 (fun c114 => ?_) (fun c114 => ?_)
            · have w := w.1 c114
              exact Q112     w
            · have w := w.2 c114
              refine r_aldn (pc1 := 892) rfl rfl rfl ?_
              refine r_n (pc1 := 893) [.int (J 0), rv 467] _ rfl rfl ?_
              refine r_lal (pc1 := 894) rfl rfl t110 (lyk t110 rfl) (rgk rfl) (by decide) (lt_len (lyn t110 rfl) (by decide)) ?_
              refine r_n (pc1 := 896) [.int (J x109), .long (G (hL h110 467 0))] _ rfl rfl ?_
              refine r_i2l (pc1 := 897) rfl rfl ?_
              refine r_lc (pc2 := 898) (t := 903) (pc1 := 901) rfl rfl rfl rfl rfl (fun c113 => ?_) (fun c113 => ?_)
              · have w := w.1 c113
                exact Q112     w
              · have w := w.2 c113
                refine r_n (pc1 := 902) [.int (J 0)] _ rfl rfl ?_
                exact r_retB rfl rfl rfl (.inl rfl) (k _ _ t110 s110 (rgk rfl) (.inl rfl) w)
          · have w := w.2 c115
            refine r_n (pc1 := 885) [.int (J 0)] _ rfl rfl ?_
            exact r_retB rfl rfl rfl (.inl rfl) (k _ _ t110 s110 (rgk rfl) (.inl rfl) w)
        · have w := w.2.2.2.2.2.2.2.2.2.1 c16
          refine r_aldn (pc1 := 907) rfl rfl rfl ?_
          refine r_n (pc1 := 908) [.ref 0, rv 2] _ rfl rfl ?_
          refine r_n (pc1 := 910) [.int (J x1), .ref 0, rv 2] _ rfl rfl ?_
          refine r_n (pc1 := 911) [.int (J 1), .int (J x1), .ref 0, rv 2] _ rfl rfl ?_
          refine r_iadd (pc1 := 912) rfl rfl ?_
          obtain ⟨c116, w⟩ := w
          refine r_sal (pc1 := 913) rfl rfl t6 (rgw _) c116.1 c116.2 ?_
          refine r_aldn (pc1 := 914) rfl rfl rfl ?_
          refine r_iq rfl rfl rfl rfl rfl rfl (xe_of (xa_r (xa_i (xa_r xa_0))) rfl rfl) (r_d0 hd rfl) (a_L_count ((sc.2 (wr (x1 + 1)).toNat).toInt) (r_d1 hd rfl) (rgt _) w t6 (fun x117 h118 t118 u118 rx117 w => ?_))
          refine r_fI (pc1 := 917) rfl ?_
          have s118 := HX_trans s6 u118
          have w := w t118 u118
          have w := w rx117
          refine r_ist (pc1 := 919) (ls1 := [some (.ref 0), some (rv 2), some (rv 437), some (rv 467), some (.int (J x1)), some (.int (J x117)), d3, d4, d5]) rfl rfl rfl rfl ?_
          refine r_aldn (pc1 := 920) rfl rfl rfl ?_
          refine r_n (pc1 := 921) [.ref 0, rv 437] _ rfl rfl ?_
          refine r_n (pc1 := 923) [.int (J x1), .ref 0, rv 437] _ rfl rfl ?_
          refine r_n (pc1 := 924) [.int (J 1), .int (J x1), .ref 0, rv 437] _ rfl rfl ?_
          refine r_iadd (pc1 := 925) rfl rfl ?_
          refine r_sal (pc1 := 926) rfl rfl t118 (rgw _) c116.1 c116.2 ?_
          refine r_iv rfl rfl rfl rfl rfl rfl t118 (lyk t118 rfl) rfl (xe_of (xa_r (xa_i xa_0)) rfl rfl) (r_d0 hd rfl) (a_X14_count ((sc.2 (wr (x1 + 1)).toNat).toInt) (r_d1 hd rfl) (rgt _) w t118 (fun x119 h120 t120 u120 rx119 w => ?_))
          refine r_fI (pc1 := 929) rfl ?_
          have s120 := HX_trans s118 u120
          have w := w t120 u120
          have w := w rx119
          refine r_ist (pc1 := 931) (ls1 := [some (.ref 0), some (rv 2), some (rv 437), some (rv 467), some (.int (J x1)), some (.int (J x117)), some (.int (J x119)), d4, d5]) rfl rfl rfl rfl ?_
          refine r_aldn (pc1 := 932) rfl rfl rfl ?_
          refine r_iv rfl rfl rfl rfl rfl rfl t120 (lyk t120 rfl) rfl (xe_of (xa_r xa_0) rfl rfl) (r_d0 hd rfl) (a_X14_thrown  (r_d1 hd rfl)  w t120 (fun x121 rx121 w => ?_))
          refine r_fI (pc1 := 935) rfl ?_
          have w := w rx121
          refine r_n (pc1 := 937) [.int (J x117), .int (J x121)] _ rfl rfl ?_
          refine r_ic (t := 942) (pc1 := 940) rfl rfl rfl rx121 rx117 (fun c125 => ?_) (fun c125 => ?_)
          · have w := w.1 c125
            refine r_n (pc1 := 944) [.int (J x117)] _ rfl rfl ?_
            obtain ⟨J122, j122, w⟩ := w
            have Q122 : J122 → RR sc goal fs 0 959 [some (.ref 0), some (rv 2), some (rv 437), some (rv 467), some (.int (J x1)), some (.int (J x117)), some (.int (J x119)), d4, d5] [] h120 := by
              intro z122
              have w := j122 z122
              refine r_goto (t := 3466) rfl rfl ?_
              exact Q14 _ _ _ _  h120 t120 s120  w
            refine r_iz (t := 959) (pc1 := 947) rfl rfl rfl rx117 (fun c124 => ?_) (fun c124 => ?_)
            · have w := w.1 c124
              exact Q122     w
            · have w := w.2 c124
              refine r_aldn (pc1 := 948) rfl rfl rfl ?_
              refine r_n (pc1 := 949) [.int (J 0), rv 467] _ rfl rfl ?_
              refine r_lal (pc1 := 950) rfl rfl t120 (lyk t120 rfl) (rgk rfl) (by decide) (lt_len (lyn t120 rfl) (by decide)) ?_
              refine r_n (pc1 := 952) [.int (J x119), .long (G (hL h120 467 0))] _ rfl rfl ?_
              refine r_i2l (pc1 := 953) rfl rfl ?_
              refine r_lc (pc2 := 954) (t := 959) (pc1 := 957) rfl rfl rfl rfl rfl (fun c123 => ?_) (fun c123 => ?_)
              · have w := w.1 c123
                exact Q122     w
              · have w := w.2 c123
                refine r_n (pc1 := 958) [.int (J 0)] _ rfl rfl ?_
                exact r_retB rfl rfl rfl (.inl rfl) (k _ _ t120 s120 (rgk rfl) (.inl rfl) w)
          · have w := w.2 c125
            refine r_n (pc1 := 941) [.int (J 0)] _ rfl rfl ?_
            exact r_retB rfl rfl rfl (.inl rfl) (k _ _ t120 s120 (rgk rfl) (.inl rfl) w)
        · have w := w.2.2.2.2.2.2.2.2.2.2.1 c16
          refine r_aldn (pc1 := 963) rfl rfl rfl ?_
          refine r_n (pc1 := 964) [.ref 0, rv 2] _ rfl rfl ?_
          refine r_n (pc1 := 966) [.int (J x1), .ref 0, rv 2] _ rfl rfl ?_
          refine r_n (pc1 := 967) [.int (J 1), .int (J x1), .ref 0, rv 2] _ rfl rfl ?_
          refine r_iadd (pc1 := 968) rfl rfl ?_
          obtain ⟨c126, w⟩ := w
          refine r_sal (pc1 := 969) rfl rfl t6 (rgw _) c126.1 c126.2 ?_
          refine r_aldn (pc1 := 970) rfl rfl rfl ?_
          refine r_iq rfl rfl rfl rfl rfl rfl (xe_of (xa_r (xa_i (xa_r xa_0))) rfl rfl) (r_d0 hd rfl) (a_L_versions ((sc.2 (wr (x1 + 1)).toNat).toInt) (r_d1 hd rfl) (rgt _) w t6 (fun x127 h128 t128 u128 rx127 w => ?_))
          refine r_fI (pc1 := 973) rfl ?_
          have s128 := HX_trans s6 u128
          have w := w t128 u128
          have w := w rx127
          refine r_ist (pc1 := 975) (ls1 := [some (.ref 0), some (rv 2), some (rv 437), some (rv 467), some (.int (J x1)), some (.int (J x127)), d3, d4, d5]) rfl rfl rfl rfl ?_
          refine r_aldn (pc1 := 976) rfl rfl rfl ?_
          refine r_n (pc1 := 977) [.ref 0, rv 437] _ rfl rfl ?_
          refine r_n (pc1 := 979) [.int (J x1), .ref 0, rv 437] _ rfl rfl ?_
          refine r_n (pc1 := 980) [.int (J 1), .int (J x1), .ref 0, rv 437] _ rfl rfl ?_
          refine r_iadd (pc1 := 981) rfl rfl ?_
          refine r_sal (pc1 := 982) rfl rfl t128 (rgw _) c126.1 c126.2 ?_
          refine r_iv rfl rfl rfl rfl rfl rfl t128 (lyk t128 rfl) rfl (xe_of (xa_r (xa_i xa_0)) rfl rfl) (r_d0 hd rfl) (a_X14_versions ((sc.2 (wr (x1 + 1)).toNat).toInt) (r_d1 hd rfl) (rgt _) w t128 (fun x129 h130 t130 u130 rx129 w => ?_))
          refine r_fI (pc1 := 985) rfl ?_
          have s130 := HX_trans s128 u130
          have w := w t130 u130
          have w := w rx129
          refine r_ist (pc1 := 987) (ls1 := [some (.ref 0), some (rv 2), some (rv 437), some (rv 467), some (.int (J x1)), some (.int (J x127)), some (.int (J x129)), d4, d5]) rfl rfl rfl rfl ?_
          refine r_aldn (pc1 := 988) rfl rfl rfl ?_
          refine r_iv rfl rfl rfl rfl rfl rfl t130 (lyk t130 rfl) rfl (xe_of (xa_r xa_0) rfl rfl) (r_d0 hd rfl) (a_X14_thrown  (r_d1 hd rfl)  w t130 (fun x131 rx131 w => ?_))
          refine r_fI (pc1 := 991) rfl ?_
          have w := w rx131
          refine r_n (pc1 := 993) [.int (J x127), .int (J x131)] _ rfl rfl ?_
          refine r_ic (t := 998) (pc1 := 996) rfl rfl rfl rx131 rx127 (fun c135 => ?_) (fun c135 => ?_)
          · have w := w.1 c135
            refine r_n (pc1 := 1000) [.int (J x127)] _ rfl rfl ?_
            obtain ⟨J132, j132, w⟩ := w
            have Q132 : J132 → RR sc goal fs 0 1015 [some (.ref 0), some (rv 2), some (rv 437), some (rv 467), some (.int (J x1)), some (.int (J x127)), some (.int (J x129)), d4, d5] [] h130 := by
              intro z132
              have w := j132 z132
              refine r_goto (t := 3466) rfl rfl ?_
              exact Q14 _ _ _ _  h130 t130 s130  w
            refine r_iz (t := 1015) (pc1 := 1003) rfl rfl rfl rx127 (fun c134 => ?_) (fun c134 => ?_)
            · have w := w.1 c134
              exact Q132     w
            · have w := w.2 c134
              refine r_aldn (pc1 := 1004) rfl rfl rfl ?_
              refine r_n (pc1 := 1005) [.int (J 0), rv 467] _ rfl rfl ?_
              refine r_lal (pc1 := 1006) rfl rfl t130 (lyk t130 rfl) (rgk rfl) (by decide) (lt_len (lyn t130 rfl) (by decide)) ?_
              refine r_n (pc1 := 1008) [.int (J x129), .long (G (hL h130 467 0))] _ rfl rfl ?_
              refine r_i2l (pc1 := 1009) rfl rfl ?_
              refine r_lc (pc2 := 1010) (t := 1015) (pc1 := 1013) rfl rfl rfl rfl rfl (fun c133 => ?_) (fun c133 => ?_)
              · have w := w.1 c133
                exact Q132     w
              · have w := w.2 c133
                refine r_n (pc1 := 1014) [.int (J 0)] _ rfl rfl ?_
                exact r_retB rfl rfl rfl (.inl rfl) (k _ _ t130 s130 (rgk rfl) (.inl rfl) w)
          · have w := w.2 c135
            refine r_n (pc1 := 997) [.int (J 0)] _ rfl rfl ?_
            exact r_retB rfl rfl rfl (.inl rfl) (k _ _ t130 s130 (rgk rfl) (.inl rfl) w)
        · have w := w.2.2.2.2.2.2.2.2.2.2.2.1 c16
          refine r_aldn (pc1 := 1019) rfl rfl rfl ?_
          refine r_n (pc1 := 1020) [.ref 0, rv 2] _ rfl rfl ?_
          refine r_n (pc1 := 1022) [.int (J x1), .ref 0, rv 2] _ rfl rfl ?_
          refine r_n (pc1 := 1023) [.int (J 1), .int (J x1), .ref 0, rv 2] _ rfl rfl ?_
          refine r_iadd (pc1 := 1024) rfl rfl ?_
          obtain ⟨c136, w⟩ := w
          refine r_sal (pc1 := 1025) rfl rfl t6 (rgw _) c136.1 c136.2 ?_
          refine r_n (pc1 := 1026) [.ref 0, .int (J ((sc.2 (wr (x1 + 1)).toNat).toInt)), rv 2] _ rfl rfl ?_
          refine r_n (pc1 := 1028) [.int (J x1), .ref 0, .int (J ((sc.2 (wr (x1 + 1)).toNat).toInt)), rv 2] _ rfl rfl ?_
          refine r_n (pc1 := 1029) [.int (J 2), .int (J x1), .ref 0, .int (J ((sc.2 (wr (x1 + 1)).toNat).toInt)), rv 2] _ rfl rfl ?_
          refine r_iadd (pc1 := 1030) rfl rfl ?_
          obtain ⟨c137, w⟩ := w
          refine r_sal (pc1 := 1031) rfl rfl t6 (rgw _) c137.1 c137.2 ?_
          refine r_aldn (pc1 := 1032) rfl rfl rfl ?_
          refine r_iq rfl rfl rfl rfl rfl rfl (xe_of (xa_r (xa_i (xa_i (xa_r xa_0)))) rfl rfl) (r_d0 hd rfl) (a_L_versionAt ((sc.2 (wr (x1 + 1)).toNat).toInt) ((sc.2 (wr (x1 + 2)).toNat).toInt) (r_d1 hd rfl) (rgt _) (rgt _) w t6 (fun x138 h139 t139 u139 rx138 w => ?_))
          refine r_fI (pc1 := 1035) rfl ?_
          have s139 := HX_trans s6 u139
          have w := w t139 u139
          have w := w rx138
          refine r_ist (pc1 := 1037) (ls1 := [some (.ref 0), some (rv 2), some (rv 437), some (rv 467), some (.int (J x1)), some (.int (J x138)), d3, d4, d5]) rfl rfl rfl rfl ?_
          refine r_aldn (pc1 := 1038) rfl rfl rfl ?_
          refine r_n (pc1 := 1039) [.ref 0, rv 437] _ rfl rfl ?_
          refine r_n (pc1 := 1041) [.int (J x1), .ref 0, rv 437] _ rfl rfl ?_
          refine r_n (pc1 := 1042) [.int (J 1), .int (J x1), .ref 0, rv 437] _ rfl rfl ?_
          refine r_iadd (pc1 := 1043) rfl rfl ?_
          refine r_sal (pc1 := 1044) rfl rfl t139 (rgw _) c136.1 c136.2 ?_
          refine r_n (pc1 := 1045) [.ref 0, .int (J ((sc.2 (wr (x1 + 1)).toNat).toInt)), rv 437] _ rfl rfl ?_
          refine r_n (pc1 := 1047) [.int (J x1), .ref 0, .int (J ((sc.2 (wr (x1 + 1)).toNat).toInt)), rv 437] _ rfl rfl ?_
          refine r_n (pc1 := 1048) [.int (J 2), .int (J x1), .ref 0, .int (J ((sc.2 (wr (x1 + 1)).toNat).toInt)), rv 437] _ rfl rfl ?_
          refine r_iadd (pc1 := 1049) rfl rfl ?_
          refine r_sal (pc1 := 1050) rfl rfl t139 (rgw _) c137.1 c137.2 ?_
          refine r_iv rfl rfl rfl rfl rfl rfl t139 (lyk t139 rfl) rfl (xe_of (xa_r (xa_i (xa_i xa_0))) rfl rfl) (r_d0 hd rfl) (a_X14_versionAt ((sc.2 (wr (x1 + 1)).toNat).toInt) ((sc.2 (wr (x1 + 2)).toNat).toInt) (r_d1 hd rfl) (rgt _) (rgt _) w t139 (fun x140 h141 t141 u141 rx140 w => ?_))
          refine r_fI (pc1 := 1053) rfl ?_
          have s141 := HX_trans s139 u141
          have w := w t141 u141
          have w := w rx140
          refine r_ist (pc1 := 1055) (ls1 := [some (.ref 0), some (rv 2), some (rv 437), some (rv 467), some (.int (J x1)), some (.int (J x138)), some (.int (J x140)), d4, d5]) rfl rfl rfl rfl ?_
          refine r_aldn (pc1 := 1056) rfl rfl rfl ?_
          refine r_iv rfl rfl rfl rfl rfl rfl t141 (lyk t141 rfl) rfl (xe_of (xa_r xa_0) rfl rfl) (r_d0 hd rfl) (a_X14_thrown  (r_d1 hd rfl)  w t141 (fun x142 rx142 w => ?_))
          refine r_fI (pc1 := 1059) rfl ?_
          have w := w rx142
          refine r_n (pc1 := 1061) [.int (J x138), .int (J x142)] _ rfl rfl ?_
          refine r_ic (t := 1066) (pc1 := 1064) rfl rfl rfl rx142 rx138 (fun c146 => ?_) (fun c146 => ?_)
          · have w := w.1 c146
            refine r_n (pc1 := 1068) [.int (J x138)] _ rfl rfl ?_
            obtain ⟨J143, j143, w⟩ := w
            have Q143 : J143 → RR sc goal fs 0 1083 [some (.ref 0), some (rv 2), some (rv 437), some (rv 467), some (.int (J x1)), some (.int (J x138)), some (.int (J x140)), d4, d5] [] h141 := by
              intro z143
              have w := j143 z143
              refine r_goto (t := 3466) rfl rfl ?_
              exact Q14 _ _ _ _  h141 t141 s141  w
            refine r_iz (t := 1083) (pc1 := 1071) rfl rfl rfl rx138 (fun c145 => ?_) (fun c145 => ?_)
            · have w := w.1 c145
              exact Q143     w
            · have w := w.2 c145
              refine r_aldn (pc1 := 1072) rfl rfl rfl ?_
              refine r_n (pc1 := 1073) [.int (J 0), rv 467] _ rfl rfl ?_
              refine r_lal (pc1 := 1074) rfl rfl t141 (lyk t141 rfl) (rgk rfl) (by decide) (lt_len (lyn t141 rfl) (by decide)) ?_
              refine r_n (pc1 := 1076) [.int (J x140), .long (G (hL h141 467 0))] _ rfl rfl ?_
              refine r_i2l (pc1 := 1077) rfl rfl ?_
              refine r_lc (pc2 := 1078) (t := 1083) (pc1 := 1081) rfl rfl rfl rfl rfl (fun c144 => ?_) (fun c144 => ?_)
              · have w := w.1 c144
                exact Q143     w
              · have w := w.2 c144
                refine r_n (pc1 := 1082) [.int (J 0)] _ rfl rfl ?_
                exact r_retB rfl rfl rfl (.inl rfl) (k _ _ t141 s141 (rgk rfl) (.inl rfl) w)
          · have w := w.2 c146
            refine r_n (pc1 := 1065) [.int (J 0)] _ rfl rfl ?_
            exact r_retB rfl rfl rfl (.inl rfl) (k _ _ t141 s141 (rgk rfl) (.inl rfl) w)
        · have w := w.2.2.2.2.2.2.2.2.2.2.2.2.1 c16
          refine r_aldn (pc1 := 1087) rfl rfl rfl ?_
          refine r_n (pc1 := 1088) [.ref 0, rv 2] _ rfl rfl ?_
          refine r_n (pc1 := 1090) [.int (J x1), .ref 0, rv 2] _ rfl rfl ?_
          refine r_n (pc1 := 1091) [.int (J 1), .int (J x1), .ref 0, rv 2] _ rfl rfl ?_
          refine r_iadd (pc1 := 1092) rfl rfl ?_
          obtain ⟨c147, w⟩ := w
          refine r_sal (pc1 := 1093) rfl rfl t6 (rgw _) c147.1 c147.2 ?_
          refine r_aldn (pc1 := 1094) rfl rfl rfl ?_
          refine r_iq rfl rfl rfl rfl rfl rfl (xe_of (xa_r (xa_i (xa_r xa_0))) rfl rfl) (r_d0 hd rfl) (a_L_inRange ((sc.2 (wr (x1 + 1)).toNat).toInt) (r_d1 hd rfl) (rgt _) w t6 (fun x148 h149 t149 u149 rx148 w => ?_))
          refine r_fI (pc1 := 1097) rfl ?_
          have s149 := HX_trans s6 u149
          have w := w t149 u149
          have w := w rx148
          refine r_ist (pc1 := 1099) (ls1 := [some (.ref 0), some (rv 2), some (rv 437), some (rv 467), some (.int (J x1)), some (.int (J x148)), d3, d4, d5]) rfl rfl rfl rfl ?_
          refine r_aldn (pc1 := 1100) rfl rfl rfl ?_
          refine r_n (pc1 := 1101) [.ref 0, rv 437] _ rfl rfl ?_
          refine r_n (pc1 := 1103) [.int (J x1), .ref 0, rv 437] _ rfl rfl ?_
          refine r_n (pc1 := 1104) [.int (J 1), .int (J x1), .ref 0, rv 437] _ rfl rfl ?_
          refine r_iadd (pc1 := 1105) rfl rfl ?_
          refine r_sal (pc1 := 1106) rfl rfl t149 (rgw _) c147.1 c147.2 ?_
          refine r_iv rfl rfl rfl rfl rfl rfl t149 (lyk t149 rfl) rfl (xe_of (xa_r (xa_i xa_0)) rfl rfl) (r_d0 hd rfl) (a_X14_inRange ((sc.2 (wr (x1 + 1)).toNat).toInt) (r_d1 hd rfl) (rgt _) w t149 (fun x150 h151 t151 u151 rx150 w => ?_))
          refine r_fI (pc1 := 1109) rfl ?_
          have s151 := HX_trans s149 u151
          have w := w t151 u151
          have w := w rx150
          refine r_ist (pc1 := 1111) (ls1 := [some (.ref 0), some (rv 2), some (rv 437), some (rv 467), some (.int (J x1)), some (.int (J x148)), some (.int (J x150)), d4, d5]) rfl rfl rfl rfl ?_
          refine r_aldn (pc1 := 1112) rfl rfl rfl ?_
          refine r_iv rfl rfl rfl rfl rfl rfl t151 (lyk t151 rfl) rfl (xe_of (xa_r xa_0) rfl rfl) (r_d0 hd rfl) (a_X14_thrown  (r_d1 hd rfl)  w t151 (fun x152 rx152 w => ?_))
          refine r_fI (pc1 := 1115) rfl ?_
          have w := w rx152
          refine r_n (pc1 := 1117) [.int (J x148), .int (J x152)] _ rfl rfl ?_
          refine r_ic (t := 1122) (pc1 := 1120) rfl rfl rfl rx152 rx148 (fun c156 => ?_) (fun c156 => ?_)
          · have w := w.1 c156
            refine r_n (pc1 := 1124) [.int (J x148)] _ rfl rfl ?_
            obtain ⟨J153, j153, w⟩ := w
            have Q153 : J153 → RR sc goal fs 0 1139 [some (.ref 0), some (rv 2), some (rv 437), some (rv 467), some (.int (J x1)), some (.int (J x148)), some (.int (J x150)), d4, d5] [] h151 := by
              intro z153
              have w := j153 z153
              refine r_goto (t := 3466) rfl rfl ?_
              exact Q14 _ _ _ _  h151 t151 s151  w
            refine r_iz (t := 1139) (pc1 := 1127) rfl rfl rfl rx148 (fun c155 => ?_) (fun c155 => ?_)
            · have w := w.1 c155
              exact Q153     w
            · have w := w.2 c155
              refine r_aldn (pc1 := 1128) rfl rfl rfl ?_
              refine r_n (pc1 := 1129) [.int (J 0), rv 467] _ rfl rfl ?_
              refine r_lal (pc1 := 1130) rfl rfl t151 (lyk t151 rfl) (rgk rfl) (by decide) (lt_len (lyn t151 rfl) (by decide)) ?_
              refine r_n (pc1 := 1132) [.int (J x150), .long (G (hL h151 467 0))] _ rfl rfl ?_
              refine r_i2l (pc1 := 1133) rfl rfl ?_
              refine r_lc (pc2 := 1134) (t := 1139) (pc1 := 1137) rfl rfl rfl rfl rfl (fun c154 => ?_) (fun c154 => ?_)
              · have w := w.1 c154
                exact Q153     w
              · have w := w.2 c154
                refine r_n (pc1 := 1138) [.int (J 0)] _ rfl rfl ?_
                exact r_retB rfl rfl rfl (.inl rfl) (k _ _ t151 s151 (rgk rfl) (.inl rfl) w)
          · have w := w.2 c156
            refine r_n (pc1 := 1121) [.int (J 0)] _ rfl rfl ?_
            exact r_retB rfl rfl rfl (.inl rfl) (k _ _ t151 s151 (rgk rfl) (.inl rfl) w)
        · have w := w.2.2.2.2.2.2.2.2.2.2.2.2.2.1 c16
          refine r_aldn (pc1 := 1143) rfl rfl rfl ?_
          refine r_n (pc1 := 1144) [.ref 0, rv 2] _ rfl rfl ?_
          refine r_n (pc1 := 1146) [.int (J x1), .ref 0, rv 2] _ rfl rfl ?_
          refine r_n (pc1 := 1147) [.int (J 1), .int (J x1), .ref 0, rv 2] _ rfl rfl ?_
          refine r_iadd (pc1 := 1148) rfl rfl ?_
          obtain ⟨c157, w⟩ := w
          refine r_sal (pc1 := 1149) rfl rfl t6 (rgw _) c157.1 c157.2 ?_
          refine r_aldn (pc1 := 1150) rfl rfl rfl ?_
          refine r_iq rfl rfl rfl rfl rfl rfl (xe_of (xa_r (xa_i (xa_r xa_0))) rfl rfl) (r_d0 hd rfl) (a_L_root ((sc.2 (wr (x1 + 1)).toNat).toInt) (r_d1 hd rfl) (rgt _) w t6 (fun x158 h159 t159 u159 rx158 w => ?_))
          refine r_fI (pc1 := 1153) rfl ?_
          have s159 := HX_trans s6 u159
          have w := w t159 u159
          have w := w rx158
          refine r_ist (pc1 := 1155) (ls1 := [some (.ref 0), some (rv 2), some (rv 437), some (rv 467), some (.int (J x1)), some (.int (J x158)), d3, d4, d5]) rfl rfl rfl rfl ?_
          refine r_aldn (pc1 := 1156) rfl rfl rfl ?_
          refine r_n (pc1 := 1157) [.ref 0, rv 437] _ rfl rfl ?_
          refine r_n (pc1 := 1159) [.int (J x1), .ref 0, rv 437] _ rfl rfl ?_
          refine r_n (pc1 := 1160) [.int (J 1), .int (J x1), .ref 0, rv 437] _ rfl rfl ?_
          refine r_iadd (pc1 := 1161) rfl rfl ?_
          refine r_sal (pc1 := 1162) rfl rfl t159 (rgw _) c157.1 c157.2 ?_
          refine r_iv rfl rfl rfl rfl rfl rfl t159 (lyk t159 rfl) rfl (xe_of (xa_r (xa_i xa_0)) rfl rfl) (r_d0 hd rfl) (a_X14_root ((sc.2 (wr (x1 + 1)).toNat).toInt) (r_d1 hd rfl) (rgt _) w t159 (fun x160 h161 t161 u161 rx160 w => ?_))
          refine r_fI (pc1 := 1165) rfl ?_
          have s161 := HX_trans s159 u161
          have w := w t161 u161
          have w := w rx160
          refine r_ist (pc1 := 1167) (ls1 := [some (.ref 0), some (rv 2), some (rv 437), some (rv 467), some (.int (J x1)), some (.int (J x158)), some (.int (J x160)), d4, d5]) rfl rfl rfl rfl ?_
          refine r_aldn (pc1 := 1168) rfl rfl rfl ?_
          refine r_iv rfl rfl rfl rfl rfl rfl t161 (lyk t161 rfl) rfl (xe_of (xa_r xa_0) rfl rfl) (r_d0 hd rfl) (a_X14_thrown  (r_d1 hd rfl)  w t161 (fun x162 rx162 w => ?_))
          refine r_fI (pc1 := 1171) rfl ?_
          have w := w rx162
          refine r_n (pc1 := 1173) [.int (J x158), .int (J x162)] _ rfl rfl ?_
          refine r_ic (t := 1178) (pc1 := 1176) rfl rfl rfl rx162 rx158 (fun c166 => ?_) (fun c166 => ?_)
          · have w := w.1 c166
            refine r_n (pc1 := 1180) [.int (J x158)] _ rfl rfl ?_
            obtain ⟨J163, j163, w⟩ := w
            have Q163 : J163 → RR sc goal fs 0 1195 [some (.ref 0), some (rv 2), some (rv 437), some (rv 467), some (.int (J x1)), some (.int (J x158)), some (.int (J x160)), d4, d5] [] h161 := by
              intro z163
              have w := j163 z163
              refine r_goto (t := 3466) rfl rfl ?_
              exact Q14 _ _ _ _  h161 t161 s161  w
            refine r_iz (t := 1195) (pc1 := 1183) rfl rfl rfl rx158 (fun c165 => ?_) (fun c165 => ?_)
            · have w := w.1 c165
              exact Q163     w
            · have w := w.2 c165
              refine r_aldn (pc1 := 1184) rfl rfl rfl ?_
              refine r_n (pc1 := 1185) [.int (J 0), rv 467] _ rfl rfl ?_
              refine r_lal (pc1 := 1186) rfl rfl t161 (lyk t161 rfl) (rgk rfl) (by decide) (lt_len (lyn t161 rfl) (by decide)) ?_
              refine r_n (pc1 := 1188) [.int (J x160), .long (G (hL h161 467 0))] _ rfl rfl ?_
              refine r_i2l (pc1 := 1189) rfl rfl ?_
              refine r_lc (pc2 := 1190) (t := 1195) (pc1 := 1193) rfl rfl rfl rfl rfl (fun c164 => ?_) (fun c164 => ?_)
              · have w := w.1 c164
                exact Q163     w
              · have w := w.2 c164
                refine r_n (pc1 := 1194) [.int (J 0)] _ rfl rfl ?_
                exact r_retB rfl rfl rfl (.inl rfl) (k _ _ t161 s161 (rgk rfl) (.inl rfl) w)
          · have w := w.2 c166
            refine r_n (pc1 := 1177) [.int (J 0)] _ rfl rfl ?_
            exact r_retB rfl rfl rfl (.inl rfl) (k _ _ t161 s161 (rgk rfl) (.inl rfl) w)
        · have w := w.2.2.2.2.2.2.2.2.2.2.2.2.2.2.1 c16
          refine r_aldn (pc1 := 1199) rfl rfl rfl ?_
          refine r_aldn (pc1 := 1200) rfl rfl rfl ?_
          refine r_iq rfl rfl rfl rfl rfl rfl (xe_of (xa_r (xa_r xa_0)) rfl rfl) (r_d0 hd rfl) (a_L_wish  (r_d1 hd rfl)  w t6 (fun x167 h168 t168 u168 rx167 w => ?_))
          refine r_fI (pc1 := 1203) rfl ?_
          have s168 := HX_trans s6 u168
          have w := w t168 u168
          have w := w rx167
          refine r_ist (pc1 := 1205) (ls1 := [some (.ref 0), some (rv 2), some (rv 437), some (rv 467), some (.int (J x1)), some (.int (J x167)), d3, d4, d5]) rfl rfl rfl rfl ?_
          refine r_aldn (pc1 := 1206) rfl rfl rfl ?_
          refine r_iv rfl rfl rfl rfl rfl rfl t168 (lyk t168 rfl) rfl (xe_of (xa_r xa_0) rfl rfl) (r_d0 hd rfl) (a_X14_wish  (r_d1 hd rfl)  w t168 (fun x169 h170 t170 u170 rx169 w => ?_))
          refine r_fI (pc1 := 1209) rfl ?_
          have s170 := HX_trans s168 u170
          have w := w t170 u170
          have w := w rx169
          refine r_ist (pc1 := 1211) (ls1 := [some (.ref 0), some (rv 2), some (rv 437), some (rv 467), some (.int (J x1)), some (.int (J x167)), some (.int (J x169)), d4, d5]) rfl rfl rfl rfl ?_
          refine r_aldn (pc1 := 1212) rfl rfl rfl ?_
          refine r_iv rfl rfl rfl rfl rfl rfl t170 (lyk t170 rfl) rfl (xe_of (xa_r xa_0) rfl rfl) (r_d0 hd rfl) (a_X14_thrown  (r_d1 hd rfl)  w t170 (fun x171 rx171 w => ?_))
          refine r_fI (pc1 := 1215) rfl ?_
          have w := w rx171
          refine r_n (pc1 := 1217) [.int (J x167), .int (J x171)] _ rfl rfl ?_
          refine r_ic (t := 1222) (pc1 := 1220) rfl rfl rfl rx171 rx167 (fun c175 => ?_) (fun c175 => ?_)
          · have w := w.1 c175
            refine r_n (pc1 := 1224) [.int (J x167)] _ rfl rfl ?_
            obtain ⟨J172, j172, w⟩ := w
            have Q172 : J172 → RR sc goal fs 0 1239 [some (.ref 0), some (rv 2), some (rv 437), some (rv 467), some (.int (J x1)), some (.int (J x167)), some (.int (J x169)), d4, d5] [] h170 := by
              intro z172
              have w := j172 z172
              refine r_goto (t := 3466) rfl rfl ?_
              exact Q14 _ _ _ _  h170 t170 s170  w
            refine r_iz (t := 1239) (pc1 := 1227) rfl rfl rfl rx167 (fun c174 => ?_) (fun c174 => ?_)
            · have w := w.1 c174
              exact Q172     w
            · have w := w.2 c174
              refine r_aldn (pc1 := 1228) rfl rfl rfl ?_
              refine r_n (pc1 := 1229) [.int (J 0), rv 467] _ rfl rfl ?_
              refine r_lal (pc1 := 1230) rfl rfl t170 (lyk t170 rfl) (rgk rfl) (by decide) (lt_len (lyn t170 rfl) (by decide)) ?_
              refine r_n (pc1 := 1232) [.int (J x169), .long (G (hL h170 467 0))] _ rfl rfl ?_
              refine r_i2l (pc1 := 1233) rfl rfl ?_
              refine r_lc (pc2 := 1234) (t := 1239) (pc1 := 1237) rfl rfl rfl rfl rfl (fun c173 => ?_) (fun c173 => ?_)
              · have w := w.1 c173
                exact Q172     w
              · have w := w.2 c173
                refine r_n (pc1 := 1238) [.int (J 0)] _ rfl rfl ?_
                exact r_retB rfl rfl rfl (.inl rfl) (k _ _ t170 s170 (rgk rfl) (.inl rfl) w)
          · have w := w.2 c175
            refine r_n (pc1 := 1221) [.int (J 0)] _ rfl rfl ?_
            exact r_retB rfl rfl rfl (.inl rfl) (k _ _ t170 s170 (rgk rfl) (.inl rfl) w)
        · have w := w.2.2.2.2.2.2.2.2.2.2.2.2.2.2.2.1 c16
          refine r_aldn (pc1 := 1243) rfl rfl rfl ?_
          refine r_n (pc1 := 1244) [.ref 0, rv 2] _ rfl rfl ?_
          refine r_n (pc1 := 1246) [.int (J x1), .ref 0, rv 2] _ rfl rfl ?_
          refine r_n (pc1 := 1247) [.int (J 1), .int (J x1), .ref 0, rv 2] _ rfl rfl ?_
          refine r_iadd (pc1 := 1248) rfl rfl ?_
          obtain ⟨c176, w⟩ := w
          refine r_sal (pc1 := 1249) rfl rfl t6 (rgw _) c176.1 c176.2 ?_
          refine r_aldn (pc1 := 1250) rfl rfl rfl ?_
          refine r_iq rfl rfl rfl rfl rfl rfl (xe_of (xa_r (xa_i (xa_r xa_0))) rfl rfl) (r_d0 hd rfl) (a_L_unwish ((sc.2 (wr (x1 + 1)).toNat).toInt) (r_d1 hd rfl) (rgt _) w t6 (fun x177 h178 t178 u178 rx177 w => ?_))
          refine r_fI (pc1 := 1253) rfl ?_
          have s178 := HX_trans s6 u178
          have w := w t178 u178
          have w := w rx177
          refine r_ist (pc1 := 1255) (ls1 := [some (.ref 0), some (rv 2), some (rv 437), some (rv 467), some (.int (J x1)), some (.int (J x177)), d3, d4, d5]) rfl rfl rfl rfl ?_
          refine r_aldn (pc1 := 1256) rfl rfl rfl ?_
          refine r_n (pc1 := 1257) [.ref 0, rv 437] _ rfl rfl ?_
          refine r_n (pc1 := 1259) [.int (J x1), .ref 0, rv 437] _ rfl rfl ?_
          refine r_n (pc1 := 1260) [.int (J 1), .int (J x1), .ref 0, rv 437] _ rfl rfl ?_
          refine r_iadd (pc1 := 1261) rfl rfl ?_
          refine r_sal (pc1 := 1262) rfl rfl t178 (rgw _) c176.1 c176.2 ?_
          refine r_iv rfl rfl rfl rfl rfl rfl t178 (lyk t178 rfl) rfl (xe_of (xa_r (xa_i xa_0)) rfl rfl) (r_d0 hd rfl) (a_X14_unwish ((sc.2 (wr (x1 + 1)).toNat).toInt) (r_d1 hd rfl) (rgt _) w t178 (fun x179 h180 t180 u180 rx179 w => ?_))
          refine r_fI (pc1 := 1265) rfl ?_
          have s180 := HX_trans s178 u180
          have w := w t180 u180
          have w := w rx179
          refine r_ist (pc1 := 1267) (ls1 := [some (.ref 0), some (rv 2), some (rv 437), some (rv 467), some (.int (J x1)), some (.int (J x177)), some (.int (J x179)), d4, d5]) rfl rfl rfl rfl ?_
          refine r_aldn (pc1 := 1268) rfl rfl rfl ?_
          refine r_iv rfl rfl rfl rfl rfl rfl t180 (lyk t180 rfl) rfl (xe_of (xa_r xa_0) rfl rfl) (r_d0 hd rfl) (a_X14_thrown  (r_d1 hd rfl)  w t180 (fun x181 rx181 w => ?_))
          refine r_fI (pc1 := 1271) rfl ?_
          have w := w rx181
          refine r_n (pc1 := 1273) [.int (J x177), .int (J x181)] _ rfl rfl ?_
          refine r_ic (t := 1278) (pc1 := 1276) rfl rfl rfl rx181 rx177 (fun c185 => ?_) (fun c185 => ?_)
          · have w := w.1 c185
            refine r_n (pc1 := 1280) [.int (J x177)] _ rfl rfl ?_
            obtain ⟨J182, j182, w⟩ := w
            have Q182 : J182 → RR sc goal fs 0 1295 [some (.ref 0), some (rv 2), some (rv 437), some (rv 467), some (.int (J x1)), some (.int (J x177)), some (.int (J x179)), d4, d5] [] h180 := by
              intro z182
              have w := j182 z182
              refine r_goto (t := 3466) rfl rfl ?_
              exact Q14 _ _ _ _  h180 t180 s180  w
            refine r_iz (t := 1295) (pc1 := 1283) rfl rfl rfl rx177 (fun c184 => ?_) (fun c184 => ?_)
            · have w := w.1 c184
              exact Q182     w
            · have w := w.2 c184
              refine r_aldn (pc1 := 1284) rfl rfl rfl ?_
              refine r_n (pc1 := 1285) [.int (J 0), rv 467] _ rfl rfl ?_
              refine r_lal (pc1 := 1286) rfl rfl t180 (lyk t180 rfl) (rgk rfl) (by decide) (lt_len (lyn t180 rfl) (by decide)) ?_
              refine r_n (pc1 := 1288) [.int (J x179), .long (G (hL h180 467 0))] _ rfl rfl ?_
              refine r_i2l (pc1 := 1289) rfl rfl ?_
              refine r_lc (pc2 := 1290) (t := 1295) (pc1 := 1293) rfl rfl rfl rfl rfl (fun c183 => ?_) (fun c183 => ?_)
              · have w := w.1 c183
                exact Q182     w
              · have w := w.2 c183
                refine r_n (pc1 := 1294) [.int (J 0)] _ rfl rfl ?_
                exact r_retB rfl rfl rfl (.inl rfl) (k _ _ t180 s180 (rgk rfl) (.inl rfl) w)
          · have w := w.2 c185
            refine r_n (pc1 := 1277) [.int (J 0)] _ rfl rfl ?_
            exact r_retB rfl rfl rfl (.inl rfl) (k _ _ t180 s180 (rgk rfl) (.inl rfl) w)
        · have w := w.2.2.2.2.2.2.2.2.2.2.2.2.2.2.2.2.1 c16
          refine r_aldn (pc1 := 1299) rfl rfl rfl ?_
          refine r_n (pc1 := 1300) [.ref 0, rv 2] _ rfl rfl ?_
          refine r_n (pc1 := 1302) [.int (J x1), .ref 0, rv 2] _ rfl rfl ?_
          refine r_n (pc1 := 1303) [.int (J 1), .int (J x1), .ref 0, rv 2] _ rfl rfl ?_
          refine r_iadd (pc1 := 1304) rfl rfl ?_
          obtain ⟨c186, w⟩ := w
          refine r_sal (pc1 := 1305) rfl rfl t6 (rgw _) c186.1 c186.2 ?_
          refine r_n (pc1 := 1306) [.ref 0, .int (J ((sc.2 (wr (x1 + 1)).toNat).toInt)), rv 2] _ rfl rfl ?_
          refine r_n (pc1 := 1308) [.int (J x1), .ref 0, .int (J ((sc.2 (wr (x1 + 1)).toNat).toInt)), rv 2] _ rfl rfl ?_
          refine r_n (pc1 := 1309) [.int (J 2), .int (J x1), .ref 0, .int (J ((sc.2 (wr (x1 + 1)).toNat).toInt)), rv 2] _ rfl rfl ?_
          refine r_iadd (pc1 := 1310) rfl rfl ?_
          obtain ⟨c187, w⟩ := w
          refine r_sal (pc1 := 1311) rfl rfl t6 (rgw _) c187.1 c187.2 ?_
          obtain ⟨J189, j189, w⟩ := w
          have Q189 : ∀ (x188 : Int), rg x188 → J189 x188 → RR sc goal fs 0 1319 [some (.ref 0), some (rv 2), some (rv 437), some (rv 467), some (.int (J x1)), d2, d3, d4, d5] [.int (J x188), .int (J ((sc.2 (wr (x1 + 1)).toNat).toInt)), rv 2] h6 := by
            intro x188 rx188 z189
            have w := j189 x188 rx188 z189
            refine r_aldn (pc1 := 1320) rfl rfl rfl ?_
            refine r_iq rfl rfl rfl rfl rfl rfl (xe_of (xa_r (xa_i (xa_i (xa_r xa_0)))) rfl rfl) (r_d0 hd rfl) (a_L_hold ((sc.2 (wr (x1 + 1)).toNat).toInt) x188 (r_d1 hd rfl) (rgt _) rx188 w t6 (fun x190 h191 t191 u191 rx190 w => ?_))
            refine r_fI (pc1 := 1323) rfl ?_
            have s191 := HX_trans s6 u191
            have w := w t191 u191
            have w := w rx190
            refine r_ist (pc1 := 1325) (ls1 := [some (.ref 0), some (rv 2), some (rv 437), some (rv 467), some (.int (J x1)), some (.int (J x190)), d3, d4, d5]) rfl rfl rfl rfl ?_
            refine r_aldn (pc1 := 1326) rfl rfl rfl ?_
            refine r_n (pc1 := 1327) [.ref 0, rv 437] _ rfl rfl ?_
            refine r_n (pc1 := 1329) [.int (J x1), .ref 0, rv 437] _ rfl rfl ?_
            refine r_n (pc1 := 1330) [.int (J 1), .int (J x1), .ref 0, rv 437] _ rfl rfl ?_
            refine r_iadd (pc1 := 1331) rfl rfl ?_
            refine r_sal (pc1 := 1332) rfl rfl t191 (rgw _) c186.1 c186.2 ?_
            refine r_n (pc1 := 1333) [.ref 0, .int (J ((sc.2 (wr (x1 + 1)).toNat).toInt)), rv 437] _ rfl rfl ?_
            refine r_n (pc1 := 1335) [.int (J x1), .ref 0, .int (J ((sc.2 (wr (x1 + 1)).toNat).toInt)), rv 437] _ rfl rfl ?_
            refine r_n (pc1 := 1336) [.int (J 2), .int (J x1), .ref 0, .int (J ((sc.2 (wr (x1 + 1)).toNat).toInt)), rv 437] _ rfl rfl ?_
            refine r_iadd (pc1 := 1337) rfl rfl ?_
            refine r_sal (pc1 := 1338) rfl rfl t191 (rgw _) c187.1 c187.2 ?_
            obtain ⟨J193, j193, w⟩ := w
            have Q193 : ∀ (x192 : Int), rg x192 → J193 x192 → RR sc goal fs 0 1346 [some (.ref 0), some (rv 2), some (rv 437), some (rv 467), some (.int (J x1)), some (.int (J x190)), d3, d4, d5] [.int (J x192), .int (J ((sc.2 (wr (x1 + 1)).toNat).toInt)), rv 437] h191 := by
              intro x192 rx192 z193
              have w := j193 x192 rx192 z193
              refine r_iv rfl rfl rfl rfl rfl rfl t191 (lyk t191 rfl) rfl (xe_of (xa_r (xa_i (xa_i xa_0))) rfl rfl) (r_d0 hd rfl) (a_X14_hold ((sc.2 (wr (x1 + 1)).toNat).toInt) x192 (r_d1 hd rfl) (rgt _) rx192 w t191 (fun x194 h195 t195 u195 rx194 w => ?_))
              refine r_fI (pc1 := 1349) rfl ?_
              have s195 := HX_trans s191 u195
              have w := w t195 u195
              have w := w rx194
              refine r_ist (pc1 := 1351) (ls1 := [some (.ref 0), some (rv 2), some (rv 437), some (rv 467), some (.int (J x1)), some (.int (J x190)), some (.int (J x194)), d4, d5]) rfl rfl rfl rfl ?_
              refine r_aldn (pc1 := 1352) rfl rfl rfl ?_
              refine r_iv rfl rfl rfl rfl rfl rfl t195 (lyk t195 rfl) rfl (xe_of (xa_r xa_0) rfl rfl) (r_d0 hd rfl) (a_X14_thrown  (r_d1 hd rfl)  w t195 (fun x196 rx196 w => ?_))
              refine r_fI (pc1 := 1355) rfl ?_
              have w := w rx196
              refine r_n (pc1 := 1357) [.int (J x190), .int (J x196)] _ rfl rfl ?_
              refine r_ic (t := 1362) (pc1 := 1360) rfl rfl rfl rx196 rx190 (fun c200 => ?_) (fun c200 => ?_)
              · have w := w.1 c200
                refine r_n (pc1 := 1364) [.int (J x190)] _ rfl rfl ?_
                obtain ⟨J197, j197, w⟩ := w
                have Q197 : J197 → RR sc goal fs 0 1379 [some (.ref 0), some (rv 2), some (rv 437), some (rv 467), some (.int (J x1)), some (.int (J x190)), some (.int (J x194)), d4, d5] [] h195 := by
                  intro z197
                  have w := j197 z197
                  refine r_goto (t := 3466) rfl rfl ?_
                  exact Q14 _ _ _ _  h195 t195 s195  w
                refine r_iz (t := 1379) (pc1 := 1367) rfl rfl rfl rx190 (fun c199 => ?_) (fun c199 => ?_)
                · have w := w.1 c199
                  exact Q197     w
                · have w := w.2 c199
                  refine r_aldn (pc1 := 1368) rfl rfl rfl ?_
                  refine r_n (pc1 := 1369) [.int (J 0), rv 467] _ rfl rfl ?_
                  refine r_lal (pc1 := 1370) rfl rfl t195 (lyk t195 rfl) (rgk rfl) (by decide) (lt_len (lyn t195 rfl) (by decide)) ?_
                  refine r_n (pc1 := 1372) [.int (J x194), .long (G (hL h195 467 0))] _ rfl rfl ?_
                  refine r_i2l (pc1 := 1373) rfl rfl ?_
                  refine r_lc (pc2 := 1374) (t := 1379) (pc1 := 1377) rfl rfl rfl rfl rfl (fun c198 => ?_) (fun c198 => ?_)
                  · have w := w.1 c198
                    exact Q197     w
                  · have w := w.2 c198
                    refine r_n (pc1 := 1378) [.int (J 0)] _ rfl rfl ?_
                    exact r_retB rfl rfl rfl (.inl rfl) (k _ _ t195 s195 (rgk rfl) (.inl rfl) w)
              · have w := w.2 c200
                refine r_n (pc1 := 1361) [.int (J 0)] _ rfl rfl ?_
                exact r_retB rfl rfl rfl (.inl rfl) (k _ _ t195 s195 (rgk rfl) (.inl rfl) w)
            refine r_iz (t := 1345) (pc1 := 1341) rfl rfl rfl (rgt _) (fun c201 => ?_) (fun c201 => ?_)
            · have w := w.1 c201
              refine r_n (pc1 := 1346) [.int (J 0), .int (J ((sc.2 (wr (x1 + 1)).toNat).toInt)), rv 437] _ rfl rfl ?_
              exact Q193  0  (rgk rfl) w
            · have w := w.2 c201
              refine r_n (pc1 := 1342) [.int (J 1), .int (J ((sc.2 (wr (x1 + 1)).toNat).toInt)), rv 437] _ rfl rfl ?_
              refine r_goto (t := 1346) rfl rfl ?_
              exact Q193  1  (rgk rfl) w
          refine r_iz (t := 1318) (pc1 := 1314) rfl rfl rfl (rgt _) (fun c202 => ?_) (fun c202 => ?_)
          · have w := w.1 c202
            refine r_n (pc1 := 1319) [.int (J 0), .int (J ((sc.2 (wr (x1 + 1)).toNat).toInt)), rv 2] _ rfl rfl ?_
            exact Q189  0  (rgk rfl) w
          · have w := w.2 c202
            refine r_n (pc1 := 1315) [.int (J 1), .int (J ((sc.2 (wr (x1 + 1)).toNat).toInt)), rv 2] _ rfl rfl ?_
            refine r_goto (t := 1319) rfl rfl ?_
            exact Q189  1  (rgk rfl) w
        · have w := w.2.2.2.2.2.2.2.2.2.2.2.2.2.2.2.2.2.1 c16
          refine r_aldn (pc1 := 1383) rfl rfl rfl ?_
          refine r_n (pc1 := 1384) [.ref 0, rv 2] _ rfl rfl ?_
          refine r_n (pc1 := 1386) [.int (J x1), .ref 0, rv 2] _ rfl rfl ?_
          refine r_n (pc1 := 1387) [.int (J 1), .int (J x1), .ref 0, rv 2] _ rfl rfl ?_
          refine r_iadd (pc1 := 1388) rfl rfl ?_
          obtain ⟨c203, w⟩ := w
          refine r_sal (pc1 := 1389) rfl rfl t6 (rgw _) c203.1 c203.2 ?_
          refine r_aldn (pc1 := 1390) rfl rfl rfl ?_
          refine r_iq rfl rfl rfl rfl rfl rfl (xe_of (xa_r (xa_i (xa_r xa_0))) rfl rfl) (r_d0 hd rfl) (a_L_pin ((sc.2 (wr (x1 + 1)).toNat).toInt) (r_d1 hd rfl) (rgt _) w t6 (fun x204 h205 t205 u205 rx204 w => ?_))
          refine r_fI (pc1 := 1393) rfl ?_
          have s205 := HX_trans s6 u205
          have w := w t205 u205
          have w := w rx204
          refine r_ist (pc1 := 1395) (ls1 := [some (.ref 0), some (rv 2), some (rv 437), some (rv 467), some (.int (J x1)), some (.int (J x204)), d3, d4, d5]) rfl rfl rfl rfl ?_
          refine r_aldn (pc1 := 1396) rfl rfl rfl ?_
          refine r_n (pc1 := 1397) [.ref 0, rv 437] _ rfl rfl ?_
          refine r_n (pc1 := 1399) [.int (J x1), .ref 0, rv 437] _ rfl rfl ?_
          refine r_n (pc1 := 1400) [.int (J 1), .int (J x1), .ref 0, rv 437] _ rfl rfl ?_
          refine r_iadd (pc1 := 1401) rfl rfl ?_
          refine r_sal (pc1 := 1402) rfl rfl t205 (rgw _) c203.1 c203.2 ?_
          refine r_iv rfl rfl rfl rfl rfl rfl t205 (lyk t205 rfl) rfl (xe_of (xa_r (xa_i xa_0)) rfl rfl) (r_d0 hd rfl) (a_X14_pin ((sc.2 (wr (x1 + 1)).toNat).toInt) (r_d1 hd rfl) (rgt _) w t205 (fun x206 h207 t207 u207 rx206 w => ?_))
          refine r_fI (pc1 := 1405) rfl ?_
          have s207 := HX_trans s205 u207
          have w := w t207 u207
          have w := w rx206
          refine r_ist (pc1 := 1407) (ls1 := [some (.ref 0), some (rv 2), some (rv 437), some (rv 467), some (.int (J x1)), some (.int (J x204)), some (.int (J x206)), d4, d5]) rfl rfl rfl rfl ?_
          refine r_aldn (pc1 := 1408) rfl rfl rfl ?_
          refine r_iv rfl rfl rfl rfl rfl rfl t207 (lyk t207 rfl) rfl (xe_of (xa_r xa_0) rfl rfl) (r_d0 hd rfl) (a_X14_thrown  (r_d1 hd rfl)  w t207 (fun x208 rx208 w => ?_))
          refine r_fI (pc1 := 1411) rfl ?_
          have w := w rx208
          refine r_n (pc1 := 1413) [.int (J x204), .int (J x208)] _ rfl rfl ?_
          refine r_ic (t := 1418) (pc1 := 1416) rfl rfl rfl rx208 rx204 (fun c212 => ?_) (fun c212 => ?_)
          · have w := w.1 c212
            refine r_n (pc1 := 1420) [.int (J x204)] _ rfl rfl ?_
            obtain ⟨J209, j209, w⟩ := w
            have Q209 : J209 → RR sc goal fs 0 1435 [some (.ref 0), some (rv 2), some (rv 437), some (rv 467), some (.int (J x1)), some (.int (J x204)), some (.int (J x206)), d4, d5] [] h207 := by
              intro z209
              have w := j209 z209
              refine r_goto (t := 3466) rfl rfl ?_
              exact Q14 _ _ _ _  h207 t207 s207  w
            refine r_iz (t := 1435) (pc1 := 1423) rfl rfl rfl rx204 (fun c211 => ?_) (fun c211 => ?_)
            · have w := w.1 c211
              exact Q209     w
            · have w := w.2 c211
              refine r_aldn (pc1 := 1424) rfl rfl rfl ?_
              refine r_n (pc1 := 1425) [.int (J 0), rv 467] _ rfl rfl ?_
              refine r_lal (pc1 := 1426) rfl rfl t207 (lyk t207 rfl) (rgk rfl) (by decide) (lt_len (lyn t207 rfl) (by decide)) ?_
              refine r_n (pc1 := 1428) [.int (J x206), .long (G (hL h207 467 0))] _ rfl rfl ?_
              refine r_i2l (pc1 := 1429) rfl rfl ?_
              refine r_lc (pc2 := 1430) (t := 1435) (pc1 := 1433) rfl rfl rfl rfl rfl (fun c210 => ?_) (fun c210 => ?_)
              · have w := w.1 c210
                exact Q209     w
              · have w := w.2 c210
                refine r_n (pc1 := 1434) [.int (J 0)] _ rfl rfl ?_
                exact r_retB rfl rfl rfl (.inl rfl) (k _ _ t207 s207 (rgk rfl) (.inl rfl) w)
          · have w := w.2 c212
            refine r_n (pc1 := 1417) [.int (J 0)] _ rfl rfl ?_
            exact r_retB rfl rfl rfl (.inl rfl) (k _ _ t207 s207 (rgk rfl) (.inl rfl) w)
        · have w := w.2.2.2.2.2.2.2.2.2.2.2.2.2.2.2.2.2.2.1 c16
          refine r_aldn (pc1 := 1439) rfl rfl rfl ?_
          refine r_n (pc1 := 1440) [.ref 0, rv 2] _ rfl rfl ?_
          refine r_n (pc1 := 1442) [.int (J x1), .ref 0, rv 2] _ rfl rfl ?_
          refine r_n (pc1 := 1443) [.int (J 1), .int (J x1), .ref 0, rv 2] _ rfl rfl ?_
          refine r_iadd (pc1 := 1444) rfl rfl ?_
          obtain ⟨c213, w⟩ := w
          refine r_sal (pc1 := 1445) rfl rfl t6 (rgw _) c213.1 c213.2 ?_
          refine r_aldn (pc1 := 1446) rfl rfl rfl ?_
          refine r_iq rfl rfl rfl rfl rfl rfl (xe_of (xa_r (xa_i (xa_r xa_0))) rfl rfl) (r_d0 hd rfl) (a_L_quota ((sc.2 (wr (x1 + 1)).toNat).toInt) (r_d1 hd rfl) (rgt _) w t6 (fun x214 h215 t215 u215 rx214 w => ?_))
          refine r_fI (pc1 := 1449) rfl ?_
          have s215 := HX_trans s6 u215
          have w := w t215 u215
          have w := w rx214
          refine r_ist (pc1 := 1451) (ls1 := [some (.ref 0), some (rv 2), some (rv 437), some (rv 467), some (.int (J x1)), some (.int (J x214)), d3, d4, d5]) rfl rfl rfl rfl ?_
          refine r_aldn (pc1 := 1452) rfl rfl rfl ?_
          refine r_n (pc1 := 1453) [.ref 0, rv 437] _ rfl rfl ?_
          refine r_n (pc1 := 1455) [.int (J x1), .ref 0, rv 437] _ rfl rfl ?_
          refine r_n (pc1 := 1456) [.int (J 1), .int (J x1), .ref 0, rv 437] _ rfl rfl ?_
          refine r_iadd (pc1 := 1457) rfl rfl ?_
          refine r_sal (pc1 := 1458) rfl rfl t215 (rgw _) c213.1 c213.2 ?_
          refine r_iv rfl rfl rfl rfl rfl rfl t215 (lyk t215 rfl) rfl (xe_of (xa_r (xa_i xa_0)) rfl rfl) (r_d0 hd rfl) (a_X14_quota ((sc.2 (wr (x1 + 1)).toNat).toInt) (r_d1 hd rfl) (rgt _) w t215 (fun x216 h217 t217 u217 rx216 w => ?_))
          refine r_fI (pc1 := 1461) rfl ?_
          have s217 := HX_trans s215 u217
          have w := w t217 u217
          have w := w rx216
          refine r_ist (pc1 := 1463) (ls1 := [some (.ref 0), some (rv 2), some (rv 437), some (rv 467), some (.int (J x1)), some (.int (J x214)), some (.int (J x216)), d4, d5]) rfl rfl rfl rfl ?_
          refine r_aldn (pc1 := 1464) rfl rfl rfl ?_
          refine r_iv rfl rfl rfl rfl rfl rfl t217 (lyk t217 rfl) rfl (xe_of (xa_r xa_0) rfl rfl) (r_d0 hd rfl) (a_X14_thrown  (r_d1 hd rfl)  w t217 (fun x218 rx218 w => ?_))
          refine r_fI (pc1 := 1467) rfl ?_
          have w := w rx218
          refine r_n (pc1 := 1469) [.int (J x214), .int (J x218)] _ rfl rfl ?_
          refine r_ic (t := 1474) (pc1 := 1472) rfl rfl rfl rx218 rx214 (fun c222 => ?_) (fun c222 => ?_)
          · have w := w.1 c222
            refine r_n (pc1 := 1476) [.int (J x214)] _ rfl rfl ?_
            obtain ⟨J219, j219, w⟩ := w
            have Q219 : J219 → RR sc goal fs 0 1491 [some (.ref 0), some (rv 2), some (rv 437), some (rv 467), some (.int (J x1)), some (.int (J x214)), some (.int (J x216)), d4, d5] [] h217 := by
              intro z219
              have w := j219 z219
              refine r_goto (t := 3466) rfl rfl ?_
              exact Q14 _ _ _ _  h217 t217 s217  w
            refine r_iz (t := 1491) (pc1 := 1479) rfl rfl rfl rx214 (fun c221 => ?_) (fun c221 => ?_)
            · have w := w.1 c221
              exact Q219     w
            · have w := w.2 c221
              refine r_aldn (pc1 := 1480) rfl rfl rfl ?_
              refine r_n (pc1 := 1481) [.int (J 0), rv 467] _ rfl rfl ?_
              refine r_lal (pc1 := 1482) rfl rfl t217 (lyk t217 rfl) (rgk rfl) (by decide) (lt_len (lyn t217 rfl) (by decide)) ?_
              refine r_n (pc1 := 1484) [.int (J x216), .long (G (hL h217 467 0))] _ rfl rfl ?_
              refine r_i2l (pc1 := 1485) rfl rfl ?_
              refine r_lc (pc2 := 1486) (t := 1491) (pc1 := 1489) rfl rfl rfl rfl rfl (fun c220 => ?_) (fun c220 => ?_)
              · have w := w.1 c220
                exact Q219     w
              · have w := w.2 c220
                refine r_n (pc1 := 1490) [.int (J 0)] _ rfl rfl ?_
                exact r_retB rfl rfl rfl (.inl rfl) (k _ _ t217 s217 (rgk rfl) (.inl rfl) w)
          · have w := w.2 c222
            refine r_n (pc1 := 1473) [.int (J 0)] _ rfl rfl ?_
            exact r_retB rfl rfl rfl (.inl rfl) (k _ _ t217 s217 (rgk rfl) (.inl rfl) w)
        · have w := w.2.2.2.2.2.2.2.2.2.2.2.2.2.2.2.2.2.2.2.1 c16
          refine r_aldn (pc1 := 1495) rfl rfl rfl ?_
          refine r_n (pc1 := 1496) [.ref 0, rv 2] _ rfl rfl ?_
          refine r_n (pc1 := 1498) [.int (J x1), .ref 0, rv 2] _ rfl rfl ?_
          refine r_n (pc1 := 1499) [.int (J 1), .int (J x1), .ref 0, rv 2] _ rfl rfl ?_
          refine r_iadd (pc1 := 1500) rfl rfl ?_
          obtain ⟨c223, w⟩ := w
          refine r_sal (pc1 := 1501) rfl rfl t6 (rgw _) c223.1 c223.2 ?_
          obtain ⟨J225, j225, w⟩ := w
          have Q225 : ∀ (x224 : Int), rg x224 → J225 x224 → RR sc goal fs 0 1509 [some (.ref 0), some (rv 2), some (rv 437), some (rv 467), some (.int (J x1)), d2, d3, d4, d5] [.int (J x224), rv 2] h6 := by
            intro x224 rx224 z225
            have w := j225 x224 rx224 z225
            refine r_iv rfl rfl rfl rfl rfl rfl t6 (lyk t6 rfl) rfl (xe_of (xa_r (xa_i xa_0)) rfl rfl) (r_d0 hd rfl) (a_X12_solve x224 (r_d1 hd rfl) rx224 w t6 (fun x226 h227 t227 u227 rx226 w => ?_))
            refine r_fI (pc1 := 1512) rfl ?_
            have s227 := HX_trans s6 u227
            have w := w t227 u227
            have w := w rx226
            refine r_aldn (pc1 := 1513) rfl rfl rfl ?_
            refine r_n (pc1 := 1514) [.ref 0, rv 437, .int (J x226)] _ rfl rfl ?_
            refine r_n (pc1 := 1516) [.int (J x1), .ref 0, rv 437, .int (J x226)] _ rfl rfl ?_
            refine r_n (pc1 := 1517) [.int (J 1), .int (J x1), .ref 0, rv 437, .int (J x226)] _ rfl rfl ?_
            refine r_iadd (pc1 := 1518) rfl rfl ?_
            refine r_sal (pc1 := 1519) rfl rfl t227 (rgw _) c223.1 c223.2 ?_
            obtain ⟨J229, j229, w⟩ := w
            have Q229 : ∀ (x228 : Int), rg x228 → J229 x228 → RR sc goal fs 0 1527 [some (.ref 0), some (rv 2), some (rv 437), some (rv 467), some (.int (J x1)), d2, d3, d4, d5] [.int (J x228), rv 437, .int (J x226)] h227 := by
              intro x228 rx228 z229
              have w := j229 x228 rx228 z229
              refine r_iv rfl rfl rfl rfl rfl rfl t227 (lyk t227 rfl) rfl (xe_of (xa_r (xa_i xa_0)) rfl rfl) (r_d0 hd rfl) (a_X14_solve x228 (r_d1 hd rfl) rx228 w t227 (fun x230 h231 t231 u231 rx230 w => ?_))
              refine r_fI (pc1 := 1530) rfl ?_
              have s231 := HX_trans s227 u231
              have w := w t231 u231
              have w := w rx230
              refine r_ic (t := 3466) (pc1 := 1533) rfl rfl rfl rx226 rx230 (fun c232 => ?_) (fun c232 => ?_)
              · have w := w.1 c232
                exact Q14 _ _ _ _  h231 t231 s231  w
              · have w := w.2 c232
                refine r_n (pc1 := 1534) [.int (J 0)] _ rfl rfl ?_
                exact r_retB rfl rfl rfl (.inl rfl) (k _ _ t231 s231 (rgk rfl) (.inl rfl) w)
            refine r_iz (t := 1526) (pc1 := 1522) rfl rfl rfl (rgt _) (fun c233 => ?_) (fun c233 => ?_)
            · have w := w.1 c233
              refine r_n (pc1 := 1527) [.int (J 0), rv 437, .int (J x226)] _ rfl rfl ?_
              exact Q229  0  (rgk rfl) w
            · have w := w.2 c233
              refine r_n (pc1 := 1523) [.int (J 1), rv 437, .int (J x226)] _ rfl rfl ?_
              refine r_goto (t := 1527) rfl rfl ?_
              exact Q229  1  (rgk rfl) w
          refine r_iz (t := 1508) (pc1 := 1504) rfl rfl rfl (rgt _) (fun c234 => ?_) (fun c234 => ?_)
          · have w := w.1 c234
            refine r_n (pc1 := 1509) [.int (J 0), rv 2] _ rfl rfl ?_
            exact Q225  0  (rgk rfl) w
          · have w := w.2 c234
            refine r_n (pc1 := 1505) [.int (J 1), rv 2] _ rfl rfl ?_
            refine r_goto (t := 1509) rfl rfl ?_
            exact Q225  1  (rgk rfl) w
        · have w := w.2.2.2.2.2.2.2.2.2.2.2.2.2.2.2.2.2.2.2.2.1 c16
          refine r_aldn (pc1 := 1536) rfl rfl rfl ?_
          refine r_n (pc1 := 1537) [.ref 0, rv 2] _ rfl rfl ?_
          refine r_n (pc1 := 1539) [.int (J x1), .ref 0, rv 2] _ rfl rfl ?_
          refine r_n (pc1 := 1540) [.int (J 1), .int (J x1), .ref 0, rv 2] _ rfl rfl ?_
          refine r_iadd (pc1 := 1541) rfl rfl ?_
          obtain ⟨c235, w⟩ := w
          refine r_sal (pc1 := 1542) rfl rfl t6 (rgw _) c235.1 c235.2 ?_
          refine r_aldn (pc1 := 1543) rfl rfl rfl ?_
          refine r_iq rfl rfl rfl rfl rfl rfl (xe_of (xa_r (xa_i (xa_r xa_0))) rfl rfl) (r_d0 hd rfl) (a_L_versionOf ((sc.2 (wr (x1 + 1)).toNat).toInt) (r_d1 hd rfl) (rgt _) w t6 (fun x236 h237 t237 u237 rx236 w => ?_))
          refine r_fI (pc1 := 1546) rfl ?_
          have s237 := HX_trans s6 u237
          have w := w t237 u237
          have w := w rx236
          refine r_ist (pc1 := 1548) (ls1 := [some (.ref 0), some (rv 2), some (rv 437), some (rv 467), some (.int (J x1)), some (.int (J x236)), d3, d4, d5]) rfl rfl rfl rfl ?_
          refine r_aldn (pc1 := 1549) rfl rfl rfl ?_
          refine r_n (pc1 := 1550) [.ref 0, rv 437] _ rfl rfl ?_
          refine r_n (pc1 := 1552) [.int (J x1), .ref 0, rv 437] _ rfl rfl ?_
          refine r_n (pc1 := 1553) [.int (J 1), .int (J x1), .ref 0, rv 437] _ rfl rfl ?_
          refine r_iadd (pc1 := 1554) rfl rfl ?_
          refine r_sal (pc1 := 1555) rfl rfl t237 (rgw _) c235.1 c235.2 ?_
          refine r_iv rfl rfl rfl rfl rfl rfl t237 (lyk t237 rfl) rfl (xe_of (xa_r (xa_i xa_0)) rfl rfl) (r_d0 hd rfl) (a_X14_versionOf ((sc.2 (wr (x1 + 1)).toNat).toInt) (r_d1 hd rfl) (rgt _) w t237 (fun x238 h239 t239 u239 rx238 w => ?_))
          refine r_fI (pc1 := 1558) rfl ?_
          have s239 := HX_trans s237 u239
          have w := w t239 u239
          have w := w rx238
          refine r_ist (pc1 := 1560) (ls1 := [some (.ref 0), some (rv 2), some (rv 437), some (rv 467), some (.int (J x1)), some (.int (J x236)), some (.int (J x238)), d4, d5]) rfl rfl rfl rfl ?_
          refine r_aldn (pc1 := 1561) rfl rfl rfl ?_
          refine r_iv rfl rfl rfl rfl rfl rfl t239 (lyk t239 rfl) rfl (xe_of (xa_r xa_0) rfl rfl) (r_d0 hd rfl) (a_X14_thrown  (r_d1 hd rfl)  w t239 (fun x240 rx240 w => ?_))
          refine r_fI (pc1 := 1564) rfl ?_
          have w := w rx240
          refine r_n (pc1 := 1566) [.int (J x236), .int (J x240)] _ rfl rfl ?_
          refine r_ic (t := 1571) (pc1 := 1569) rfl rfl rfl rx240 rx236 (fun c244 => ?_) (fun c244 => ?_)
          · have w := w.1 c244
            refine r_n (pc1 := 1573) [.int (J x236)] _ rfl rfl ?_
            obtain ⟨J241, j241, w⟩ := w
            have Q241 : J241 → RR sc goal fs 0 1588 [some (.ref 0), some (rv 2), some (rv 437), some (rv 467), some (.int (J x1)), some (.int (J x236)), some (.int (J x238)), d4, d5] [] h239 := by
              intro z241
              have w := j241 z241
              refine r_goto (t := 3466) rfl rfl ?_
              exact Q14 _ _ _ _  h239 t239 s239  w
            refine r_iz (t := 1588) (pc1 := 1576) rfl rfl rfl rx236 (fun c243 => ?_) (fun c243 => ?_)
            · have w := w.1 c243
              exact Q241     w
            · have w := w.2 c243
              refine r_aldn (pc1 := 1577) rfl rfl rfl ?_
              refine r_n (pc1 := 1578) [.int (J 0), rv 467] _ rfl rfl ?_
              refine r_lal (pc1 := 1579) rfl rfl t239 (lyk t239 rfl) (rgk rfl) (by decide) (lt_len (lyn t239 rfl) (by decide)) ?_
              refine r_n (pc1 := 1581) [.int (J x238), .long (G (hL h239 467 0))] _ rfl rfl ?_
              refine r_i2l (pc1 := 1582) rfl rfl ?_
              refine r_lc (pc2 := 1583) (t := 1588) (pc1 := 1586) rfl rfl rfl rfl rfl (fun c242 => ?_) (fun c242 => ?_)
              · have w := w.1 c242
                exact Q241     w
              · have w := w.2 c242
                refine r_n (pc1 := 1587) [.int (J 0)] _ rfl rfl ?_
                exact r_retB rfl rfl rfl (.inl rfl) (k _ _ t239 s239 (rgk rfl) (.inl rfl) w)
          · have w := w.2 c244
            refine r_n (pc1 := 1570) [.int (J 0)] _ rfl rfl ?_
            exact r_retB rfl rfl rfl (.inl rfl) (k _ _ t239 s239 (rgk rfl) (.inl rfl) w)
        · have w := w.2.2.2.2.2.2.2.2.2.2.2.2.2.2.2.2.2.2.2.2.2.1 c16
          refine r_aldn (pc1 := 1592) rfl rfl rfl ?_
          refine r_n (pc1 := 1593) [.ref 0, rv 2] _ rfl rfl ?_
          refine r_n (pc1 := 1595) [.int (J x1), .ref 0, rv 2] _ rfl rfl ?_
          refine r_n (pc1 := 1596) [.int (J 1), .int (J x1), .ref 0, rv 2] _ rfl rfl ?_
          refine r_iadd (pc1 := 1597) rfl rfl ?_
          obtain ⟨c245, w⟩ := w
          refine r_sal (pc1 := 1598) rfl rfl t6 (rgw _) c245.1 c245.2 ?_
          refine r_aldn (pc1 := 1599) rfl rfl rfl ?_
          refine r_iq rfl rfl rfl rfl rfl rfl (xe_of (xa_r (xa_i (xa_r xa_0))) rfl rfl) (r_d0 hd rfl) (a_L_isOn ((sc.2 (wr (x1 + 1)).toNat).toInt) (r_d1 hd rfl) (rgt _) w t6 (fun x246 h247 t247 u247 rx246 w => ?_))
          refine r_fI (pc1 := 1602) rfl ?_
          have s247 := HX_trans s6 u247
          have w := w t247 u247
          have w := w rx246
          refine r_ist (pc1 := 1604) (ls1 := [some (.ref 0), some (rv 2), some (rv 437), some (rv 467), some (.int (J x1)), some (.int (J x246)), d3, d4, d5]) rfl rfl rfl rfl ?_
          refine r_aldn (pc1 := 1605) rfl rfl rfl ?_
          refine r_n (pc1 := 1606) [.ref 0, rv 437] _ rfl rfl ?_
          refine r_n (pc1 := 1608) [.int (J x1), .ref 0, rv 437] _ rfl rfl ?_
          refine r_n (pc1 := 1609) [.int (J 1), .int (J x1), .ref 0, rv 437] _ rfl rfl ?_
          refine r_iadd (pc1 := 1610) rfl rfl ?_
          refine r_sal (pc1 := 1611) rfl rfl t247 (rgw _) c245.1 c245.2 ?_
          refine r_iv rfl rfl rfl rfl rfl rfl t247 (lyk t247 rfl) rfl (xe_of (xa_r (xa_i xa_0)) rfl rfl) (r_d0 hd rfl) (a_X14_isOn ((sc.2 (wr (x1 + 1)).toNat).toInt) (r_d1 hd rfl) (rgt _) w t247 (fun x248 h249 t249 u249 rx248 vx248 w => ?_))
          refine r_fI (pc1 := 1614) rfl ?_
          have s249 := HX_trans s247 u249
          have w := w t249 u249
          have w := w rx248 vx248
          refine r_ist (pc1 := 1616) (ls1 := [some (.ref 0), some (rv 2), some (rv 437), some (rv 467), some (.int (J x1)), some (.int (J x246)), some (.int (J x248)), d4, d5]) rfl rfl rfl rfl ?_
          refine r_aldn (pc1 := 1617) rfl rfl rfl ?_
          refine r_iv rfl rfl rfl rfl rfl rfl t249 (lyk t249 rfl) rfl (xe_of (xa_r xa_0) rfl rfl) (r_d0 hd rfl) (a_X14_thrown  (r_d1 hd rfl)  w t249 (fun x250 rx250 w => ?_))
          refine r_fI (pc1 := 1620) rfl ?_
          have w := w rx250
          refine r_n (pc1 := 1622) [.int (J x246), .int (J x250)] _ rfl rfl ?_
          refine r_ic (t := 1627) (pc1 := 1625) rfl rfl rfl rx250 rx246 (fun c257 => ?_) (fun c257 => ?_)
          · have w := w.1 c257
            refine r_n (pc1 := 1629) [.int (J x246)] _ rfl rfl ?_
            obtain ⟨J251, j251, w⟩ := w
            have Q251 : J251 → RR sc goal fs 0 1651 [some (.ref 0), some (rv 2), some (rv 437), some (rv 467), some (.int (J x1)), some (.int (J x246)), some (.int (J x248)), d4, d5] [] h249 := by
              intro z251
              have w := j251 z251
              refine r_goto (t := 3466) rfl rfl ?_
              exact Q14 _ _ _ _  h249 t249 s249  w
            refine r_iz (t := 1651) (pc1 := 1632) rfl rfl rfl rx246 (fun c256 => ?_) (fun c256 => ?_)
            · have w := w.1 c256
              exact Q251     w
            · have w := w.2 c256
              refine r_aldn (pc1 := 1633) rfl rfl rfl ?_
              refine r_n (pc1 := 1634) [.int (J 0), rv 467] _ rfl rfl ?_
              refine r_lal (pc1 := 1635) rfl rfl t249 (lyk t249 rfl) (rgk rfl) (by decide) (lt_len (lyn t249 rfl) (by decide)) ?_
              refine r_n (pc1 := 1637) [.int (J x248), .long (G (hL h249 467 0))] _ rfl rfl ?_
              obtain ⟨J253, j253, w⟩ := w
              have Q253 : ∀ (b252 : BitVec 64), J253 b252 → RR sc goal fs 0 1645 [some (.ref 0), some (rv 2), some (rv 437), some (rv 467), some (.int (J x1)), some (.int (J x246)), some (.int (J x248)), d4, d5] [.long (G b252), .long (G (hL h249 467 0))] h249 := by
                intro b252 z253
                have w := j253 b252 z253
                refine r_lc (pc2 := 1646) (t := 1651) (pc1 := 1649) rfl rfl rfl rfl rfl (fun c254 => ?_) (fun c254 => ?_)
                · have w := w.1 c254
                  exact Q251     w
                · have w := w.2 c254
                  refine r_n (pc1 := 1650) [.int (J 0)] _ rfl rfl ?_
                  exact r_retB rfl rfl rfl (.inl rfl) (k _ _ t249 s249 (rgk rfl) (.inl rfl) w)
              refine r_iz (t := 1644) (pc1 := 1640) rfl rfl rfl rx248 (fun c255 => ?_) (fun c255 => ?_)
              · have w := w.1 c255
                refine r_n (pc1 := 1645) [.long (G (0#64)), .long (G (hL h249 467 0))] _ rfl rfl ?_
                exact Q253  (0#64)   w
              · have w := w.2 c255
                refine r_n (pc1 := 1641) [.long (G (1#64)), .long (G (hL h249 467 0))] _ rfl rfl ?_
                refine r_goto (t := 1645) rfl rfl ?_
                exact Q253  (1#64)   w
          · have w := w.2 c257
            refine r_n (pc1 := 1626) [.int (J 0)] _ rfl rfl ?_
            exact r_retB rfl rfl rfl (.inl rfl) (k _ _ t249 s249 (rgk rfl) (.inl rfl) w)
        · have w := w.2.2.2.2.2.2.2.2.2.2.2.2.2.2.2.2.2.2.2.2.2.2.1 c16
          refine r_aldn (pc1 := 1655) rfl rfl rfl ?_
          refine r_iv rfl rfl rfl rfl rfl rfl t6 (lyk t6 rfl) rfl (xe_of (xa_r xa_0) rfl rfl) (r_d0 hd rfl) (a_X12_changes  (r_d1 hd rfl)  w t6 (fun x258 rx258 w => ?_))
          refine r_fI (pc1 := 1658) rfl ?_
          have w := w rx258
          refine r_aldn (pc1 := 1659) rfl rfl rfl ?_
          refine r_iv rfl rfl rfl rfl rfl rfl t6 (lyk t6 rfl) rfl (xe_of (xa_r xa_0) rfl rfl) (r_d0 hd rfl) (a_X14_changes  (r_d1 hd rfl)  w t6 (fun x259 h260 t260 u260 rx259 w => ?_))
          refine r_fI (pc1 := 1662) rfl ?_
          have s260 := HX_trans s6 u260
          have w := w t260 u260
          have w := w rx259
          refine r_ic (t := 3466) (pc1 := 1665) rfl rfl rfl rx258 rx259 (fun c261 => ?_) (fun c261 => ?_)
          · have w := w.1 c261
            exact Q14 _ _ _ _  h260 t260 s260  w
          · have w := w.2 c261
            refine r_n (pc1 := 1666) [.int (J 0)] _ rfl rfl ?_
            exact r_retB rfl rfl rfl (.inl rfl) (k _ _ t260 s260 (rgk rfl) (.inl rfl) w)
        · have w := w.2.2.2.2.2.2.2.2.2.2.2.2.2.2.2.2.2.2.2.2.2.2.2.1 c16
          refine r_aldn (pc1 := 1668) rfl rfl rfl ?_
          refine r_n (pc1 := 1669) [.ref 0, rv 2] _ rfl rfl ?_
          refine r_n (pc1 := 1671) [.int (J x1), .ref 0, rv 2] _ rfl rfl ?_
          refine r_n (pc1 := 1672) [.int (J 1), .int (J x1), .ref 0, rv 2] _ rfl rfl ?_
          refine r_iadd (pc1 := 1673) rfl rfl ?_
          obtain ⟨c262, w⟩ := w
          refine r_sal (pc1 := 1674) rfl rfl t6 (rgw _) c262.1 c262.2 ?_
          refine r_n (pc1 := 1675) [.ref 0, .int (J ((sc.2 (wr (x1 + 1)).toNat).toInt)), rv 2] _ rfl rfl ?_
          refine r_n (pc1 := 1677) [.int (J x1), .ref 0, .int (J ((sc.2 (wr (x1 + 1)).toNat).toInt)), rv 2] _ rfl rfl ?_
          refine r_n (pc1 := 1678) [.int (J 2), .int (J x1), .ref 0, .int (J ((sc.2 (wr (x1 + 1)).toNat).toInt)), rv 2] _ rfl rfl ?_
          refine r_iadd (pc1 := 1679) rfl rfl ?_
          obtain ⟨c263, w⟩ := w
          refine r_sal (pc1 := 1680) rfl rfl t6 (rgw _) c263.1 c263.2 ?_
          refine r_aldn (pc1 := 1681) rfl rfl rfl ?_
          refine r_iq rfl rfl rfl rfl rfl rfl (xe_of (xa_r (xa_i (xa_i (xa_r xa_0)))) rfl rfl) (r_d0 hd rfl) (a_L_must ((sc.2 (wr (x1 + 1)).toNat).toInt) ((sc.2 (wr (x1 + 2)).toNat).toInt) (r_d1 hd rfl) (rgt _) (rgt _) w t6 (fun x264 h265 t265 u265 rx264 w => ?_))
          refine r_fI (pc1 := 1684) rfl ?_
          have s265 := HX_trans s6 u265
          have w := w t265 u265
          have w := w rx264
          refine r_ist (pc1 := 1686) (ls1 := [some (.ref 0), some (rv 2), some (rv 437), some (rv 467), some (.int (J x1)), some (.int (J x264)), d3, d4, d5]) rfl rfl rfl rfl ?_
          refine r_aldn (pc1 := 1687) rfl rfl rfl ?_
          refine r_n (pc1 := 1688) [.ref 0, rv 437] _ rfl rfl ?_
          refine r_n (pc1 := 1690) [.int (J x1), .ref 0, rv 437] _ rfl rfl ?_
          refine r_n (pc1 := 1691) [.int (J 1), .int (J x1), .ref 0, rv 437] _ rfl rfl ?_
          refine r_iadd (pc1 := 1692) rfl rfl ?_
          refine r_sal (pc1 := 1693) rfl rfl t265 (rgw _) c262.1 c262.2 ?_
          refine r_n (pc1 := 1694) [.ref 0, .int (J ((sc.2 (wr (x1 + 1)).toNat).toInt)), rv 437] _ rfl rfl ?_
          refine r_n (pc1 := 1696) [.int (J x1), .ref 0, .int (J ((sc.2 (wr (x1 + 1)).toNat).toInt)), rv 437] _ rfl rfl ?_
          refine r_n (pc1 := 1697) [.int (J 2), .int (J x1), .ref 0, .int (J ((sc.2 (wr (x1 + 1)).toNat).toInt)), rv 437] _ rfl rfl ?_
          refine r_iadd (pc1 := 1698) rfl rfl ?_
          refine r_sal (pc1 := 1699) rfl rfl t265 (rgw _) c263.1 c263.2 ?_
          refine r_iv rfl rfl rfl rfl rfl rfl t265 (lyk t265 rfl) rfl (xe_of (xa_r (xa_i (xa_i xa_0))) rfl rfl) (r_d0 hd rfl) (a_X14_must ((sc.2 (wr (x1 + 1)).toNat).toInt) ((sc.2 (wr (x1 + 2)).toNat).toInt) (r_d1 hd rfl) (rgt _) (rgt _) w t265 (fun x266 h267 t267 u267 rx266 w => ?_))
          refine r_fI (pc1 := 1702) rfl ?_
          have s267 := HX_trans s265 u267
          have w := w t267 u267
          have w := w rx266
          refine r_ist (pc1 := 1704) (ls1 := [some (.ref 0), some (rv 2), some (rv 437), some (rv 467), some (.int (J x1)), some (.int (J x264)), some (.int (J x266)), d4, d5]) rfl rfl rfl rfl ?_
          refine r_aldn (pc1 := 1705) rfl rfl rfl ?_
          refine r_iv rfl rfl rfl rfl rfl rfl t267 (lyk t267 rfl) rfl (xe_of (xa_r xa_0) rfl rfl) (r_d0 hd rfl) (a_X14_thrown  (r_d1 hd rfl)  w t267 (fun x268 rx268 w => ?_))
          refine r_fI (pc1 := 1708) rfl ?_
          have w := w rx268
          refine r_n (pc1 := 1710) [.int (J x264), .int (J x268)] _ rfl rfl ?_
          refine r_ic (t := 1715) (pc1 := 1713) rfl rfl rfl rx268 rx264 (fun c272 => ?_) (fun c272 => ?_)
          · have w := w.1 c272
            refine r_n (pc1 := 1717) [.int (J x264)] _ rfl rfl ?_
            obtain ⟨J269, j269, w⟩ := w
            have Q269 : J269 → RR sc goal fs 0 1732 [some (.ref 0), some (rv 2), some (rv 437), some (rv 467), some (.int (J x1)), some (.int (J x264)), some (.int (J x266)), d4, d5] [] h267 := by
              intro z269
              have w := j269 z269
              refine r_goto (t := 3466) rfl rfl ?_
              exact Q14 _ _ _ _  h267 t267 s267  w
            refine r_iz (t := 1732) (pc1 := 1720) rfl rfl rfl rx264 (fun c271 => ?_) (fun c271 => ?_)
            · have w := w.1 c271
              exact Q269     w
            · have w := w.2 c271
              refine r_aldn (pc1 := 1721) rfl rfl rfl ?_
              refine r_n (pc1 := 1722) [.int (J 0), rv 467] _ rfl rfl ?_
              refine r_lal (pc1 := 1723) rfl rfl t267 (lyk t267 rfl) (rgk rfl) (by decide) (lt_len (lyn t267 rfl) (by decide)) ?_
              refine r_n (pc1 := 1725) [.int (J x266), .long (G (hL h267 467 0))] _ rfl rfl ?_
              refine r_i2l (pc1 := 1726) rfl rfl ?_
              refine r_lc (pc2 := 1727) (t := 1732) (pc1 := 1730) rfl rfl rfl rfl rfl (fun c270 => ?_) (fun c270 => ?_)
              · have w := w.1 c270
                exact Q269     w
              · have w := w.2 c270
                refine r_n (pc1 := 1731) [.int (J 0)] _ rfl rfl ?_
                exact r_retB rfl rfl rfl (.inl rfl) (k _ _ t267 s267 (rgk rfl) (.inl rfl) w)
          · have w := w.2 c272
            refine r_n (pc1 := 1714) [.int (J 0)] _ rfl rfl ?_
            exact r_retB rfl rfl rfl (.inl rfl) (k _ _ t267 s267 (rgk rfl) (.inl rfl) w)
        · have w := w.2.2.2.2.2.2.2.2.2.2.2.2.2.2.2.2.2.2.2.2.2.2.2.2.1 c16
          refine r_aldn (pc1 := 1736) rfl rfl rfl ?_
          refine r_iv rfl rfl rfl rfl rfl rfl t6 (lyk t6 rfl) rfl (xe_of (xa_r xa_0) rfl rfl) (r_d0 hd rfl) (a_X12_fitting  (r_d1 hd rfl)  w t6 (fun x273 h274 t274 u274 rx273 w => ?_))
          refine r_fI (pc1 := 1739) rfl ?_
          have s274 := HX_trans s6 u274
          have w := w t274 u274
          have w := w rx273
          refine r_aldn (pc1 := 1740) rfl rfl rfl ?_
          refine r_iv rfl rfl rfl rfl rfl rfl t274 (lyk t274 rfl) rfl (xe_of (xa_r xa_0) rfl rfl) (r_d0 hd rfl) (a_X14_fitting  (r_d1 hd rfl)  w t274 (fun x275 h276 t276 u276 rx275 w => ?_))
          refine r_fI (pc1 := 1743) rfl ?_
          have s276 := HX_trans s274 u276
          have w := w t276 u276
          have w := w rx275
          refine r_ic (t := 3466) (pc1 := 1746) rfl rfl rfl rx273 rx275 (fun c277 => ?_) (fun c277 => ?_)
          · have w := w.1 c277
            exact Q14 _ _ _ _  h276 t276 s276  w
          · have w := w.2 c277
            refine r_n (pc1 := 1747) [.int (J 0)] _ rfl rfl ?_
            exact r_retB rfl rfl rfl (.inl rfl) (k _ _ t276 s276 (rgk rfl) (.inl rfl) w)
        · have w := w.2.2.2.2.2.2.2.2.2.2.2.2.2.2.2.2.2.2.2.2.2.2.2.2.2.1 c16
          refine r_aldn (pc1 := 1749) rfl rfl rfl ?_
          refine r_n (pc1 := 1750) [.ref 0, rv 2] _ rfl rfl ?_
          refine r_n (pc1 := 1752) [.int (J x1), .ref 0, rv 2] _ rfl rfl ?_
          refine r_n (pc1 := 1753) [.int (J 1), .int (J x1), .ref 0, rv 2] _ rfl rfl ?_
          refine r_iadd (pc1 := 1754) rfl rfl ?_
          obtain ⟨c278, w⟩ := w
          refine r_sal (pc1 := 1755) rfl rfl t6 (rgw _) c278.1 c278.2 ?_
          refine r_aldn (pc1 := 1756) rfl rfl rfl ?_
          refine r_iq rfl rfl rfl rfl rfl rfl (xe_of (xa_r (xa_i (xa_r xa_0))) rfl rfl) (r_d0 hd rfl) (a_L_because ((sc.2 (wr (x1 + 1)).toNat).toInt) (r_d1 hd rfl) (rgt _) w t6 (fun x279 h280 t280 u280 rx279 w => ?_))
          refine r_fI (pc1 := 1759) rfl ?_
          have s280 := HX_trans s6 u280
          have w := w t280 u280
          have w := w rx279
          refine r_ist (pc1 := 1761) (ls1 := [some (.ref 0), some (rv 2), some (rv 437), some (rv 467), some (.int (J x1)), some (.int (J x279)), d3, d4, d5]) rfl rfl rfl rfl ?_
          refine r_aldn (pc1 := 1762) rfl rfl rfl ?_
          refine r_n (pc1 := 1763) [.ref 0, rv 437] _ rfl rfl ?_
          refine r_n (pc1 := 1765) [.int (J x1), .ref 0, rv 437] _ rfl rfl ?_
          refine r_n (pc1 := 1766) [.int (J 1), .int (J x1), .ref 0, rv 437] _ rfl rfl ?_
          refine r_iadd (pc1 := 1767) rfl rfl ?_
          refine r_sal (pc1 := 1768) rfl rfl t280 (rgw _) c278.1 c278.2 ?_
          refine r_iv rfl rfl rfl rfl rfl rfl t280 (lyk t280 rfl) rfl (xe_of (xa_r (xa_i xa_0)) rfl rfl) (r_d0 hd rfl) (a_X14_because ((sc.2 (wr (x1 + 1)).toNat).toInt) (r_d1 hd rfl) (rgt _) w t280 (fun x281 h282 t282 u282 rx281 w => ?_))
          refine r_fI (pc1 := 1771) rfl ?_
          have s282 := HX_trans s280 u282
          have w := w t282 u282
          have w := w rx281
          refine r_ist (pc1 := 1773) (ls1 := [some (.ref 0), some (rv 2), some (rv 437), some (rv 467), some (.int (J x1)), some (.int (J x279)), some (.int (J x281)), d4, d5]) rfl rfl rfl rfl ?_
          refine r_aldn (pc1 := 1774) rfl rfl rfl ?_
          refine r_iv rfl rfl rfl rfl rfl rfl t282 (lyk t282 rfl) rfl (xe_of (xa_r xa_0) rfl rfl) (r_d0 hd rfl) (a_X14_thrown  (r_d1 hd rfl)  w t282 (fun x283 rx283 w => ?_))
          refine r_fI (pc1 := 1777) rfl ?_
          have w := w rx283
          refine r_n (pc1 := 1779) [.int (J x279), .int (J x283)] _ rfl rfl ?_
          refine r_ic (t := 1784) (pc1 := 1782) rfl rfl rfl rx283 rx279 (fun c287 => ?_) (fun c287 => ?_)
          · have w := w.1 c287
            refine r_n (pc1 := 1786) [.int (J x279)] _ rfl rfl ?_
            obtain ⟨J284, j284, w⟩ := w
            have Q284 : J284 → RR sc goal fs 0 1801 [some (.ref 0), some (rv 2), some (rv 437), some (rv 467), some (.int (J x1)), some (.int (J x279)), some (.int (J x281)), d4, d5] [] h282 := by
              intro z284
              have w := j284 z284
              refine r_goto (t := 3466) rfl rfl ?_
              exact Q14 _ _ _ _  h282 t282 s282  w
            refine r_iz (t := 1801) (pc1 := 1789) rfl rfl rfl rx279 (fun c286 => ?_) (fun c286 => ?_)
            · have w := w.1 c286
              exact Q284     w
            · have w := w.2 c286
              refine r_aldn (pc1 := 1790) rfl rfl rfl ?_
              refine r_n (pc1 := 1791) [.int (J 0), rv 467] _ rfl rfl ?_
              refine r_lal (pc1 := 1792) rfl rfl t282 (lyk t282 rfl) (rgk rfl) (by decide) (lt_len (lyn t282 rfl) (by decide)) ?_
              refine r_n (pc1 := 1794) [.int (J x281), .long (G (hL h282 467 0))] _ rfl rfl ?_
              refine r_i2l (pc1 := 1795) rfl rfl ?_
              refine r_lc (pc2 := 1796) (t := 1801) (pc1 := 1799) rfl rfl rfl rfl rfl (fun c285 => ?_) (fun c285 => ?_)
              · have w := w.1 c285
                exact Q284     w
              · have w := w.2 c285
                refine r_n (pc1 := 1800) [.int (J 0)] _ rfl rfl ?_
                exact r_retB rfl rfl rfl (.inl rfl) (k _ _ t282 s282 (rgk rfl) (.inl rfl) w)
          · have w := w.2 c287
            refine r_n (pc1 := 1783) [.int (J 0)] _ rfl rfl ?_
            exact r_retB rfl rfl rfl (.inl rfl) (k _ _ t282 s282 (rgk rfl) (.inl rfl) w)
        · have w := w.2.2.2.2.2.2.2.2.2.2.2.2.2.2.2.2.2.2.2.2.2.2.2.2.2.2.1 c16
          refine r_aldn (pc1 := 1805) rfl rfl rfl ?_
          refine r_n (pc1 := 1806) [.ref 0, rv 2] _ rfl rfl ?_
          refine r_n (pc1 := 1808) [.int (J x1), .ref 0, rv 2] _ rfl rfl ?_
          refine r_n (pc1 := 1809) [.int (J 1), .int (J x1), .ref 0, rv 2] _ rfl rfl ?_
          refine r_iadd (pc1 := 1810) rfl rfl ?_
          obtain ⟨c288, w⟩ := w
          refine r_sal (pc1 := 1811) rfl rfl t6 (rgw _) c288.1 c288.2 ?_
          refine r_aldn (pc1 := 1812) rfl rfl rfl ?_
          refine r_iq rfl rfl rfl rfl rfl rfl (xe_of (xa_r (xa_i (xa_r xa_0))) rfl rfl) (r_d0 hd rfl) (a_L_far ((sc.2 (wr (x1 + 1)).toNat).toInt) (r_d1 hd rfl) (rgt _) w t6 (fun x289 h290 t290 u290 rx289 w => ?_))
          refine r_fI (pc1 := 1815) rfl ?_
          have s290 := HX_trans s6 u290
          have w := w t290 u290
          have w := w rx289
          refine r_ist (pc1 := 1817) (ls1 := [some (.ref 0), some (rv 2), some (rv 437), some (rv 467), some (.int (J x1)), some (.int (J x289)), d3, d4, d5]) rfl rfl rfl rfl ?_
          refine r_aldn (pc1 := 1818) rfl rfl rfl ?_
          refine r_n (pc1 := 1819) [.ref 0, rv 437] _ rfl rfl ?_
          refine r_n (pc1 := 1821) [.int (J x1), .ref 0, rv 437] _ rfl rfl ?_
          refine r_n (pc1 := 1822) [.int (J 1), .int (J x1), .ref 0, rv 437] _ rfl rfl ?_
          refine r_iadd (pc1 := 1823) rfl rfl ?_
          refine r_sal (pc1 := 1824) rfl rfl t290 (rgw _) c288.1 c288.2 ?_
          refine r_iv rfl rfl rfl rfl rfl rfl t290 (lyk t290 rfl) rfl (xe_of (xa_r (xa_i xa_0)) rfl rfl) (r_d0 hd rfl) (a_X14_far ((sc.2 (wr (x1 + 1)).toNat).toInt) (r_d1 hd rfl) (rgt _) w t290 (fun x291 h292 t292 u292 rx291 w => ?_))
          refine r_fI (pc1 := 1827) rfl ?_
          have s292 := HX_trans s290 u292
          have w := w t292 u292
          have w := w rx291
          refine r_ist (pc1 := 1829) (ls1 := [some (.ref 0), some (rv 2), some (rv 437), some (rv 467), some (.int (J x1)), some (.int (J x289)), some (.int (J x291)), d4, d5]) rfl rfl rfl rfl ?_
          refine r_aldn (pc1 := 1830) rfl rfl rfl ?_
          refine r_iv rfl rfl rfl rfl rfl rfl t292 (lyk t292 rfl) rfl (xe_of (xa_r xa_0) rfl rfl) (r_d0 hd rfl) (a_X14_thrown  (r_d1 hd rfl)  w t292 (fun x293 rx293 w => ?_))
          refine r_fI (pc1 := 1833) rfl ?_
          have w := w rx293
          refine r_n (pc1 := 1835) [.int (J x289), .int (J x293)] _ rfl rfl ?_
          refine r_ic (t := 1840) (pc1 := 1838) rfl rfl rfl rx293 rx289 (fun c297 => ?_) (fun c297 => ?_)
          · have w := w.1 c297
            refine r_n (pc1 := 1842) [.int (J x289)] _ rfl rfl ?_
            obtain ⟨J294, j294, w⟩ := w
            have Q294 : J294 → RR sc goal fs 0 1857 [some (.ref 0), some (rv 2), some (rv 437), some (rv 467), some (.int (J x1)), some (.int (J x289)), some (.int (J x291)), d4, d5] [] h292 := by
              intro z294
              have w := j294 z294
              refine r_goto (t := 3466) rfl rfl ?_
              exact Q14 _ _ _ _  h292 t292 s292  w
            refine r_iz (t := 1857) (pc1 := 1845) rfl rfl rfl rx289 (fun c296 => ?_) (fun c296 => ?_)
            · have w := w.1 c296
              exact Q294     w
            · have w := w.2 c296
              refine r_aldn (pc1 := 1846) rfl rfl rfl ?_
              refine r_n (pc1 := 1847) [.int (J 0), rv 467] _ rfl rfl ?_
              refine r_lal (pc1 := 1848) rfl rfl t292 (lyk t292 rfl) (rgk rfl) (by decide) (lt_len (lyn t292 rfl) (by decide)) ?_
              refine r_n (pc1 := 1850) [.int (J x291), .long (G (hL h292 467 0))] _ rfl rfl ?_
              refine r_i2l (pc1 := 1851) rfl rfl ?_
              refine r_lc (pc2 := 1852) (t := 1857) (pc1 := 1855) rfl rfl rfl rfl rfl (fun c295 => ?_) (fun c295 => ?_)
              · have w := w.1 c295
                exact Q294     w
              · have w := w.2 c295
                refine r_n (pc1 := 1856) [.int (J 0)] _ rfl rfl ?_
                exact r_retB rfl rfl rfl (.inl rfl) (k _ _ t292 s292 (rgk rfl) (.inl rfl) w)
          · have w := w.2 c297
            refine r_n (pc1 := 1839) [.int (J 0)] _ rfl rfl ?_
            exact r_retB rfl rfl rfl (.inl rfl) (k _ _ t292 s292 (rgk rfl) (.inl rfl) w)
        · have w := w.2.2.2.2.2.2.2.2.2.2.2.2.2.2.2.2.2.2.2.2.2.2.2.2.2.2.2.1 c16
          refine r_aldn (pc1 := 1861) rfl rfl rfl ?_
          refine r_iv rfl rfl rfl rfl rfl rfl t6 (lyk t6 rfl) rfl (xe_of (xa_r xa_0) rfl rfl) (r_d0 hd rfl) (a_X12_core  (r_d1 hd rfl)  w t6 (fun x298 h299 t299 u299 rx298 w => ?_))
          refine r_fI (pc1 := 1864) rfl ?_
          have s299 := HX_trans s6 u299
          have w := w t299 u299
          have w := w rx298
          refine r_aldn (pc1 := 1865) rfl rfl rfl ?_
          refine r_iv rfl rfl rfl rfl rfl rfl t299 (lyk t299 rfl) rfl (xe_of (xa_r xa_0) rfl rfl) (r_d0 hd rfl) (a_X14_core  (r_d1 hd rfl)  w t299 (fun x300 h301 t301 u301 rx300 w => ?_))
          refine r_fI (pc1 := 1868) rfl ?_
          have s301 := HX_trans s299 u301
          have w := w t301 u301
          have w := w rx300
          refine r_ic (t := 3466) (pc1 := 1871) rfl rfl rfl rx298 rx300 (fun c302 => ?_) (fun c302 => ?_)
          · have w := w.1 c302
            exact Q14 _ _ _ _  h301 t301 s301  w
          · have w := w.2 c302
            refine r_n (pc1 := 1872) [.int (J 0)] _ rfl rfl ?_
            exact r_retB rfl rfl rfl (.inl rfl) (k _ _ t301 s301 (rgk rfl) (.inl rfl) w)
        · have w := w.2.2.2.2.2.2.2.2.2.2.2.2.2.2.2.2.2.2.2.2.2.2.2.2.2.2.2.2.1 c16
          refine r_aldn (pc1 := 1874) rfl rfl rfl ?_
          refine r_n (pc1 := 1875) [.ref 0, rv 2] _ rfl rfl ?_
          refine r_n (pc1 := 1877) [.int (J x1), .ref 0, rv 2] _ rfl rfl ?_
          refine r_n (pc1 := 1878) [.int (J 1), .int (J x1), .ref 0, rv 2] _ rfl rfl ?_
          refine r_iadd (pc1 := 1879) rfl rfl ?_
          obtain ⟨c303, w⟩ := w
          refine r_sal (pc1 := 1880) rfl rfl t6 (rgw _) c303.1 c303.2 ?_
          refine r_n (pc1 := 1881) [.ref 0, .int (J ((sc.2 (wr (x1 + 1)).toNat).toInt)), rv 2] _ rfl rfl ?_
          refine r_n (pc1 := 1883) [.int (J x1), .ref 0, .int (J ((sc.2 (wr (x1 + 1)).toNat).toInt)), rv 2] _ rfl rfl ?_
          refine r_n (pc1 := 1884) [.int (J 2), .int (J x1), .ref 0, .int (J ((sc.2 (wr (x1 + 1)).toNat).toInt)), rv 2] _ rfl rfl ?_
          refine r_iadd (pc1 := 1885) rfl rfl ?_
          obtain ⟨c304, w⟩ := w
          refine r_sal (pc1 := 1886) rfl rfl t6 (rgw _) c304.1 c304.2 ?_
          refine r_aldn (pc1 := 1887) rfl rfl rfl ?_
          refine r_iq rfl rfl rfl rfl rfl rfl (xe_of (xa_r (xa_i (xa_i (xa_r xa_0)))) rfl rfl) (r_d0 hd rfl) (a_L_coreAt ((sc.2 (wr (x1 + 1)).toNat).toInt) ((sc.2 (wr (x1 + 2)).toNat).toInt) (r_d1 hd rfl) (rgt _) (rgt _) w t6 (fun x305 h306 t306 u306 rx305 w => ?_))
          refine r_fI (pc1 := 1890) rfl ?_
          have s306 := HX_trans s6 u306
          have w := w t306 u306
          have w := w rx305
          refine r_ist (pc1 := 1892) (ls1 := [some (.ref 0), some (rv 2), some (rv 437), some (rv 467), some (.int (J x1)), some (.int (J x305)), d3, d4, d5]) rfl rfl rfl rfl ?_
          refine r_aldn (pc1 := 1893) rfl rfl rfl ?_
          refine r_n (pc1 := 1894) [.ref 0, rv 437] _ rfl rfl ?_
          refine r_n (pc1 := 1896) [.int (J x1), .ref 0, rv 437] _ rfl rfl ?_
          refine r_n (pc1 := 1897) [.int (J 1), .int (J x1), .ref 0, rv 437] _ rfl rfl ?_
          refine r_iadd (pc1 := 1898) rfl rfl ?_
          refine r_sal (pc1 := 1899) rfl rfl t306 (rgw _) c303.1 c303.2 ?_
          refine r_n (pc1 := 1900) [.ref 0, .int (J ((sc.2 (wr (x1 + 1)).toNat).toInt)), rv 437] _ rfl rfl ?_
          refine r_n (pc1 := 1902) [.int (J x1), .ref 0, .int (J ((sc.2 (wr (x1 + 1)).toNat).toInt)), rv 437] _ rfl rfl ?_
          refine r_n (pc1 := 1903) [.int (J 2), .int (J x1), .ref 0, .int (J ((sc.2 (wr (x1 + 1)).toNat).toInt)), rv 437] _ rfl rfl ?_
          refine r_iadd (pc1 := 1904) rfl rfl ?_
          refine r_sal (pc1 := 1905) rfl rfl t306 (rgw _) c304.1 c304.2 ?_
          refine r_iv rfl rfl rfl rfl rfl rfl t306 (lyk t306 rfl) rfl (xe_of (xa_r (xa_i (xa_i xa_0))) rfl rfl) (r_d0 hd rfl) (a_X14_coreAt ((sc.2 (wr (x1 + 1)).toNat).toInt) ((sc.2 (wr (x1 + 2)).toNat).toInt) (r_d1 hd rfl) (rgt _) (rgt _) w t306 (fun x307 h308 t308 u308 rx307 w => ?_))
          refine r_fI (pc1 := 1908) rfl ?_
          have s308 := HX_trans s306 u308
          have w := w t308 u308
          have w := w rx307
          refine r_ist (pc1 := 1910) (ls1 := [some (.ref 0), some (rv 2), some (rv 437), some (rv 467), some (.int (J x1)), some (.int (J x305)), some (.int (J x307)), d4, d5]) rfl rfl rfl rfl ?_
          refine r_aldn (pc1 := 1911) rfl rfl rfl ?_
          refine r_iv rfl rfl rfl rfl rfl rfl t308 (lyk t308 rfl) rfl (xe_of (xa_r xa_0) rfl rfl) (r_d0 hd rfl) (a_X14_thrown  (r_d1 hd rfl)  w t308 (fun x309 rx309 w => ?_))
          refine r_fI (pc1 := 1914) rfl ?_
          have w := w rx309
          refine r_n (pc1 := 1916) [.int (J x305), .int (J x309)] _ rfl rfl ?_
          refine r_ic (t := 1921) (pc1 := 1919) rfl rfl rfl rx309 rx305 (fun c313 => ?_) (fun c313 => ?_)
          · have w := w.1 c313
            refine r_n (pc1 := 1923) [.int (J x305)] _ rfl rfl ?_
            obtain ⟨J310, j310, w⟩ := w
            have Q310 : J310 → RR sc goal fs 0 1938 [some (.ref 0), some (rv 2), some (rv 437), some (rv 467), some (.int (J x1)), some (.int (J x305)), some (.int (J x307)), d4, d5] [] h308 := by
              intro z310
              have w := j310 z310
              refine r_goto (t := 3466) rfl rfl ?_
              exact Q14 _ _ _ _  h308 t308 s308  w
            refine r_iz (t := 1938) (pc1 := 1926) rfl rfl rfl rx305 (fun c312 => ?_) (fun c312 => ?_)
            · have w := w.1 c312
              exact Q310     w
            · have w := w.2 c312
              refine r_aldn (pc1 := 1927) rfl rfl rfl ?_
              refine r_n (pc1 := 1928) [.int (J 0), rv 467] _ rfl rfl ?_
              refine r_lal (pc1 := 1929) rfl rfl t308 (lyk t308 rfl) (rgk rfl) (by decide) (lt_len (lyn t308 rfl) (by decide)) ?_
              refine r_n (pc1 := 1931) [.int (J x307), .long (G (hL h308 467 0))] _ rfl rfl ?_
              refine r_i2l (pc1 := 1932) rfl rfl ?_
              refine r_lc (pc2 := 1933) (t := 1938) (pc1 := 1936) rfl rfl rfl rfl rfl (fun c311 => ?_) (fun c311 => ?_)
              · have w := w.1 c311
                exact Q310     w
              · have w := w.2 c311
                refine r_n (pc1 := 1937) [.int (J 0)] _ rfl rfl ?_
                exact r_retB rfl rfl rfl (.inl rfl) (k _ _ t308 s308 (rgk rfl) (.inl rfl) w)
          · have w := w.2 c313
            refine r_n (pc1 := 1920) [.int (J 0)] _ rfl rfl ?_
            exact r_retB rfl rfl rfl (.inl rfl) (k _ _ t308 s308 (rgk rfl) (.inl rfl) w)
        · have w := w.2.2.2.2.2.2.2.2.2.2.2.2.2.2.2.2.2.2.2.2.2.2.2.2.2.2.2.2.2.1 c16
          refine r_aldn (pc1 := 1942) rfl rfl rfl ?_
          refine r_iv rfl rfl rfl rfl rfl rfl t6 (lyk t6 rfl) rfl (xe_of (xa_r xa_0) rfl rfl) (r_d0 hd rfl) (a_X12_proof  (r_d1 hd rfl)  w t6 (fun x314 h315 t315 u315 rx314 w => ?_))
          refine r_fI (pc1 := 1945) rfl ?_
          have s315 := HX_trans s6 u315
          have w := w t315 u315
          have w := w rx314
          refine r_aldn (pc1 := 1946) rfl rfl rfl ?_
          refine r_iv rfl rfl rfl rfl rfl rfl t315 (lyk t315 rfl) rfl (xe_of (xa_r xa_0) rfl rfl) (r_d0 hd rfl) (a_X14_proof  (r_d1 hd rfl)  w t315 (fun x316 h317 t317 u317 rx316 w => ?_))
          refine r_fI (pc1 := 1949) rfl ?_
          have s317 := HX_trans s315 u317
          have w := w t317 u317
          have w := w rx316
          refine r_ic (t := 3466) (pc1 := 1952) rfl rfl rfl rx314 rx316 (fun c318 => ?_) (fun c318 => ?_)
          · have w := w.1 c318
            exact Q14 _ _ _ _  h317 t317 s317  w
          · have w := w.2 c318
            refine r_n (pc1 := 1953) [.int (J 0)] _ rfl rfl ?_
            exact r_retB rfl rfl rfl (.inl rfl) (k _ _ t317 s317 (rgk rfl) (.inl rfl) w)
        · have w := w.2.2.2.2.2.2.2.2.2.2.2.2.2.2.2.2.2.2.2.2.2.2.2.2.2.2.2.2.2.2.1 c16
          refine r_aldn (pc1 := 1955) rfl rfl rfl ?_
          refine r_n (pc1 := 1956) [.ref 0, rv 2] _ rfl rfl ?_
          refine r_n (pc1 := 1958) [.int (J x1), .ref 0, rv 2] _ rfl rfl ?_
          refine r_n (pc1 := 1959) [.int (J 1), .int (J x1), .ref 0, rv 2] _ rfl rfl ?_
          refine r_iadd (pc1 := 1960) rfl rfl ?_
          obtain ⟨c319, w⟩ := w
          refine r_sal (pc1 := 1961) rfl rfl t6 (rgw _) c319.1 c319.2 ?_
          refine r_n (pc1 := 1962) [.ref 0, .int (J ((sc.2 (wr (x1 + 1)).toNat).toInt)), rv 2] _ rfl rfl ?_
          refine r_n (pc1 := 1964) [.int (J x1), .ref 0, .int (J ((sc.2 (wr (x1 + 1)).toNat).toInt)), rv 2] _ rfl rfl ?_
          refine r_n (pc1 := 1965) [.int (J 2), .int (J x1), .ref 0, .int (J ((sc.2 (wr (x1 + 1)).toNat).toInt)), rv 2] _ rfl rfl ?_
          refine r_iadd (pc1 := 1966) rfl rfl ?_
          obtain ⟨c320, w⟩ := w
          refine r_sal (pc1 := 1967) rfl rfl t6 (rgw _) c320.1 c320.2 ?_
          refine r_aldn (pc1 := 1968) rfl rfl rfl ?_
          refine r_iq rfl rfl rfl rfl rfl rfl (xe_of (xa_r (xa_i (xa_i (xa_r xa_0)))) rfl rfl) (r_d0 hd rfl) (a_L_proofAt ((sc.2 (wr (x1 + 1)).toNat).toInt) ((sc.2 (wr (x1 + 2)).toNat).toInt) (r_d1 hd rfl) (rgt _) (rgt _) w t6 (fun x321 h322 t322 u322 rx321 w => ?_))
          refine r_fI (pc1 := 1971) rfl ?_
          have s322 := HX_trans s6 u322
          have w := w t322 u322
          have w := w rx321
          refine r_ist (pc1 := 1973) (ls1 := [some (.ref 0), some (rv 2), some (rv 437), some (rv 467), some (.int (J x1)), some (.int (J x321)), d3, d4, d5]) rfl rfl rfl rfl ?_
          refine r_aldn (pc1 := 1974) rfl rfl rfl ?_
          refine r_n (pc1 := 1975) [.ref 0, rv 437] _ rfl rfl ?_
          refine r_n (pc1 := 1977) [.int (J x1), .ref 0, rv 437] _ rfl rfl ?_
          refine r_n (pc1 := 1978) [.int (J 1), .int (J x1), .ref 0, rv 437] _ rfl rfl ?_
          refine r_iadd (pc1 := 1979) rfl rfl ?_
          refine r_sal (pc1 := 1980) rfl rfl t322 (rgw _) c319.1 c319.2 ?_
          refine r_n (pc1 := 1981) [.ref 0, .int (J ((sc.2 (wr (x1 + 1)).toNat).toInt)), rv 437] _ rfl rfl ?_
          refine r_n (pc1 := 1983) [.int (J x1), .ref 0, .int (J ((sc.2 (wr (x1 + 1)).toNat).toInt)), rv 437] _ rfl rfl ?_
          refine r_n (pc1 := 1984) [.int (J 2), .int (J x1), .ref 0, .int (J ((sc.2 (wr (x1 + 1)).toNat).toInt)), rv 437] _ rfl rfl ?_
          refine r_iadd (pc1 := 1985) rfl rfl ?_
          refine r_sal (pc1 := 1986) rfl rfl t322 (rgw _) c320.1 c320.2 ?_
          refine r_iv rfl rfl rfl rfl rfl rfl t322 (lyk t322 rfl) rfl (xe_of (xa_r (xa_i (xa_i xa_0))) rfl rfl) (r_d0 hd rfl) (a_X14_proofAt ((sc.2 (wr (x1 + 1)).toNat).toInt) ((sc.2 (wr (x1 + 2)).toNat).toInt) (r_d1 hd rfl) (rgt _) (rgt _) w t322 (fun x323 h324 t324 u324 rx323 w => ?_))
          refine r_fI (pc1 := 1989) rfl ?_
          have s324 := HX_trans s322 u324
          have w := w t324 u324
          have w := w rx323
          refine r_ist (pc1 := 1991) (ls1 := [some (.ref 0), some (rv 2), some (rv 437), some (rv 467), some (.int (J x1)), some (.int (J x321)), some (.int (J x323)), d4, d5]) rfl rfl rfl rfl ?_
          refine r_aldn (pc1 := 1992) rfl rfl rfl ?_
          refine r_iv rfl rfl rfl rfl rfl rfl t324 (lyk t324 rfl) rfl (xe_of (xa_r xa_0) rfl rfl) (r_d0 hd rfl) (a_X14_thrown  (r_d1 hd rfl)  w t324 (fun x325 rx325 w => ?_))
          refine r_fI (pc1 := 1995) rfl ?_
          have w := w rx325
          refine r_n (pc1 := 1997) [.int (J x321), .int (J x325)] _ rfl rfl ?_
          refine r_ic (t := 2002) (pc1 := 2000) rfl rfl rfl rx325 rx321 (fun c329 => ?_) (fun c329 => ?_)
          · have w := w.1 c329
            refine r_n (pc1 := 2004) [.int (J x321)] _ rfl rfl ?_
            obtain ⟨J326, j326, w⟩ := w
            have Q326 : J326 → RR sc goal fs 0 2019 [some (.ref 0), some (rv 2), some (rv 437), some (rv 467), some (.int (J x1)), some (.int (J x321)), some (.int (J x323)), d4, d5] [] h324 := by
              intro z326
              have w := j326 z326
              refine r_goto (t := 3466) rfl rfl ?_
              exact Q14 _ _ _ _  h324 t324 s324  w
            refine r_iz (t := 2019) (pc1 := 2007) rfl rfl rfl rx321 (fun c328 => ?_) (fun c328 => ?_)
            · have w := w.1 c328
              exact Q326     w
            · have w := w.2 c328
              refine r_aldn (pc1 := 2008) rfl rfl rfl ?_
              refine r_n (pc1 := 2009) [.int (J 0), rv 467] _ rfl rfl ?_
              refine r_lal (pc1 := 2010) rfl rfl t324 (lyk t324 rfl) (rgk rfl) (by decide) (lt_len (lyn t324 rfl) (by decide)) ?_
              refine r_n (pc1 := 2012) [.int (J x323), .long (G (hL h324 467 0))] _ rfl rfl ?_
              refine r_i2l (pc1 := 2013) rfl rfl ?_
              refine r_lc (pc2 := 2014) (t := 2019) (pc1 := 2017) rfl rfl rfl rfl rfl (fun c327 => ?_) (fun c327 => ?_)
              · have w := w.1 c327
                exact Q326     w
              · have w := w.2 c327
                refine r_n (pc1 := 2018) [.int (J 0)] _ rfl rfl ?_
                exact r_retB rfl rfl rfl (.inl rfl) (k _ _ t324 s324 (rgk rfl) (.inl rfl) w)
          · have w := w.2 c329
            refine r_n (pc1 := 2001) [.int (J 0)] _ rfl rfl ?_
            exact r_retB rfl rfl rfl (.inl rfl) (k _ _ t324 s324 (rgk rfl) (.inl rfl) w)
        · have w := w.2.2.2.2.2.2.2.2.2.2.2.2.2.2.2.2.2.2.2.2.2.2.2.2.2.2.2.2.2.2.2.1 c16
          refine r_aldn (pc1 := 2023) rfl rfl rfl ?_
          refine r_n (pc1 := 2024) [.ref 0, rv 2] _ rfl rfl ?_
          refine r_n (pc1 := 2026) [.int (J x1), .ref 0, rv 2] _ rfl rfl ?_
          refine r_n (pc1 := 2027) [.int (J 1), .int (J x1), .ref 0, rv 2] _ rfl rfl ?_
          refine r_iadd (pc1 := 2028) rfl rfl ?_
          obtain ⟨c330, w⟩ := w
          refine r_sal (pc1 := 2029) rfl rfl t6 (rgw _) c330.1 c330.2 ?_
          refine r_n (pc1 := 2030) [.ref 0, .int (J ((sc.2 (wr (x1 + 1)).toNat).toInt)), rv 2] _ rfl rfl ?_
          refine r_n (pc1 := 2032) [.int (J x1), .ref 0, .int (J ((sc.2 (wr (x1 + 1)).toNat).toInt)), rv 2] _ rfl rfl ?_
          refine r_n (pc1 := 2033) [.int (J 2), .int (J x1), .ref 0, .int (J ((sc.2 (wr (x1 + 1)).toNat).toInt)), rv 2] _ rfl rfl ?_
          refine r_iadd (pc1 := 2034) rfl rfl ?_
          obtain ⟨c331, w⟩ := w
          refine r_sal (pc1 := 2035) rfl rfl t6 (rgw _) c331.1 c331.2 ?_
          refine r_aldn (pc1 := 2036) rfl rfl rfl ?_
          refine r_iq rfl rfl rfl rfl rfl rfl (xe_of (xa_r (xa_i (xa_i (xa_r xa_0)))) rfl rfl) (r_d0 hd rfl) (a_L_literalAt ((sc.2 (wr (x1 + 1)).toNat).toInt) ((sc.2 (wr (x1 + 2)).toNat).toInt) (r_d1 hd rfl) (rgt _) (rgt _) w t6 (fun x332 h333 t333 u333 rx332 w => ?_))
          refine r_fI (pc1 := 2039) rfl ?_
          have s333 := HX_trans s6 u333
          have w := w t333 u333
          have w := w rx332
          refine r_ist (pc1 := 2041) (ls1 := [some (.ref 0), some (rv 2), some (rv 437), some (rv 467), some (.int (J x1)), some (.int (J x332)), d3, d4, d5]) rfl rfl rfl rfl ?_
          refine r_aldn (pc1 := 2042) rfl rfl rfl ?_
          refine r_n (pc1 := 2043) [.ref 0, rv 437] _ rfl rfl ?_
          refine r_n (pc1 := 2045) [.int (J x1), .ref 0, rv 437] _ rfl rfl ?_
          refine r_n (pc1 := 2046) [.int (J 1), .int (J x1), .ref 0, rv 437] _ rfl rfl ?_
          refine r_iadd (pc1 := 2047) rfl rfl ?_
          refine r_sal (pc1 := 2048) rfl rfl t333 (rgw _) c330.1 c330.2 ?_
          refine r_n (pc1 := 2049) [.ref 0, .int (J ((sc.2 (wr (x1 + 1)).toNat).toInt)), rv 437] _ rfl rfl ?_
          refine r_n (pc1 := 2051) [.int (J x1), .ref 0, .int (J ((sc.2 (wr (x1 + 1)).toNat).toInt)), rv 437] _ rfl rfl ?_
          refine r_n (pc1 := 2052) [.int (J 2), .int (J x1), .ref 0, .int (J ((sc.2 (wr (x1 + 1)).toNat).toInt)), rv 437] _ rfl rfl ?_
          refine r_iadd (pc1 := 2053) rfl rfl ?_
          refine r_sal (pc1 := 2054) rfl rfl t333 (rgw _) c331.1 c331.2 ?_
          refine r_iv rfl rfl rfl rfl rfl rfl t333 (lyk t333 rfl) rfl (xe_of (xa_r (xa_i (xa_i xa_0))) rfl rfl) (r_d0 hd rfl) (a_X14_literalAt ((sc.2 (wr (x1 + 1)).toNat).toInt) ((sc.2 (wr (x1 + 2)).toNat).toInt) (r_d1 hd rfl) (rgt _) (rgt _) w t333 (fun x334 h335 t335 u335 rx334 w => ?_))
          refine r_fI (pc1 := 2057) rfl ?_
          have s335 := HX_trans s333 u335
          have w := w t335 u335
          have w := w rx334
          refine r_ist (pc1 := 2059) (ls1 := [some (.ref 0), some (rv 2), some (rv 437), some (rv 467), some (.int (J x1)), some (.int (J x332)), some (.int (J x334)), d4, d5]) rfl rfl rfl rfl ?_
          refine r_aldn (pc1 := 2060) rfl rfl rfl ?_
          refine r_iv rfl rfl rfl rfl rfl rfl t335 (lyk t335 rfl) rfl (xe_of (xa_r xa_0) rfl rfl) (r_d0 hd rfl) (a_X14_thrown  (r_d1 hd rfl)  w t335 (fun x336 rx336 w => ?_))
          refine r_fI (pc1 := 2063) rfl ?_
          have w := w rx336
          refine r_n (pc1 := 2065) [.int (J x332), .int (J x336)] _ rfl rfl ?_
          refine r_ic (t := 2070) (pc1 := 2068) rfl rfl rfl rx336 rx332 (fun c340 => ?_) (fun c340 => ?_)
          · have w := w.1 c340
            refine r_n (pc1 := 2072) [.int (J x332)] _ rfl rfl ?_
            obtain ⟨J337, j337, w⟩ := w
            have Q337 : J337 → RR sc goal fs 0 2087 [some (.ref 0), some (rv 2), some (rv 437), some (rv 467), some (.int (J x1)), some (.int (J x332)), some (.int (J x334)), d4, d5] [] h335 := by
              intro z337
              have w := j337 z337
              refine r_goto (t := 3466) rfl rfl ?_
              exact Q14 _ _ _ _  h335 t335 s335  w
            refine r_iz (t := 2087) (pc1 := 2075) rfl rfl rfl rx332 (fun c339 => ?_) (fun c339 => ?_)
            · have w := w.1 c339
              exact Q337     w
            · have w := w.2 c339
              refine r_aldn (pc1 := 2076) rfl rfl rfl ?_
              refine r_n (pc1 := 2077) [.int (J 0), rv 467] _ rfl rfl ?_
              refine r_lal (pc1 := 2078) rfl rfl t335 (lyk t335 rfl) (rgk rfl) (by decide) (lt_len (lyn t335 rfl) (by decide)) ?_
              refine r_n (pc1 := 2080) [.int (J x334), .long (G (hL h335 467 0))] _ rfl rfl ?_
              refine r_i2l (pc1 := 2081) rfl rfl ?_
              refine r_lc (pc2 := 2082) (t := 2087) (pc1 := 2085) rfl rfl rfl rfl rfl (fun c338 => ?_) (fun c338 => ?_)
              · have w := w.1 c338
                exact Q337     w
              · have w := w.2 c338
                refine r_n (pc1 := 2086) [.int (J 0)] _ rfl rfl ?_
                exact r_retB rfl rfl rfl (.inl rfl) (k _ _ t335 s335 (rgk rfl) (.inl rfl) w)
          · have w := w.2 c340
            refine r_n (pc1 := 2069) [.int (J 0)] _ rfl rfl ?_
            exact r_retB rfl rfl rfl (.inl rfl) (k _ _ t335 s335 (rgk rfl) (.inl rfl) w)
        · have w := w.2.2.2.2.2.2.2.2.2.2.2.2.2.2.2.2.2.2.2.2.2.2.2.2.2.2.2.2.2.2.2.2.1 c16
          refine r_aldn (pc1 := 2091) rfl rfl rfl ?_
          refine r_n (pc1 := 2092) [.ref 0, rv 2] _ rfl rfl ?_
          refine r_n (pc1 := 2094) [.int (J x1), .ref 0, rv 2] _ rfl rfl ?_
          refine r_n (pc1 := 2095) [.int (J 1), .int (J x1), .ref 0, rv 2] _ rfl rfl ?_
          refine r_iadd (pc1 := 2096) rfl rfl ?_
          obtain ⟨c341, w⟩ := w
          refine r_sal (pc1 := 2097) rfl rfl t6 (rgw _) c341.1 c341.2 ?_
          refine r_aldn (pc1 := 2098) rfl rfl rfl ?_
          refine r_iq rfl rfl rfl rfl rfl rfl (xe_of (xa_r (xa_i (xa_r xa_0))) rfl rfl) (r_d0 hd rfl) (a_L_lock ((sc.2 (wr (x1 + 1)).toNat).toInt) (r_d1 hd rfl) (rgt _) w t6 (fun x342 h343 t343 u343 rx342 w => ?_))
          refine r_fI (pc1 := 2101) rfl ?_
          have s343 := HX_trans s6 u343
          have w := w t343 u343
          have w := w rx342
          refine r_ist (pc1 := 2103) (ls1 := [some (.ref 0), some (rv 2), some (rv 437), some (rv 467), some (.int (J x1)), some (.int (J x342)), d3, d4, d5]) rfl rfl rfl rfl ?_
          refine r_aldn (pc1 := 2104) rfl rfl rfl ?_
          refine r_n (pc1 := 2105) [.ref 0, rv 437] _ rfl rfl ?_
          refine r_n (pc1 := 2107) [.int (J x1), .ref 0, rv 437] _ rfl rfl ?_
          refine r_n (pc1 := 2108) [.int (J 1), .int (J x1), .ref 0, rv 437] _ rfl rfl ?_
          refine r_iadd (pc1 := 2109) rfl rfl ?_
          refine r_sal (pc1 := 2110) rfl rfl t343 (rgw _) c341.1 c341.2 ?_
          refine r_iv rfl rfl rfl rfl rfl rfl t343 (lyk t343 rfl) rfl (xe_of (xa_r (xa_i xa_0)) rfl rfl) (r_d0 hd rfl) (a_X14_lock ((sc.2 (wr (x1 + 1)).toNat).toInt) (r_d1 hd rfl) (rgt _) w t343 (fun x344 h345 t345 u345 rx344 w => ?_))
          refine r_fI (pc1 := 2113) rfl ?_
          have s345 := HX_trans s343 u345
          have w := w t345 u345
          have w := w rx344
          refine r_ist (pc1 := 2115) (ls1 := [some (.ref 0), some (rv 2), some (rv 437), some (rv 467), some (.int (J x1)), some (.int (J x342)), some (.int (J x344)), d4, d5]) rfl rfl rfl rfl ?_
          refine r_aldn (pc1 := 2116) rfl rfl rfl ?_
          refine r_iv rfl rfl rfl rfl rfl rfl t345 (lyk t345 rfl) rfl (xe_of (xa_r xa_0) rfl rfl) (r_d0 hd rfl) (a_X14_thrown  (r_d1 hd rfl)  w t345 (fun x346 rx346 w => ?_))
          refine r_fI (pc1 := 2119) rfl ?_
          have w := w rx346
          refine r_n (pc1 := 2121) [.int (J x342), .int (J x346)] _ rfl rfl ?_
          refine r_ic (t := 2126) (pc1 := 2124) rfl rfl rfl rx346 rx342 (fun c350 => ?_) (fun c350 => ?_)
          · have w := w.1 c350
            refine r_n (pc1 := 2128) [.int (J x342)] _ rfl rfl ?_
            obtain ⟨J347, j347, w⟩ := w
            have Q347 : J347 → RR sc goal fs 0 2143 [some (.ref 0), some (rv 2), some (rv 437), some (rv 467), some (.int (J x1)), some (.int (J x342)), some (.int (J x344)), d4, d5] [] h345 := by
              intro z347
              have w := j347 z347
              refine r_goto (t := 3466) rfl rfl ?_
              exact Q14 _ _ _ _  h345 t345 s345  w
            refine r_iz (t := 2143) (pc1 := 2131) rfl rfl rfl rx342 (fun c349 => ?_) (fun c349 => ?_)
            · have w := w.1 c349
              exact Q347     w
            · have w := w.2 c349
              refine r_aldn (pc1 := 2132) rfl rfl rfl ?_
              refine r_n (pc1 := 2133) [.int (J 0), rv 467] _ rfl rfl ?_
              refine r_lal (pc1 := 2134) rfl rfl t345 (lyk t345 rfl) (rgk rfl) (by decide) (lt_len (lyn t345 rfl) (by decide)) ?_
              refine r_n (pc1 := 2136) [.int (J x344), .long (G (hL h345 467 0))] _ rfl rfl ?_
              refine r_i2l (pc1 := 2137) rfl rfl ?_
              refine r_lc (pc2 := 2138) (t := 2143) (pc1 := 2141) rfl rfl rfl rfl rfl (fun c348 => ?_) (fun c348 => ?_)
              · have w := w.1 c348
                exact Q347     w
              · have w := w.2 c348
                refine r_n (pc1 := 2142) [.int (J 0)] _ rfl rfl ?_
                exact r_retB rfl rfl rfl (.inl rfl) (k _ _ t345 s345 (rgk rfl) (.inl rfl) w)
          · have w := w.2 c350
            refine r_n (pc1 := 2125) [.int (J 0)] _ rfl rfl ?_
            exact r_retB rfl rfl rfl (.inl rfl) (k _ _ t345 s345 (rgk rfl) (.inl rfl) w)
        · have w := w.2.2.2.2.2.2.2.2.2.2.2.2.2.2.2.2.2.2.2.2.2.2.2.2.2.2.2.2.2.2.2.2.2.1 c16
          refine r_aldn (pc1 := 2147) rfl rfl rfl ?_
          refine r_n (pc1 := 2148) [.ref 0, rv 2] _ rfl rfl ?_
          refine r_n (pc1 := 2150) [.int (J x1), .ref 0, rv 2] _ rfl rfl ?_
          refine r_n (pc1 := 2151) [.int (J 1), .int (J x1), .ref 0, rv 2] _ rfl rfl ?_
          refine r_iadd (pc1 := 2152) rfl rfl ?_
          obtain ⟨c351, w⟩ := w
          refine r_sal (pc1 := 2153) rfl rfl t6 (rgw _) c351.1 c351.2 ?_
          refine r_n (pc1 := 2154) [.ref 0, .int (J ((sc.2 (wr (x1 + 1)).toNat).toInt)), rv 2] _ rfl rfl ?_
          refine r_n (pc1 := 2156) [.int (J x1), .ref 0, .int (J ((sc.2 (wr (x1 + 1)).toNat).toInt)), rv 2] _ rfl rfl ?_
          refine r_n (pc1 := 2157) [.int (J 2), .int (J x1), .ref 0, .int (J ((sc.2 (wr (x1 + 1)).toNat).toInt)), rv 2] _ rfl rfl ?_
          refine r_iadd (pc1 := 2158) rfl rfl ?_
          obtain ⟨c352, w⟩ := w
          refine r_sal (pc1 := 2159) rfl rfl t6 (rgw _) c352.1 c352.2 ?_
          refine r_aldn (pc1 := 2160) rfl rfl rfl ?_
          refine r_iq rfl rfl rfl rfl rfl rfl (xe_of (xa_r (xa_i (xa_i (xa_r xa_0)))) rfl rfl) (r_d0 hd rfl) (a_L_lockDiffers ((sc.2 (wr (x1 + 1)).toNat).toInt) ((sc.2 (wr (x1 + 2)).toNat).toInt) (r_d1 hd rfl) (rgt _) (rgt _) w t6 (fun x353 h354 t354 u354 rx353 w => ?_))
          refine r_fI (pc1 := 2163) rfl ?_
          have s354 := HX_trans s6 u354
          have w := w t354 u354
          have w := w rx353
          refine r_ist (pc1 := 2165) (ls1 := [some (.ref 0), some (rv 2), some (rv 437), some (rv 467), some (.int (J x1)), some (.int (J x353)), d3, d4, d5]) rfl rfl rfl rfl ?_
          refine r_aldn (pc1 := 2166) rfl rfl rfl ?_
          refine r_n (pc1 := 2167) [.ref 0, rv 437] _ rfl rfl ?_
          refine r_n (pc1 := 2169) [.int (J x1), .ref 0, rv 437] _ rfl rfl ?_
          refine r_n (pc1 := 2170) [.int (J 1), .int (J x1), .ref 0, rv 437] _ rfl rfl ?_
          refine r_iadd (pc1 := 2171) rfl rfl ?_
          refine r_sal (pc1 := 2172) rfl rfl t354 (rgw _) c351.1 c351.2 ?_
          refine r_n (pc1 := 2173) [.ref 0, .int (J ((sc.2 (wr (x1 + 1)).toNat).toInt)), rv 437] _ rfl rfl ?_
          refine r_n (pc1 := 2175) [.int (J x1), .ref 0, .int (J ((sc.2 (wr (x1 + 1)).toNat).toInt)), rv 437] _ rfl rfl ?_
          refine r_n (pc1 := 2176) [.int (J 2), .int (J x1), .ref 0, .int (J ((sc.2 (wr (x1 + 1)).toNat).toInt)), rv 437] _ rfl rfl ?_
          refine r_iadd (pc1 := 2177) rfl rfl ?_
          refine r_sal (pc1 := 2178) rfl rfl t354 (rgw _) c352.1 c352.2 ?_
          refine r_iv rfl rfl rfl rfl rfl rfl t354 (lyk t354 rfl) rfl (xe_of (xa_r (xa_i (xa_i xa_0))) rfl rfl) (r_d0 hd rfl) (a_X14_lockDiffers ((sc.2 (wr (x1 + 1)).toNat).toInt) ((sc.2 (wr (x1 + 2)).toNat).toInt) (r_d1 hd rfl) (rgt _) (rgt _) w t354 (fun x355 h356 t356 u356 rx355 w => ?_))
          refine r_fI (pc1 := 2181) rfl ?_
          have s356 := HX_trans s354 u356
          have w := w t356 u356
          have w := w rx355
          refine r_ist (pc1 := 2183) (ls1 := [some (.ref 0), some (rv 2), some (rv 437), some (rv 467), some (.int (J x1)), some (.int (J x353)), some (.int (J x355)), d4, d5]) rfl rfl rfl rfl ?_
          refine r_aldn (pc1 := 2184) rfl rfl rfl ?_
          refine r_iv rfl rfl rfl rfl rfl rfl t356 (lyk t356 rfl) rfl (xe_of (xa_r xa_0) rfl rfl) (r_d0 hd rfl) (a_X14_thrown  (r_d1 hd rfl)  w t356 (fun x357 rx357 w => ?_))
          refine r_fI (pc1 := 2187) rfl ?_
          have w := w rx357
          refine r_n (pc1 := 2189) [.int (J x353), .int (J x357)] _ rfl rfl ?_
          refine r_ic (t := 2194) (pc1 := 2192) rfl rfl rfl rx357 rx353 (fun c361 => ?_) (fun c361 => ?_)
          · have w := w.1 c361
            refine r_n (pc1 := 2196) [.int (J x353)] _ rfl rfl ?_
            obtain ⟨J358, j358, w⟩ := w
            have Q358 : J358 → RR sc goal fs 0 2211 [some (.ref 0), some (rv 2), some (rv 437), some (rv 467), some (.int (J x1)), some (.int (J x353)), some (.int (J x355)), d4, d5] [] h356 := by
              intro z358
              have w := j358 z358
              refine r_goto (t := 3466) rfl rfl ?_
              exact Q14 _ _ _ _  h356 t356 s356  w
            refine r_iz (t := 2211) (pc1 := 2199) rfl rfl rfl rx353 (fun c360 => ?_) (fun c360 => ?_)
            · have w := w.1 c360
              exact Q358     w
            · have w := w.2 c360
              refine r_aldn (pc1 := 2200) rfl rfl rfl ?_
              refine r_n (pc1 := 2201) [.int (J 0), rv 467] _ rfl rfl ?_
              refine r_lal (pc1 := 2202) rfl rfl t356 (lyk t356 rfl) (rgk rfl) (by decide) (lt_len (lyn t356 rfl) (by decide)) ?_
              refine r_n (pc1 := 2204) [.int (J x355), .long (G (hL h356 467 0))] _ rfl rfl ?_
              refine r_i2l (pc1 := 2205) rfl rfl ?_
              refine r_lc (pc2 := 2206) (t := 2211) (pc1 := 2209) rfl rfl rfl rfl rfl (fun c359 => ?_) (fun c359 => ?_)
              · have w := w.1 c359
                exact Q358     w
              · have w := w.2 c359
                refine r_n (pc1 := 2210) [.int (J 0)] _ rfl rfl ?_
                exact r_retB rfl rfl rfl (.inl rfl) (k _ _ t356 s356 (rgk rfl) (.inl rfl) w)
          · have w := w.2 c361
            refine r_n (pc1 := 2193) [.int (J 0)] _ rfl rfl ?_
            exact r_retB rfl rfl rfl (.inl rfl) (k _ _ t356 s356 (rgk rfl) (.inl rfl) w)
        · have w := w.2.2.2.2.2.2.2.2.2.2.2.2.2.2.2.2.2.2.2.2.2.2.2.2.2.2.2.2.2.2.2.2.2.2.1 c16
          refine r_aldn (pc1 := 2215) rfl rfl rfl ?_
          refine r_n (pc1 := 2216) [.ref 0, rv 2] _ rfl rfl ?_
          refine r_n (pc1 := 2218) [.int (J x1), .ref 0, rv 2] _ rfl rfl ?_
          refine r_n (pc1 := 2219) [.int (J 1), .int (J x1), .ref 0, rv 2] _ rfl rfl ?_
          refine r_iadd (pc1 := 2220) rfl rfl ?_
          obtain ⟨c362, w⟩ := w
          refine r_sal (pc1 := 2221) rfl rfl t6 (rgw _) c362.1 c362.2 ?_
          refine r_n (pc1 := 2222) [.ref 0, .int (J ((sc.2 (wr (x1 + 1)).toNat).toInt)), rv 2] _ rfl rfl ?_
          refine r_n (pc1 := 2224) [.int (J x1), .ref 0, .int (J ((sc.2 (wr (x1 + 1)).toNat).toInt)), rv 2] _ rfl rfl ?_
          refine r_n (pc1 := 2225) [.int (J 2), .int (J x1), .ref 0, .int (J ((sc.2 (wr (x1 + 1)).toNat).toInt)), rv 2] _ rfl rfl ?_
          refine r_iadd (pc1 := 2226) rfl rfl ?_
          obtain ⟨c363, w⟩ := w
          refine r_sal (pc1 := 2227) rfl rfl t6 (rgw _) c363.1 c363.2 ?_
          refine r_aldn (pc1 := 2228) rfl rfl rfl ?_
          refine r_iq rfl rfl rfl rfl rfl rfl (xe_of (xa_r (xa_i (xa_i (xa_r xa_0)))) rfl rfl) (r_d0 hd rfl) (a_L_mergeLocks ((sc.2 (wr (x1 + 1)).toNat).toInt) ((sc.2 (wr (x1 + 2)).toNat).toInt) (r_d1 hd rfl) (rgt _) (rgt _) w t6 (fun x364 h365 t365 u365 rx364 w => ?_))
          refine r_fI (pc1 := 2231) rfl ?_
          have s365 := HX_trans s6 u365
          have w := w t365 u365
          have w := w rx364
          refine r_ist (pc1 := 2233) (ls1 := [some (.ref 0), some (rv 2), some (rv 437), some (rv 467), some (.int (J x1)), some (.int (J x364)), d3, d4, d5]) rfl rfl rfl rfl ?_
          refine r_aldn (pc1 := 2234) rfl rfl rfl ?_
          refine r_n (pc1 := 2235) [.ref 0, rv 437] _ rfl rfl ?_
          refine r_n (pc1 := 2237) [.int (J x1), .ref 0, rv 437] _ rfl rfl ?_
          refine r_n (pc1 := 2238) [.int (J 1), .int (J x1), .ref 0, rv 437] _ rfl rfl ?_
          refine r_iadd (pc1 := 2239) rfl rfl ?_
          refine r_sal (pc1 := 2240) rfl rfl t365 (rgw _) c362.1 c362.2 ?_
          refine r_n (pc1 := 2241) [.ref 0, .int (J ((sc.2 (wr (x1 + 1)).toNat).toInt)), rv 437] _ rfl rfl ?_
          refine r_n (pc1 := 2243) [.int (J x1), .ref 0, .int (J ((sc.2 (wr (x1 + 1)).toNat).toInt)), rv 437] _ rfl rfl ?_
          refine r_n (pc1 := 2244) [.int (J 2), .int (J x1), .ref 0, .int (J ((sc.2 (wr (x1 + 1)).toNat).toInt)), rv 437] _ rfl rfl ?_
          refine r_iadd (pc1 := 2245) rfl rfl ?_
          refine r_sal (pc1 := 2246) rfl rfl t365 (rgw _) c363.1 c363.2 ?_
          refine r_iv rfl rfl rfl rfl rfl rfl t365 (lyk t365 rfl) rfl (xe_of (xa_r (xa_i (xa_i xa_0))) rfl rfl) (r_d0 hd rfl) (a_X14_mergeLocks ((sc.2 (wr (x1 + 1)).toNat).toInt) ((sc.2 (wr (x1 + 2)).toNat).toInt) (r_d1 hd rfl) (rgt _) (rgt _) w t365 (fun x366 h367 t367 u367 rx366 w => ?_))
          refine r_fI (pc1 := 2249) rfl ?_
          have s367 := HX_trans s365 u367
          have w := w t367 u367
          have w := w rx366
          refine r_ist (pc1 := 2251) (ls1 := [some (.ref 0), some (rv 2), some (rv 437), some (rv 467), some (.int (J x1)), some (.int (J x364)), some (.int (J x366)), d4, d5]) rfl rfl rfl rfl ?_
          refine r_aldn (pc1 := 2252) rfl rfl rfl ?_
          refine r_iv rfl rfl rfl rfl rfl rfl t367 (lyk t367 rfl) rfl (xe_of (xa_r xa_0) rfl rfl) (r_d0 hd rfl) (a_X14_thrown  (r_d1 hd rfl)  w t367 (fun x368 rx368 w => ?_))
          refine r_fI (pc1 := 2255) rfl ?_
          have w := w rx368
          refine r_n (pc1 := 2257) [.int (J x364), .int (J x368)] _ rfl rfl ?_
          refine r_ic (t := 2262) (pc1 := 2260) rfl rfl rfl rx368 rx364 (fun c372 => ?_) (fun c372 => ?_)
          · have w := w.1 c372
            refine r_n (pc1 := 2264) [.int (J x364)] _ rfl rfl ?_
            obtain ⟨J369, j369, w⟩ := w
            have Q369 : J369 → RR sc goal fs 0 2279 [some (.ref 0), some (rv 2), some (rv 437), some (rv 467), some (.int (J x1)), some (.int (J x364)), some (.int (J x366)), d4, d5] [] h367 := by
              intro z369
              have w := j369 z369
              refine r_goto (t := 3466) rfl rfl ?_
              exact Q14 _ _ _ _  h367 t367 s367  w
            refine r_iz (t := 2279) (pc1 := 2267) rfl rfl rfl rx364 (fun c371 => ?_) (fun c371 => ?_)
            · have w := w.1 c371
              exact Q369     w
            · have w := w.2 c371
              refine r_aldn (pc1 := 2268) rfl rfl rfl ?_
              refine r_n (pc1 := 2269) [.int (J 0), rv 467] _ rfl rfl ?_
              refine r_lal (pc1 := 2270) rfl rfl t367 (lyk t367 rfl) (rgk rfl) (by decide) (lt_len (lyn t367 rfl) (by decide)) ?_
              refine r_n (pc1 := 2272) [.int (J x366), .long (G (hL h367 467 0))] _ rfl rfl ?_
              refine r_i2l (pc1 := 2273) rfl rfl ?_
              refine r_lc (pc2 := 2274) (t := 2279) (pc1 := 2277) rfl rfl rfl rfl rfl (fun c370 => ?_) (fun c370 => ?_)
              · have w := w.1 c370
                exact Q369     w
              · have w := w.2 c370
                refine r_n (pc1 := 2278) [.int (J 0)] _ rfl rfl ?_
                exact r_retB rfl rfl rfl (.inl rfl) (k _ _ t367 s367 (rgk rfl) (.inl rfl) w)
          · have w := w.2 c372
            refine r_n (pc1 := 2261) [.int (J 0)] _ rfl rfl ?_
            exact r_retB rfl rfl rfl (.inl rfl) (k _ _ t367 s367 (rgk rfl) (.inl rfl) w)
        · have w := w.2.2.2.2.2.2.2.2.2.2.2.2.2.2.2.2.2.2.2.2.2.2.2.2.2.2.2.2.2.2.2.2.2.2.2.1 c16
          refine r_aldn (pc1 := 2283) rfl rfl rfl ?_
          refine r_n (pc1 := 2284) [.ref 0, rv 2] _ rfl rfl ?_
          refine r_n (pc1 := 2286) [.int (J x1), .ref 0, rv 2] _ rfl rfl ?_
          refine r_n (pc1 := 2287) [.int (J 1), .int (J x1), .ref 0, rv 2] _ rfl rfl ?_
          refine r_iadd (pc1 := 2288) rfl rfl ?_
          obtain ⟨c373, w⟩ := w
          refine r_sal (pc1 := 2289) rfl rfl t6 (rgw _) c373.1 c373.2 ?_
          refine r_aldn (pc1 := 2290) rfl rfl rfl ?_
          refine r_iq rfl rfl rfl rfl rfl rfl (xe_of (xa_r (xa_i (xa_r xa_0))) rfl rfl) (r_d0 hd rfl) (a_L_takeLock ((sc.2 (wr (x1 + 1)).toNat).toInt) (r_d1 hd rfl) (rgt _) w t6 (fun x374 h375 t375 u375 rx374 w => ?_))
          refine r_fI (pc1 := 2293) rfl ?_
          have s375 := HX_trans s6 u375
          have w := w t375 u375
          have w := w rx374
          refine r_ist (pc1 := 2295) (ls1 := [some (.ref 0), some (rv 2), some (rv 437), some (rv 467), some (.int (J x1)), some (.int (J x374)), d3, d4, d5]) rfl rfl rfl rfl ?_
          refine r_aldn (pc1 := 2296) rfl rfl rfl ?_
          refine r_n (pc1 := 2297) [.ref 0, rv 437] _ rfl rfl ?_
          refine r_n (pc1 := 2299) [.int (J x1), .ref 0, rv 437] _ rfl rfl ?_
          refine r_n (pc1 := 2300) [.int (J 1), .int (J x1), .ref 0, rv 437] _ rfl rfl ?_
          refine r_iadd (pc1 := 2301) rfl rfl ?_
          refine r_sal (pc1 := 2302) rfl rfl t375 (rgw _) c373.1 c373.2 ?_
          refine r_iv rfl rfl rfl rfl rfl rfl t375 (lyk t375 rfl) rfl (xe_of (xa_r (xa_i xa_0)) rfl rfl) (r_d0 hd rfl) (a_X14_takeLock ((sc.2 (wr (x1 + 1)).toNat).toInt) (r_d1 hd rfl) (rgt _) w t375 (fun x376 h377 t377 u377 rx376 w => ?_))
          refine r_fI (pc1 := 2305) rfl ?_
          have s377 := HX_trans s375 u377
          have w := w t377 u377
          have w := w rx376
          refine r_ist (pc1 := 2307) (ls1 := [some (.ref 0), some (rv 2), some (rv 437), some (rv 467), some (.int (J x1)), some (.int (J x374)), some (.int (J x376)), d4, d5]) rfl rfl rfl rfl ?_
          refine r_aldn (pc1 := 2308) rfl rfl rfl ?_
          refine r_iv rfl rfl rfl rfl rfl rfl t377 (lyk t377 rfl) rfl (xe_of (xa_r xa_0) rfl rfl) (r_d0 hd rfl) (a_X14_thrown  (r_d1 hd rfl)  w t377 (fun x378 rx378 w => ?_))
          refine r_fI (pc1 := 2311) rfl ?_
          have w := w rx378
          refine r_n (pc1 := 2313) [.int (J x374), .int (J x378)] _ rfl rfl ?_
          refine r_ic (t := 2318) (pc1 := 2316) rfl rfl rfl rx378 rx374 (fun c382 => ?_) (fun c382 => ?_)
          · have w := w.1 c382
            refine r_n (pc1 := 2320) [.int (J x374)] _ rfl rfl ?_
            obtain ⟨J379, j379, w⟩ := w
            have Q379 : J379 → RR sc goal fs 0 2335 [some (.ref 0), some (rv 2), some (rv 437), some (rv 467), some (.int (J x1)), some (.int (J x374)), some (.int (J x376)), d4, d5] [] h377 := by
              intro z379
              have w := j379 z379
              refine r_goto (t := 3466) rfl rfl ?_
              exact Q14 _ _ _ _  h377 t377 s377  w
            refine r_iz (t := 2335) (pc1 := 2323) rfl rfl rfl rx374 (fun c381 => ?_) (fun c381 => ?_)
            · have w := w.1 c381
              exact Q379     w
            · have w := w.2 c381
              refine r_aldn (pc1 := 2324) rfl rfl rfl ?_
              refine r_n (pc1 := 2325) [.int (J 0), rv 467] _ rfl rfl ?_
              refine r_lal (pc1 := 2326) rfl rfl t377 (lyk t377 rfl) (rgk rfl) (by decide) (lt_len (lyn t377 rfl) (by decide)) ?_
              refine r_n (pc1 := 2328) [.int (J x376), .long (G (hL h377 467 0))] _ rfl rfl ?_
              refine r_i2l (pc1 := 2329) rfl rfl ?_
              refine r_lc (pc2 := 2330) (t := 2335) (pc1 := 2333) rfl rfl rfl rfl rfl (fun c380 => ?_) (fun c380 => ?_)
              · have w := w.1 c380
                exact Q379     w
              · have w := w.2 c380
                refine r_n (pc1 := 2334) [.int (J 0)] _ rfl rfl ?_
                exact r_retB rfl rfl rfl (.inl rfl) (k _ _ t377 s377 (rgk rfl) (.inl rfl) w)
          · have w := w.2 c382
            refine r_n (pc1 := 2317) [.int (J 0)] _ rfl rfl ?_
            exact r_retB rfl rfl rfl (.inl rfl) (k _ _ t377 s377 (rgk rfl) (.inl rfl) w)
        · have w := w.2.2.2.2.2.2.2.2.2.2.2.2.2.2.2.2.2.2.2.2.2.2.2.2.2.2.2.2.2.2.2.2.2.2.2.2.1 c16
          refine r_aldn (pc1 := 2339) rfl rfl rfl ?_
          refine r_aldn (pc1 := 2340) rfl rfl rfl ?_
          refine r_iq rfl rfl rfl rfl rfl rfl (xe_of (xa_r (xa_r xa_0)) rfl rfl) (r_d0 hd rfl) (a_L_mirror  (r_d1 hd rfl)  w t6 (fun x383 h384 t384 u384 rx383 w => ?_))
          refine r_fI (pc1 := 2343) rfl ?_
          have s384 := HX_trans s6 u384
          have w := w t384 u384
          have w := w rx383
          refine r_ist (pc1 := 2345) (ls1 := [some (.ref 0), some (rv 2), some (rv 437), some (rv 467), some (.int (J x1)), some (.int (J x383)), d3, d4, d5]) rfl rfl rfl rfl ?_
          refine r_aldn (pc1 := 2346) rfl rfl rfl ?_
          refine r_iv rfl rfl rfl rfl rfl rfl t384 (lyk t384 rfl) rfl (xe_of (xa_r xa_0) rfl rfl) (r_d0 hd rfl) (a_X14_mirror  (r_d1 hd rfl)  w t384 (fun x385 h386 t386 u386 rx385 w => ?_))
          refine r_fI (pc1 := 2349) rfl ?_
          have s386 := HX_trans s384 u386
          have w := w t386 u386
          have w := w rx385
          refine r_ist (pc1 := 2351) (ls1 := [some (.ref 0), some (rv 2), some (rv 437), some (rv 467), some (.int (J x1)), some (.int (J x383)), some (.int (J x385)), d4, d5]) rfl rfl rfl rfl ?_
          refine r_aldn (pc1 := 2352) rfl rfl rfl ?_
          refine r_iv rfl rfl rfl rfl rfl rfl t386 (lyk t386 rfl) rfl (xe_of (xa_r xa_0) rfl rfl) (r_d0 hd rfl) (a_X14_thrown  (r_d1 hd rfl)  w t386 (fun x387 rx387 w => ?_))
          refine r_fI (pc1 := 2355) rfl ?_
          have w := w rx387
          refine r_n (pc1 := 2357) [.int (J x383), .int (J x387)] _ rfl rfl ?_
          refine r_ic (t := 2362) (pc1 := 2360) rfl rfl rfl rx387 rx383 (fun c391 => ?_) (fun c391 => ?_)
          · have w := w.1 c391
            refine r_n (pc1 := 2364) [.int (J x383)] _ rfl rfl ?_
            obtain ⟨J388, j388, w⟩ := w
            have Q388 : J388 → RR sc goal fs 0 2379 [some (.ref 0), some (rv 2), some (rv 437), some (rv 467), some (.int (J x1)), some (.int (J x383)), some (.int (J x385)), d4, d5] [] h386 := by
              intro z388
              have w := j388 z388
              refine r_goto (t := 3466) rfl rfl ?_
              exact Q14 _ _ _ _  h386 t386 s386  w
            refine r_iz (t := 2379) (pc1 := 2367) rfl rfl rfl rx383 (fun c390 => ?_) (fun c390 => ?_)
            · have w := w.1 c390
              exact Q388     w
            · have w := w.2 c390
              refine r_aldn (pc1 := 2368) rfl rfl rfl ?_
              refine r_n (pc1 := 2369) [.int (J 0), rv 467] _ rfl rfl ?_
              refine r_lal (pc1 := 2370) rfl rfl t386 (lyk t386 rfl) (rgk rfl) (by decide) (lt_len (lyn t386 rfl) (by decide)) ?_
              refine r_n (pc1 := 2372) [.int (J x385), .long (G (hL h386 467 0))] _ rfl rfl ?_
              refine r_i2l (pc1 := 2373) rfl rfl ?_
              refine r_lc (pc2 := 2374) (t := 2379) (pc1 := 2377) rfl rfl rfl rfl rfl (fun c389 => ?_) (fun c389 => ?_)
              · have w := w.1 c389
                exact Q388     w
              · have w := w.2 c389
                refine r_n (pc1 := 2378) [.int (J 0)] _ rfl rfl ?_
                exact r_retB rfl rfl rfl (.inl rfl) (k _ _ t386 s386 (rgk rfl) (.inl rfl) w)
          · have w := w.2 c391
            refine r_n (pc1 := 2361) [.int (J 0)] _ rfl rfl ?_
            exact r_retB rfl rfl rfl (.inl rfl) (k _ _ t386 s386 (rgk rfl) (.inl rfl) w)
        · have w := w.2.2.2.2.2.2.2.2.2.2.2.2.2.2.2.2.2.2.2.2.2.2.2.2.2.2.2.2.2.2.2.2.2.2.2.2.2.1 c16
          refine r_aldn (pc1 := 2383) rfl rfl rfl ?_
          refine r_n (pc1 := 2384) [.ref 0, rv 2] _ rfl rfl ?_
          refine r_n (pc1 := 2386) [.int (J x1), .ref 0, rv 2] _ rfl rfl ?_
          refine r_n (pc1 := 2387) [.int (J 1), .int (J x1), .ref 0, rv 2] _ rfl rfl ?_
          refine r_iadd (pc1 := 2388) rfl rfl ?_
          obtain ⟨c392, w⟩ := w
          refine r_sal (pc1 := 2389) rfl rfl t6 (rgw _) c392.1 c392.2 ?_
          refine r_n (pc1 := 2390) [.ref 0, .int (J ((sc.2 (wr (x1 + 1)).toNat).toInt)), rv 2] _ rfl rfl ?_
          refine r_n (pc1 := 2392) [.int (J x1), .ref 0, .int (J ((sc.2 (wr (x1 + 1)).toNat).toInt)), rv 2] _ rfl rfl ?_
          refine r_n (pc1 := 2393) [.int (J 2), .int (J x1), .ref 0, .int (J ((sc.2 (wr (x1 + 1)).toNat).toInt)), rv 2] _ rfl rfl ?_
          refine r_iadd (pc1 := 2394) rfl rfl ?_
          obtain ⟨c393, w⟩ := w
          refine r_sal (pc1 := 2395) rfl rfl t6 (rgw _) c393.1 c393.2 ?_
          refine r_n (pc1 := 2396) [.ref 0, .int (J ((sc.2 (wr (x1 + 2)).toNat).toInt)), .int (J ((sc.2 (wr (x1 + 1)).toNat).toInt)), rv 2] _ rfl rfl ?_
          refine r_n (pc1 := 2398) [.int (J x1), .ref 0, .int (J ((sc.2 (wr (x1 + 2)).toNat).toInt)), .int (J ((sc.2 (wr (x1 + 1)).toNat).toInt)), rv 2] _ rfl rfl ?_
          refine r_n (pc1 := 2399) [.int (J 3), .int (J x1), .ref 0, .int (J ((sc.2 (wr (x1 + 2)).toNat).toInt)), .int (J ((sc.2 (wr (x1 + 1)).toNat).toInt)), rv 2] _ rfl rfl ?_
          refine r_iadd (pc1 := 2400) rfl rfl ?_
          obtain ⟨c394, w⟩ := w
          refine r_sal (pc1 := 2401) rfl rfl t6 (rgw _) c394.1 c394.2 ?_
          refine r_n (pc1 := 2402) [.ref 0, .int (J ((sc.2 (wr (x1 + 3)).toNat).toInt)), .int (J ((sc.2 (wr (x1 + 2)).toNat).toInt)), .int (J ((sc.2 (wr (x1 + 1)).toNat).toInt)), rv 2] _ rfl rfl ?_
          refine r_n (pc1 := 2404) [.int (J x1), .ref 0, .int (J ((sc.2 (wr (x1 + 3)).toNat).toInt)), .int (J ((sc.2 (wr (x1 + 2)).toNat).toInt)), .int (J ((sc.2 (wr (x1 + 1)).toNat).toInt)), rv 2] _ rfl rfl ?_
          refine r_n (pc1 := 2405) [.int (J 4), .int (J x1), .ref 0, .int (J ((sc.2 (wr (x1 + 3)).toNat).toInt)), .int (J ((sc.2 (wr (x1 + 2)).toNat).toInt)), .int (J ((sc.2 (wr (x1 + 1)).toNat).toInt)), rv 2] _ rfl rfl ?_
          refine r_iadd (pc1 := 2406) rfl rfl ?_
          obtain ⟨c395, w⟩ := w
          refine r_sal (pc1 := 2407) rfl rfl t6 (rgw _) c395.1 c395.2 ?_
          refine r_aldn (pc1 := 2408) rfl rfl rfl ?_
          refine r_iq rfl rfl rfl rfl rfl rfl (xe_of (xa_r (xa_i (xa_i (xa_i (xa_i (xa_r xa_0)))))) rfl rfl) (r_d0 hd rfl) (a_L_offer ((sc.2 (wr (x1 + 1)).toNat).toInt) ((sc.2 (wr (x1 + 2)).toNat).toInt) ((sc.2 (wr (x1 + 3)).toNat).toInt) ((sc.2 (wr (x1 + 4)).toNat).toInt) (r_d1 hd rfl) (rgt _) (rgt _) (rgt _) (rgt _) w t6 (fun x396 h397 t397 u397 rx396 w => ?_))
          refine r_fI (pc1 := 2411) rfl ?_
          have s397 := HX_trans s6 u397
          have w := w t397 u397
          have w := w rx396
          refine r_ist (pc1 := 2413) (ls1 := [some (.ref 0), some (rv 2), some (rv 437), some (rv 467), some (.int (J x1)), some (.int (J x396)), d3, d4, d5]) rfl rfl rfl rfl ?_
          refine r_aldn (pc1 := 2414) rfl rfl rfl ?_
          refine r_n (pc1 := 2415) [.ref 0, rv 437] _ rfl rfl ?_
          refine r_n (pc1 := 2417) [.int (J x1), .ref 0, rv 437] _ rfl rfl ?_
          refine r_n (pc1 := 2418) [.int (J 1), .int (J x1), .ref 0, rv 437] _ rfl rfl ?_
          refine r_iadd (pc1 := 2419) rfl rfl ?_
          refine r_sal (pc1 := 2420) rfl rfl t397 (rgw _) c392.1 c392.2 ?_
          refine r_n (pc1 := 2421) [.ref 0, .int (J ((sc.2 (wr (x1 + 1)).toNat).toInt)), rv 437] _ rfl rfl ?_
          refine r_n (pc1 := 2423) [.int (J x1), .ref 0, .int (J ((sc.2 (wr (x1 + 1)).toNat).toInt)), rv 437] _ rfl rfl ?_
          refine r_n (pc1 := 2424) [.int (J 2), .int (J x1), .ref 0, .int (J ((sc.2 (wr (x1 + 1)).toNat).toInt)), rv 437] _ rfl rfl ?_
          refine r_iadd (pc1 := 2425) rfl rfl ?_
          refine r_sal (pc1 := 2426) rfl rfl t397 (rgw _) c393.1 c393.2 ?_
          refine r_n (pc1 := 2427) [.ref 0, .int (J ((sc.2 (wr (x1 + 2)).toNat).toInt)), .int (J ((sc.2 (wr (x1 + 1)).toNat).toInt)), rv 437] _ rfl rfl ?_
          refine r_n (pc1 := 2429) [.int (J x1), .ref 0, .int (J ((sc.2 (wr (x1 + 2)).toNat).toInt)), .int (J ((sc.2 (wr (x1 + 1)).toNat).toInt)), rv 437] _ rfl rfl ?_
          refine r_n (pc1 := 2430) [.int (J 3), .int (J x1), .ref 0, .int (J ((sc.2 (wr (x1 + 2)).toNat).toInt)), .int (J ((sc.2 (wr (x1 + 1)).toNat).toInt)), rv 437] _ rfl rfl ?_
          refine r_iadd (pc1 := 2431) rfl rfl ?_
          refine r_sal (pc1 := 2432) rfl rfl t397 (rgw _) c394.1 c394.2 ?_
          refine r_n (pc1 := 2433) [.ref 0, .int (J ((sc.2 (wr (x1 + 3)).toNat).toInt)), .int (J ((sc.2 (wr (x1 + 2)).toNat).toInt)), .int (J ((sc.2 (wr (x1 + 1)).toNat).toInt)), rv 437] _ rfl rfl ?_
          refine r_n (pc1 := 2435) [.int (J x1), .ref 0, .int (J ((sc.2 (wr (x1 + 3)).toNat).toInt)), .int (J ((sc.2 (wr (x1 + 2)).toNat).toInt)), .int (J ((sc.2 (wr (x1 + 1)).toNat).toInt)), rv 437] _ rfl rfl ?_
          refine r_n (pc1 := 2436) [.int (J 4), .int (J x1), .ref 0, .int (J ((sc.2 (wr (x1 + 3)).toNat).toInt)), .int (J ((sc.2 (wr (x1 + 2)).toNat).toInt)), .int (J ((sc.2 (wr (x1 + 1)).toNat).toInt)), rv 437] _ rfl rfl ?_
          refine r_iadd (pc1 := 2437) rfl rfl ?_
          refine r_sal (pc1 := 2438) rfl rfl t397 (rgw _) c395.1 c395.2 ?_
          refine r_iv rfl rfl rfl rfl rfl rfl t397 (lyk t397 rfl) rfl (xe_of (xa_r (xa_i (xa_i (xa_i (xa_i xa_0))))) rfl rfl) (r_d0 hd rfl) (a_X14_offer ((sc.2 (wr (x1 + 1)).toNat).toInt) ((sc.2 (wr (x1 + 2)).toNat).toInt) ((sc.2 (wr (x1 + 3)).toNat).toInt) ((sc.2 (wr (x1 + 4)).toNat).toInt) (r_d1 hd rfl) (rgt _) (rgt _) (rgt _) (rgt _) w t397 (fun x398 h399 t399 u399 rx398 w => ?_))
          refine r_fI (pc1 := 2441) rfl ?_
          have s399 := HX_trans s397 u399
          have w := w t399 u399
          have w := w rx398
          refine r_ist (pc1 := 2443) (ls1 := [some (.ref 0), some (rv 2), some (rv 437), some (rv 467), some (.int (J x1)), some (.int (J x396)), some (.int (J x398)), d4, d5]) rfl rfl rfl rfl ?_
          refine r_aldn (pc1 := 2444) rfl rfl rfl ?_
          refine r_iv rfl rfl rfl rfl rfl rfl t399 (lyk t399 rfl) rfl (xe_of (xa_r xa_0) rfl rfl) (r_d0 hd rfl) (a_X14_thrown  (r_d1 hd rfl)  w t399 (fun x400 rx400 w => ?_))
          refine r_fI (pc1 := 2447) rfl ?_
          have w := w rx400
          refine r_n (pc1 := 2449) [.int (J x396), .int (J x400)] _ rfl rfl ?_
          refine r_ic (t := 2454) (pc1 := 2452) rfl rfl rfl rx400 rx396 (fun c404 => ?_) (fun c404 => ?_)
          · have w := w.1 c404
            refine r_n (pc1 := 2456) [.int (J x396)] _ rfl rfl ?_
            obtain ⟨J401, j401, w⟩ := w
            have Q401 : J401 → RR sc goal fs 0 2471 [some (.ref 0), some (rv 2), some (rv 437), some (rv 467), some (.int (J x1)), some (.int (J x396)), some (.int (J x398)), d4, d5] [] h399 := by
              intro z401
              have w := j401 z401
              refine r_goto (t := 3466) rfl rfl ?_
              exact Q14 _ _ _ _  h399 t399 s399  w
            refine r_iz (t := 2471) (pc1 := 2459) rfl rfl rfl rx396 (fun c403 => ?_) (fun c403 => ?_)
            · have w := w.1 c403
              exact Q401     w
            · have w := w.2 c403
              refine r_aldn (pc1 := 2460) rfl rfl rfl ?_
              refine r_n (pc1 := 2461) [.int (J 0), rv 467] _ rfl rfl ?_
              refine r_lal (pc1 := 2462) rfl rfl t399 (lyk t399 rfl) (rgk rfl) (by decide) (lt_len (lyn t399 rfl) (by decide)) ?_
              refine r_n (pc1 := 2464) [.int (J x398), .long (G (hL h399 467 0))] _ rfl rfl ?_
              refine r_i2l (pc1 := 2465) rfl rfl ?_
              refine r_lc (pc2 := 2466) (t := 2471) (pc1 := 2469) rfl rfl rfl rfl rfl (fun c402 => ?_) (fun c402 => ?_)
              · have w := w.1 c402
                exact Q401     w
              · have w := w.2 c402
                refine r_n (pc1 := 2470) [.int (J 0)] _ rfl rfl ?_
                exact r_retB rfl rfl rfl (.inl rfl) (k _ _ t399 s399 (rgk rfl) (.inl rfl) w)
          · have w := w.2 c404
            refine r_n (pc1 := 2453) [.int (J 0)] _ rfl rfl ?_
            exact r_retB rfl rfl rfl (.inl rfl) (k _ _ t399 s399 (rgk rfl) (.inl rfl) w)
        · have w := w.2.2.2.2.2.2.2.2.2.2.2.2.2.2.2.2.2.2.2.2.2.2.2.2.2.2.2.2.2.2.2.2.2.2.2.2.2.2.1 c16
          refine r_aldn (pc1 := 2475) rfl rfl rfl ?_
          refine r_n (pc1 := 2476) [.ref 0, rv 2] _ rfl rfl ?_
          refine r_n (pc1 := 2478) [.int (J x1), .ref 0, rv 2] _ rfl rfl ?_
          refine r_n (pc1 := 2479) [.int (J 1), .int (J x1), .ref 0, rv 2] _ rfl rfl ?_
          refine r_iadd (pc1 := 2480) rfl rfl ?_
          obtain ⟨c405, w⟩ := w
          refine r_sal (pc1 := 2481) rfl rfl t6 (rgw _) c405.1 c405.2 ?_
          refine r_aldn (pc1 := 2482) rfl rfl rfl ?_
          refine r_iq rfl rfl rfl rfl rfl rfl (xe_of (xa_r (xa_i (xa_r xa_0))) rfl rfl) (r_d0 hd rfl) (a_L_sumWrong ((sc.2 (wr (x1 + 1)).toNat).toInt) (r_d1 hd rfl) (rgt _) w t6 (fun x406 h407 t407 u407 rx406 w => ?_))
          refine r_fI (pc1 := 2485) rfl ?_
          have s407 := HX_trans s6 u407
          have w := w t407 u407
          have w := w rx406
          refine r_ist (pc1 := 2487) (ls1 := [some (.ref 0), some (rv 2), some (rv 437), some (rv 467), some (.int (J x1)), some (.int (J x406)), d3, d4, d5]) rfl rfl rfl rfl ?_
          refine r_aldn (pc1 := 2488) rfl rfl rfl ?_
          refine r_n (pc1 := 2489) [.ref 0, rv 437] _ rfl rfl ?_
          refine r_n (pc1 := 2491) [.int (J x1), .ref 0, rv 437] _ rfl rfl ?_
          refine r_n (pc1 := 2492) [.int (J 1), .int (J x1), .ref 0, rv 437] _ rfl rfl ?_
          refine r_iadd (pc1 := 2493) rfl rfl ?_
          refine r_sal (pc1 := 2494) rfl rfl t407 (rgw _) c405.1 c405.2 ?_
          refine r_iv rfl rfl rfl rfl rfl rfl t407 (lyk t407 rfl) rfl (xe_of (xa_r (xa_i xa_0)) rfl rfl) (r_d0 hd rfl) (a_X14_sumWrong ((sc.2 (wr (x1 + 1)).toNat).toInt) (r_d1 hd rfl) (rgt _) w t407 (fun x408 h409 t409 u409 rx408 w => ?_))
          refine r_fI (pc1 := 2497) rfl ?_
          have s409 := HX_trans s407 u409
          have w := w t409 u409
          have w := w rx408
          refine r_ist (pc1 := 2499) (ls1 := [some (.ref 0), some (rv 2), some (rv 437), some (rv 467), some (.int (J x1)), some (.int (J x406)), some (.int (J x408)), d4, d5]) rfl rfl rfl rfl ?_
          refine r_aldn (pc1 := 2500) rfl rfl rfl ?_
          refine r_iv rfl rfl rfl rfl rfl rfl t409 (lyk t409 rfl) rfl (xe_of (xa_r xa_0) rfl rfl) (r_d0 hd rfl) (a_X14_thrown  (r_d1 hd rfl)  w t409 (fun x410 rx410 w => ?_))
          refine r_fI (pc1 := 2503) rfl ?_
          have w := w rx410
          refine r_n (pc1 := 2505) [.int (J x406), .int (J x410)] _ rfl rfl ?_
          refine r_ic (t := 2510) (pc1 := 2508) rfl rfl rfl rx410 rx406 (fun c414 => ?_) (fun c414 => ?_)
          · have w := w.1 c414
            refine r_n (pc1 := 2512) [.int (J x406)] _ rfl rfl ?_
            obtain ⟨J411, j411, w⟩ := w
            have Q411 : J411 → RR sc goal fs 0 2527 [some (.ref 0), some (rv 2), some (rv 437), some (rv 467), some (.int (J x1)), some (.int (J x406)), some (.int (J x408)), d4, d5] [] h409 := by
              intro z411
              have w := j411 z411
              refine r_goto (t := 3466) rfl rfl ?_
              exact Q14 _ _ _ _  h409 t409 s409  w
            refine r_iz (t := 2527) (pc1 := 2515) rfl rfl rfl rx406 (fun c413 => ?_) (fun c413 => ?_)
            · have w := w.1 c413
              exact Q411     w
            · have w := w.2 c413
              refine r_aldn (pc1 := 2516) rfl rfl rfl ?_
              refine r_n (pc1 := 2517) [.int (J 0), rv 467] _ rfl rfl ?_
              refine r_lal (pc1 := 2518) rfl rfl t409 (lyk t409 rfl) (rgk rfl) (by decide) (lt_len (lyn t409 rfl) (by decide)) ?_
              refine r_n (pc1 := 2520) [.int (J x408), .long (G (hL h409 467 0))] _ rfl rfl ?_
              refine r_i2l (pc1 := 2521) rfl rfl ?_
              refine r_lc (pc2 := 2522) (t := 2527) (pc1 := 2525) rfl rfl rfl rfl rfl (fun c412 => ?_) (fun c412 => ?_)
              · have w := w.1 c412
                exact Q411     w
              · have w := w.2 c412
                refine r_n (pc1 := 2526) [.int (J 0)] _ rfl rfl ?_
                exact r_retB rfl rfl rfl (.inl rfl) (k _ _ t409 s409 (rgk rfl) (.inl rfl) w)
          · have w := w.2 c414
            refine r_n (pc1 := 2509) [.int (J 0)] _ rfl rfl ?_
            exact r_retB rfl rfl rfl (.inl rfl) (k _ _ t409 s409 (rgk rfl) (.inl rfl) w)
        · have w := w.2.2.2.2.2.2.2.2.2.2.2.2.2.2.2.2.2.2.2.2.2.2.2.2.2.2.2.2.2.2.2.2.2.2.2.2.2.2.2.1 c16
          refine r_aldn (pc1 := 2531) rfl rfl rfl ?_
          refine r_iv rfl rfl rfl rfl rfl rfl t6 (lyk t6 rfl) rfl (xe_of (xa_r xa_0) rfl rfl) (r_d0 hd rfl) (a_X12_fetches  (r_d1 hd rfl)  w t6 (fun x415 h416 t416 u416 rx415 w => ?_))
          refine r_fI (pc1 := 2534) rfl ?_
          have s416 := HX_trans s6 u416
          have w := w t416 u416
          have w := w rx415
          refine r_aldn (pc1 := 2535) rfl rfl rfl ?_
          refine r_iv rfl rfl rfl rfl rfl rfl t416 (lyk t416 rfl) rfl (xe_of (xa_r xa_0) rfl rfl) (r_d0 hd rfl) (a_X14_fetches  (r_d1 hd rfl)  w t416 (fun x417 h418 t418 u418 rx417 w => ?_))
          refine r_fI (pc1 := 2538) rfl ?_
          have s418 := HX_trans s416 u418
          have w := w t418 u418
          have w := w rx417
          refine r_ic (t := 3466) (pc1 := 2541) rfl rfl rfl rx415 rx417 (fun c419 => ?_) (fun c419 => ?_)
          · have w := w.1 c419
            exact Q14 _ _ _ _  h418 t418 s418  w
          · have w := w.2 c419
            refine r_n (pc1 := 2542) [.int (J 0)] _ rfl rfl ?_
            exact r_retB rfl rfl rfl (.inl rfl) (k _ _ t418 s418 (rgk rfl) (.inl rfl) w)
        · have w := w.2.2.2.2.2.2.2.2.2.2.2.2.2.2.2.2.2.2.2.2.2.2.2.2.2.2.2.2.2.2.2.2.2.2.2.2.2.2.2.2.1 c16
          refine r_aldn (pc1 := 2544) rfl rfl rfl ?_
          refine r_n (pc1 := 2545) [.ref 0, rv 2] _ rfl rfl ?_
          refine r_n (pc1 := 2547) [.int (J x1), .ref 0, rv 2] _ rfl rfl ?_
          refine r_n (pc1 := 2548) [.int (J 1), .int (J x1), .ref 0, rv 2] _ rfl rfl ?_
          refine r_iadd (pc1 := 2549) rfl rfl ?_
          obtain ⟨c420, w⟩ := w
          refine r_sal (pc1 := 2550) rfl rfl t6 (rgw _) c420.1 c420.2 ?_
          refine r_n (pc1 := 2551) [.ref 0, .int (J ((sc.2 (wr (x1 + 1)).toNat).toInt)), rv 2] _ rfl rfl ?_
          refine r_n (pc1 := 2553) [.int (J x1), .ref 0, .int (J ((sc.2 (wr (x1 + 1)).toNat).toInt)), rv 2] _ rfl rfl ?_
          refine r_n (pc1 := 2554) [.int (J 2), .int (J x1), .ref 0, .int (J ((sc.2 (wr (x1 + 1)).toNat).toInt)), rv 2] _ rfl rfl ?_
          refine r_iadd (pc1 := 2555) rfl rfl ?_
          obtain ⟨c421, w⟩ := w
          refine r_sal (pc1 := 2556) rfl rfl t6 (rgw _) c421.1 c421.2 ?_
          obtain ⟨J423, j423, w⟩ := w
          have Q423 : ∀ (x422 : Int), rg x422 → J423 x422 → RR sc goal fs 0 2564 [some (.ref 0), some (rv 2), some (rv 437), some (rv 467), some (.int (J x1)), d2, d3, d4, d5] [.int (J x422), .int (J ((sc.2 (wr (x1 + 1)).toNat).toInt)), rv 2] h6 := by
            intro x422 rx422 z423
            have w := j423 x422 rx422 z423
            refine r_aldn (pc1 := 2565) rfl rfl rfl ?_
            refine r_iq rfl rfl rfl rfl rfl rfl (xe_of (xa_r (xa_i (xa_i (xa_r xa_0)))) rfl rfl) (r_d0 hd rfl) (a_L_fetchAt ((sc.2 (wr (x1 + 1)).toNat).toInt) x422 (r_d1 hd rfl) (rgt _) rx422 w t6 (fun x424 h425 t425 u425 rx424 w => ?_))
            refine r_fI (pc1 := 2568) rfl ?_
            have s425 := HX_trans s6 u425
            have w := w t425 u425
            have w := w rx424
            refine r_ist (pc1 := 2570) (ls1 := [some (.ref 0), some (rv 2), some (rv 437), some (rv 467), some (.int (J x1)), some (.int (J x424)), d3, d4, d5]) rfl rfl rfl rfl ?_
            refine r_aldn (pc1 := 2571) rfl rfl rfl ?_
            refine r_n (pc1 := 2572) [.ref 0, rv 437] _ rfl rfl ?_
            refine r_n (pc1 := 2574) [.int (J x1), .ref 0, rv 437] _ rfl rfl ?_
            refine r_n (pc1 := 2575) [.int (J 1), .int (J x1), .ref 0, rv 437] _ rfl rfl ?_
            refine r_iadd (pc1 := 2576) rfl rfl ?_
            refine r_sal (pc1 := 2577) rfl rfl t425 (rgw _) c420.1 c420.2 ?_
            refine r_n (pc1 := 2578) [.ref 0, .int (J ((sc.2 (wr (x1 + 1)).toNat).toInt)), rv 437] _ rfl rfl ?_
            refine r_n (pc1 := 2580) [.int (J x1), .ref 0, .int (J ((sc.2 (wr (x1 + 1)).toNat).toInt)), rv 437] _ rfl rfl ?_
            refine r_n (pc1 := 2581) [.int (J 2), .int (J x1), .ref 0, .int (J ((sc.2 (wr (x1 + 1)).toNat).toInt)), rv 437] _ rfl rfl ?_
            refine r_iadd (pc1 := 2582) rfl rfl ?_
            refine r_sal (pc1 := 2583) rfl rfl t425 (rgw _) c421.1 c421.2 ?_
            obtain ⟨J427, j427, w⟩ := w
            have Q427 : ∀ (x426 : Int), rg x426 → J427 x426 → RR sc goal fs 0 2591 [some (.ref 0), some (rv 2), some (rv 437), some (rv 467), some (.int (J x1)), some (.int (J x424)), d3, d4, d5] [.int (J x426), .int (J ((sc.2 (wr (x1 + 1)).toNat).toInt)), rv 437] h425 := by
              intro x426 rx426 z427
              have w := j427 x426 rx426 z427
              refine r_iv rfl rfl rfl rfl rfl rfl t425 (lyk t425 rfl) rfl (xe_of (xa_r (xa_i (xa_i xa_0))) rfl rfl) (r_d0 hd rfl) (a_X14_fetchAt ((sc.2 (wr (x1 + 1)).toNat).toInt) x426 (r_d1 hd rfl) (rgt _) rx426 w t425 (fun x428 h429 t429 u429 rx428 w => ?_))
              refine r_fI (pc1 := 2594) rfl ?_
              have s429 := HX_trans s425 u429
              have w := w t429 u429
              have w := w rx428
              refine r_ist (pc1 := 2596) (ls1 := [some (.ref 0), some (rv 2), some (rv 437), some (rv 467), some (.int (J x1)), some (.int (J x424)), some (.int (J x428)), d4, d5]) rfl rfl rfl rfl ?_
              refine r_aldn (pc1 := 2597) rfl rfl rfl ?_
              refine r_iv rfl rfl rfl rfl rfl rfl t429 (lyk t429 rfl) rfl (xe_of (xa_r xa_0) rfl rfl) (r_d0 hd rfl) (a_X14_thrown  (r_d1 hd rfl)  w t429 (fun x430 rx430 w => ?_))
              refine r_fI (pc1 := 2600) rfl ?_
              have w := w rx430
              refine r_n (pc1 := 2602) [.int (J x424), .int (J x430)] _ rfl rfl ?_
              refine r_ic (t := 2607) (pc1 := 2605) rfl rfl rfl rx430 rx424 (fun c434 => ?_) (fun c434 => ?_)
              · have w := w.1 c434
                refine r_n (pc1 := 2609) [.int (J x424)] _ rfl rfl ?_
                obtain ⟨J431, j431, w⟩ := w
                have Q431 : J431 → RR sc goal fs 0 2624 [some (.ref 0), some (rv 2), some (rv 437), some (rv 467), some (.int (J x1)), some (.int (J x424)), some (.int (J x428)), d4, d5] [] h429 := by
                  intro z431
                  have w := j431 z431
                  refine r_goto (t := 3466) rfl rfl ?_
                  exact Q14 _ _ _ _  h429 t429 s429  w
                refine r_iz (t := 2624) (pc1 := 2612) rfl rfl rfl rx424 (fun c433 => ?_) (fun c433 => ?_)
                · have w := w.1 c433
                  exact Q431     w
                · have w := w.2 c433
                  refine r_aldn (pc1 := 2613) rfl rfl rfl ?_
                  refine r_n (pc1 := 2614) [.int (J 0), rv 467] _ rfl rfl ?_
                  refine r_lal (pc1 := 2615) rfl rfl t429 (lyk t429 rfl) (rgk rfl) (by decide) (lt_len (lyn t429 rfl) (by decide)) ?_
                  refine r_n (pc1 := 2617) [.int (J x428), .long (G (hL h429 467 0))] _ rfl rfl ?_
                  refine r_i2l (pc1 := 2618) rfl rfl ?_
                  refine r_lc (pc2 := 2619) (t := 2624) (pc1 := 2622) rfl rfl rfl rfl rfl (fun c432 => ?_) (fun c432 => ?_)
                  · have w := w.1 c432
                    exact Q431     w
                  · have w := w.2 c432
                    refine r_n (pc1 := 2623) [.int (J 0)] _ rfl rfl ?_
                    exact r_retB rfl rfl rfl (.inl rfl) (k _ _ t429 s429 (rgk rfl) (.inl rfl) w)
              · have w := w.2 c434
                refine r_n (pc1 := 2606) [.int (J 0)] _ rfl rfl ?_
                exact r_retB rfl rfl rfl (.inl rfl) (k _ _ t429 s429 (rgk rfl) (.inl rfl) w)
            refine r_iz (t := 2590) (pc1 := 2586) rfl rfl rfl (rgt _) (fun c435 => ?_) (fun c435 => ?_)
            · have w := w.1 c435
              refine r_n (pc1 := 2591) [.int (J 0), .int (J ((sc.2 (wr (x1 + 1)).toNat).toInt)), rv 437] _ rfl rfl ?_
              exact Q427  0  (rgk rfl) w
            · have w := w.2 c435
              refine r_n (pc1 := 2587) [.int (J 1), .int (J ((sc.2 (wr (x1 + 1)).toNat).toInt)), rv 437] _ rfl rfl ?_
              refine r_goto (t := 2591) rfl rfl ?_
              exact Q427  1  (rgk rfl) w
          refine r_iz (t := 2563) (pc1 := 2559) rfl rfl rfl (rgt _) (fun c436 => ?_) (fun c436 => ?_)
          · have w := w.1 c436
            refine r_n (pc1 := 2564) [.int (J 0), .int (J ((sc.2 (wr (x1 + 1)).toNat).toInt)), rv 2] _ rfl rfl ?_
            exact Q423  0  (rgk rfl) w
          · have w := w.2 c436
            refine r_n (pc1 := 2560) [.int (J 1), .int (J ((sc.2 (wr (x1 + 1)).toNat).toInt)), rv 2] _ rfl rfl ?_
            refine r_goto (t := 2564) rfl rfl ?_
            exact Q423  1  (rgk rfl) w
        · have w := w.2.2.2.2.2.2.2.2.2.2.2.2.2.2.2.2.2.2.2.2.2.2.2.2.2.2.2.2.2.2.2.2.2.2.2.2.2.2.2.2.2.1 c16
          refine r_aldn (pc1 := 2628) rfl rfl rfl ?_
          refine r_aldn (pc1 := 2629) rfl rfl rfl ?_
          refine r_iq rfl rfl rfl rfl rfl rfl (xe_of (xa_r (xa_r xa_0)) rfl rfl) (r_d0 hd rfl) (a_L_plan  (r_d1 hd rfl)  w t6 (fun x437 h438 t438 u438 rx437 w => ?_))
          refine r_fI (pc1 := 2632) rfl ?_
          have s438 := HX_trans s6 u438
          have w := w t438 u438
          have w := w rx437
          refine r_ist (pc1 := 2634) (ls1 := [some (.ref 0), some (rv 2), some (rv 437), some (rv 467), some (.int (J x1)), some (.int (J x437)), d3, d4, d5]) rfl rfl rfl rfl ?_
          refine r_aldn (pc1 := 2635) rfl rfl rfl ?_
          refine r_iv rfl rfl rfl rfl rfl rfl t438 (lyk t438 rfl) rfl (xe_of (xa_r xa_0) rfl rfl) (r_d0 hd rfl) (a_X14_plan  (r_d1 hd rfl)  w t438 (fun x439 h440 t440 u440 rx439 w => ?_))
          refine r_fI (pc1 := 2638) rfl ?_
          have s440 := HX_trans s438 u440
          have w := w t440 u440
          have w := w rx439
          refine r_ist (pc1 := 2640) (ls1 := [some (.ref 0), some (rv 2), some (rv 437), some (rv 467), some (.int (J x1)), some (.int (J x437)), some (.int (J x439)), d4, d5]) rfl rfl rfl rfl ?_
          refine r_aldn (pc1 := 2641) rfl rfl rfl ?_
          refine r_iv rfl rfl rfl rfl rfl rfl t440 (lyk t440 rfl) rfl (xe_of (xa_r xa_0) rfl rfl) (r_d0 hd rfl) (a_X14_thrown  (r_d1 hd rfl)  w t440 (fun x441 rx441 w => ?_))
          refine r_fI (pc1 := 2644) rfl ?_
          have w := w rx441
          refine r_n (pc1 := 2646) [.int (J x437), .int (J x441)] _ rfl rfl ?_
          refine r_ic (t := 2651) (pc1 := 2649) rfl rfl rfl rx441 rx437 (fun c445 => ?_) (fun c445 => ?_)
          · have w := w.1 c445
            refine r_n (pc1 := 2653) [.int (J x437)] _ rfl rfl ?_
            obtain ⟨J442, j442, w⟩ := w
            have Q442 : J442 → RR sc goal fs 0 2668 [some (.ref 0), some (rv 2), some (rv 437), some (rv 467), some (.int (J x1)), some (.int (J x437)), some (.int (J x439)), d4, d5] [] h440 := by
              intro z442
              have w := j442 z442
              refine r_goto (t := 3466) rfl rfl ?_
              exact Q14 _ _ _ _  h440 t440 s440  w
            refine r_iz (t := 2668) (pc1 := 2656) rfl rfl rfl rx437 (fun c444 => ?_) (fun c444 => ?_)
            · have w := w.1 c444
              exact Q442     w
            · have w := w.2 c444
              refine r_aldn (pc1 := 2657) rfl rfl rfl ?_
              refine r_n (pc1 := 2658) [.int (J 0), rv 467] _ rfl rfl ?_
              refine r_lal (pc1 := 2659) rfl rfl t440 (lyk t440 rfl) (rgk rfl) (by decide) (lt_len (lyn t440 rfl) (by decide)) ?_
              refine r_n (pc1 := 2661) [.int (J x439), .long (G (hL h440 467 0))] _ rfl rfl ?_
              refine r_i2l (pc1 := 2662) rfl rfl ?_
              refine r_lc (pc2 := 2663) (t := 2668) (pc1 := 2666) rfl rfl rfl rfl rfl (fun c443 => ?_) (fun c443 => ?_)
              · have w := w.1 c443
                exact Q442     w
              · have w := w.2 c443
                refine r_n (pc1 := 2667) [.int (J 0)] _ rfl rfl ?_
                exact r_retB rfl rfl rfl (.inl rfl) (k _ _ t440 s440 (rgk rfl) (.inl rfl) w)
          · have w := w.2 c445
            refine r_n (pc1 := 2650) [.int (J 0)] _ rfl rfl ?_
            exact r_retB rfl rfl rfl (.inl rfl) (k _ _ t440 s440 (rgk rfl) (.inl rfl) w)
        · have w := w.2.2.2.2.2.2.2.2.2.2.2.2.2.2.2.2.2.2.2.2.2.2.2.2.2.2.2.2.2.2.2.2.2.2.2.2.2.2.2.2.2.2.1 c16
          refine r_aldn (pc1 := 2672) rfl rfl rfl ?_
          refine r_n (pc1 := 2673) [.ref 0, rv 2] _ rfl rfl ?_
          refine r_n (pc1 := 2675) [.int (J x1), .ref 0, rv 2] _ rfl rfl ?_
          refine r_n (pc1 := 2676) [.int (J 1), .int (J x1), .ref 0, rv 2] _ rfl rfl ?_
          refine r_iadd (pc1 := 2677) rfl rfl ?_
          obtain ⟨c446, w⟩ := w
          refine r_sal (pc1 := 2678) rfl rfl t6 (rgw _) c446.1 c446.2 ?_
          refine r_aldn (pc1 := 2679) rfl rfl rfl ?_
          refine r_iq rfl rfl rfl rfl rfl rfl (xe_of (xa_r (xa_i (xa_r xa_0))) rfl rfl) (r_d0 hd rfl) (a_L_planAt ((sc.2 (wr (x1 + 1)).toNat).toInt) (r_d1 hd rfl) (rgt _) w t6 (fun x447 h448 t448 u448 rx447 w => ?_))
          refine r_fI (pc1 := 2682) rfl ?_
          have s448 := HX_trans s6 u448
          have w := w t448 u448
          have w := w rx447
          refine r_ist (pc1 := 2684) (ls1 := [some (.ref 0), some (rv 2), some (rv 437), some (rv 467), some (.int (J x1)), some (.int (J x447)), d3, d4, d5]) rfl rfl rfl rfl ?_
          refine r_aldn (pc1 := 2685) rfl rfl rfl ?_
          refine r_n (pc1 := 2686) [.ref 0, rv 437] _ rfl rfl ?_
          refine r_n (pc1 := 2688) [.int (J x1), .ref 0, rv 437] _ rfl rfl ?_
          refine r_n (pc1 := 2689) [.int (J 1), .int (J x1), .ref 0, rv 437] _ rfl rfl ?_
          refine r_iadd (pc1 := 2690) rfl rfl ?_
          refine r_sal (pc1 := 2691) rfl rfl t448 (rgw _) c446.1 c446.2 ?_
          refine r_iv rfl rfl rfl rfl rfl rfl t448 (lyk t448 rfl) rfl (xe_of (xa_r (xa_i xa_0)) rfl rfl) (r_d0 hd rfl) (a_X14_planAt ((sc.2 (wr (x1 + 1)).toNat).toInt) (r_d1 hd rfl) (rgt _) w t448 (fun x449 h450 t450 u450 rx449 w => ?_))
          refine r_fI (pc1 := 2694) rfl ?_
          have s450 := HX_trans s448 u450
          have w := w t450 u450
          have w := w rx449
          refine r_ist (pc1 := 2696) (ls1 := [some (.ref 0), some (rv 2), some (rv 437), some (rv 467), some (.int (J x1)), some (.int (J x447)), some (.int (J x449)), d4, d5]) rfl rfl rfl rfl ?_
          refine r_aldn (pc1 := 2697) rfl rfl rfl ?_
          refine r_iv rfl rfl rfl rfl rfl rfl t450 (lyk t450 rfl) rfl (xe_of (xa_r xa_0) rfl rfl) (r_d0 hd rfl) (a_X14_thrown  (r_d1 hd rfl)  w t450 (fun x451 rx451 w => ?_))
          refine r_fI (pc1 := 2700) rfl ?_
          have w := w rx451
          refine r_n (pc1 := 2702) [.int (J x447), .int (J x451)] _ rfl rfl ?_
          refine r_ic (t := 2707) (pc1 := 2705) rfl rfl rfl rx451 rx447 (fun c455 => ?_) (fun c455 => ?_)
          · have w := w.1 c455
            refine r_n (pc1 := 2709) [.int (J x447)] _ rfl rfl ?_
            obtain ⟨J452, j452, w⟩ := w
            have Q452 : J452 → RR sc goal fs 0 2724 [some (.ref 0), some (rv 2), some (rv 437), some (rv 467), some (.int (J x1)), some (.int (J x447)), some (.int (J x449)), d4, d5] [] h450 := by
              intro z452
              have w := j452 z452
              refine r_goto (t := 3466) rfl rfl ?_
              exact Q14 _ _ _ _  h450 t450 s450  w
            refine r_iz (t := 2724) (pc1 := 2712) rfl rfl rfl rx447 (fun c454 => ?_) (fun c454 => ?_)
            · have w := w.1 c454
              exact Q452     w
            · have w := w.2 c454
              refine r_aldn (pc1 := 2713) rfl rfl rfl ?_
              refine r_n (pc1 := 2714) [.int (J 0), rv 467] _ rfl rfl ?_
              refine r_lal (pc1 := 2715) rfl rfl t450 (lyk t450 rfl) (rgk rfl) (by decide) (lt_len (lyn t450 rfl) (by decide)) ?_
              refine r_n (pc1 := 2717) [.int (J x449), .long (G (hL h450 467 0))] _ rfl rfl ?_
              refine r_i2l (pc1 := 2718) rfl rfl ?_
              refine r_lc (pc2 := 2719) (t := 2724) (pc1 := 2722) rfl rfl rfl rfl rfl (fun c453 => ?_) (fun c453 => ?_)
              · have w := w.1 c453
                exact Q452     w
              · have w := w.2 c453
                refine r_n (pc1 := 2723) [.int (J 0)] _ rfl rfl ?_
                exact r_retB rfl rfl rfl (.inl rfl) (k _ _ t450 s450 (rgk rfl) (.inl rfl) w)
          · have w := w.2 c455
            refine r_n (pc1 := 2706) [.int (J 0)] _ rfl rfl ?_
            exact r_retB rfl rfl rfl (.inl rfl) (k _ _ t450 s450 (rgk rfl) (.inl rfl) w)
        · have w := w.2.2.2.2.2.2.2.2.2.2.2.2.2.2.2.2.2.2.2.2.2.2.2.2.2.2.2.2.2.2.2.2.2.2.2.2.2.2.2.2.2.2.2.1 c16
          refine r_aldn (pc1 := 2728) rfl rfl rfl ?_
          refine r_aldn (pc1 := 2729) rfl rfl rfl ?_
          refine r_iq rfl rfl rfl rfl rfl rfl (xe_of (xa_r (xa_r xa_0)) rfl rfl) (r_d0 hd rfl) (a_L_install  (r_d1 hd rfl)  w t6 (fun x456 h457 t457 u457 rx456 w => ?_))
          refine r_fI (pc1 := 2732) rfl ?_
          have s457 := HX_trans s6 u457
          have w := w t457 u457
          have w := w rx456
          refine r_ist (pc1 := 2734) (ls1 := [some (.ref 0), some (rv 2), some (rv 437), some (rv 467), some (.int (J x1)), some (.int (J x456)), d3, d4, d5]) rfl rfl rfl rfl ?_
          refine r_aldn (pc1 := 2735) rfl rfl rfl ?_
          refine r_iv rfl rfl rfl rfl rfl rfl t457 (lyk t457 rfl) rfl (xe_of (xa_r xa_0) rfl rfl) (r_d0 hd rfl) (a_X14_install  (r_d1 hd rfl)  w t457 (fun x458 h459 t459 u459 rx458 w => ?_))
          refine r_fI (pc1 := 2738) rfl ?_
          have s459 := HX_trans s457 u459
          have w := w t459 u459
          have w := w rx458
          refine r_ist (pc1 := 2740) (ls1 := [some (.ref 0), some (rv 2), some (rv 437), some (rv 467), some (.int (J x1)), some (.int (J x456)), some (.int (J x458)), d4, d5]) rfl rfl rfl rfl ?_
          refine r_aldn (pc1 := 2741) rfl rfl rfl ?_
          refine r_iv rfl rfl rfl rfl rfl rfl t459 (lyk t459 rfl) rfl (xe_of (xa_r xa_0) rfl rfl) (r_d0 hd rfl) (a_X14_thrown  (r_d1 hd rfl)  w t459 (fun x460 rx460 w => ?_))
          refine r_fI (pc1 := 2744) rfl ?_
          have w := w rx460
          refine r_n (pc1 := 2746) [.int (J x456), .int (J x460)] _ rfl rfl ?_
          refine r_ic (t := 2751) (pc1 := 2749) rfl rfl rfl rx460 rx456 (fun c464 => ?_) (fun c464 => ?_)
          · have w := w.1 c464
            refine r_n (pc1 := 2753) [.int (J x456)] _ rfl rfl ?_
            obtain ⟨J461, j461, w⟩ := w
            have Q461 : J461 → RR sc goal fs 0 2768 [some (.ref 0), some (rv 2), some (rv 437), some (rv 467), some (.int (J x1)), some (.int (J x456)), some (.int (J x458)), d4, d5] [] h459 := by
              intro z461
              have w := j461 z461
              refine r_goto (t := 3466) rfl rfl ?_
              exact Q14 _ _ _ _  h459 t459 s459  w
            refine r_iz (t := 2768) (pc1 := 2756) rfl rfl rfl rx456 (fun c463 => ?_) (fun c463 => ?_)
            · have w := w.1 c463
              exact Q461     w
            · have w := w.2 c463
              refine r_aldn (pc1 := 2757) rfl rfl rfl ?_
              refine r_n (pc1 := 2758) [.int (J 0), rv 467] _ rfl rfl ?_
              refine r_lal (pc1 := 2759) rfl rfl t459 (lyk t459 rfl) (rgk rfl) (by decide) (lt_len (lyn t459 rfl) (by decide)) ?_
              refine r_n (pc1 := 2761) [.int (J x458), .long (G (hL h459 467 0))] _ rfl rfl ?_
              refine r_i2l (pc1 := 2762) rfl rfl ?_
              refine r_lc (pc2 := 2763) (t := 2768) (pc1 := 2766) rfl rfl rfl rfl rfl (fun c462 => ?_) (fun c462 => ?_)
              · have w := w.1 c462
                exact Q461     w
              · have w := w.2 c462
                refine r_n (pc1 := 2767) [.int (J 0)] _ rfl rfl ?_
                exact r_retB rfl rfl rfl (.inl rfl) (k _ _ t459 s459 (rgk rfl) (.inl rfl) w)
          · have w := w.2 c464
            refine r_n (pc1 := 2750) [.int (J 0)] _ rfl rfl ?_
            exact r_retB rfl rfl rfl (.inl rfl) (k _ _ t459 s459 (rgk rfl) (.inl rfl) w)
        · have w := w.2.2.2.2.2.2.2.2.2.2.2.2.2.2.2.2.2.2.2.2.2.2.2.2.2.2.2.2.2.2.2.2.2.2.2.2.2.2.2.2.2.2.2.2.1 c16
          refine r_aldn (pc1 := 2772) rfl rfl rfl ?_
          refine r_n (pc1 := 2773) [.ref 0, rv 2] _ rfl rfl ?_
          refine r_n (pc1 := 2775) [.int (J x1), .ref 0, rv 2] _ rfl rfl ?_
          refine r_n (pc1 := 2776) [.int (J 1), .int (J x1), .ref 0, rv 2] _ rfl rfl ?_
          refine r_iadd (pc1 := 2777) rfl rfl ?_
          obtain ⟨c465, w⟩ := w
          refine r_sal (pc1 := 2778) rfl rfl t6 (rgw _) c465.1 c465.2 ?_
          refine r_aldn (pc1 := 2779) rfl rfl rfl ?_
          refine r_iq rfl rfl rfl rfl rfl rfl (xe_of (xa_r (xa_i (xa_r xa_0))) rfl rfl) (r_d0 hd rfl) (a_L_failure ((sc.2 (wr (x1 + 1)).toNat).toInt) (r_d1 hd rfl) (rgt _) w t6 (fun x466 h467 t467 u467 rx466 w => ?_))
          refine r_fI (pc1 := 2782) rfl ?_
          have s467 := HX_trans s6 u467
          have w := w t467 u467
          have w := w rx466
          refine r_ist (pc1 := 2784) (ls1 := [some (.ref 0), some (rv 2), some (rv 437), some (rv 467), some (.int (J x1)), some (.int (J x466)), d3, d4, d5]) rfl rfl rfl rfl ?_
          refine r_aldn (pc1 := 2785) rfl rfl rfl ?_
          refine r_n (pc1 := 2786) [.ref 0, rv 437] _ rfl rfl ?_
          refine r_n (pc1 := 2788) [.int (J x1), .ref 0, rv 437] _ rfl rfl ?_
          refine r_n (pc1 := 2789) [.int (J 1), .int (J x1), .ref 0, rv 437] _ rfl rfl ?_
          refine r_iadd (pc1 := 2790) rfl rfl ?_
          refine r_sal (pc1 := 2791) rfl rfl t467 (rgw _) c465.1 c465.2 ?_
          refine r_iv rfl rfl rfl rfl rfl rfl t467 (lyk t467 rfl) rfl (xe_of (xa_r (xa_i xa_0)) rfl rfl) (r_d0 hd rfl) (a_X14_failure ((sc.2 (wr (x1 + 1)).toNat).toInt) (r_d1 hd rfl) (rgt _) w t467 (fun x468 h469 t469 u469 rx468 w => ?_))
          refine r_fI (pc1 := 2794) rfl ?_
          have s469 := HX_trans s467 u469
          have w := w t469 u469
          have w := w rx468
          refine r_ist (pc1 := 2796) (ls1 := [some (.ref 0), some (rv 2), some (rv 437), some (rv 467), some (.int (J x1)), some (.int (J x466)), some (.int (J x468)), d4, d5]) rfl rfl rfl rfl ?_
          refine r_aldn (pc1 := 2797) rfl rfl rfl ?_
          refine r_iv rfl rfl rfl rfl rfl rfl t469 (lyk t469 rfl) rfl (xe_of (xa_r xa_0) rfl rfl) (r_d0 hd rfl) (a_X14_thrown  (r_d1 hd rfl)  w t469 (fun x470 rx470 w => ?_))
          refine r_fI (pc1 := 2800) rfl ?_
          have w := w rx470
          refine r_n (pc1 := 2802) [.int (J x466), .int (J x470)] _ rfl rfl ?_
          refine r_ic (t := 2807) (pc1 := 2805) rfl rfl rfl rx470 rx466 (fun c474 => ?_) (fun c474 => ?_)
          · have w := w.1 c474
            refine r_n (pc1 := 2809) [.int (J x466)] _ rfl rfl ?_
            obtain ⟨J471, j471, w⟩ := w
            have Q471 : J471 → RR sc goal fs 0 2824 [some (.ref 0), some (rv 2), some (rv 437), some (rv 467), some (.int (J x1)), some (.int (J x466)), some (.int (J x468)), d4, d5] [] h469 := by
              intro z471
              have w := j471 z471
              refine r_goto (t := 3466) rfl rfl ?_
              exact Q14 _ _ _ _  h469 t469 s469  w
            refine r_iz (t := 2824) (pc1 := 2812) rfl rfl rfl rx466 (fun c473 => ?_) (fun c473 => ?_)
            · have w := w.1 c473
              exact Q471     w
            · have w := w.2 c473
              refine r_aldn (pc1 := 2813) rfl rfl rfl ?_
              refine r_n (pc1 := 2814) [.int (J 0), rv 467] _ rfl rfl ?_
              refine r_lal (pc1 := 2815) rfl rfl t469 (lyk t469 rfl) (rgk rfl) (by decide) (lt_len (lyn t469 rfl) (by decide)) ?_
              refine r_n (pc1 := 2817) [.int (J x468), .long (G (hL h469 467 0))] _ rfl rfl ?_
              refine r_i2l (pc1 := 2818) rfl rfl ?_
              refine r_lc (pc2 := 2819) (t := 2824) (pc1 := 2822) rfl rfl rfl rfl rfl (fun c472 => ?_) (fun c472 => ?_)
              · have w := w.1 c472
                exact Q471     w
              · have w := w.2 c472
                refine r_n (pc1 := 2823) [.int (J 0)] _ rfl rfl ?_
                exact r_retB rfl rfl rfl (.inl rfl) (k _ _ t469 s469 (rgk rfl) (.inl rfl) w)
          · have w := w.2 c474
            refine r_n (pc1 := 2806) [.int (J 0)] _ rfl rfl ?_
            exact r_retB rfl rfl rfl (.inl rfl) (k _ _ t469 s469 (rgk rfl) (.inl rfl) w)
        · have w := w.2.2.2.2.2.2.2.2.2.2.2.2.2.2.2.2.2.2.2.2.2.2.2.2.2.2.2.2.2.2.2.2.2.2.2.2.2.2.2.2.2.2.2.2.2.1 c16
          refine r_aldn (pc1 := 2828) rfl rfl rfl ?_
          refine r_n (pc1 := 2829) [.ref 0, rv 2] _ rfl rfl ?_
          refine r_n (pc1 := 2831) [.int (J x1), .ref 0, rv 2] _ rfl rfl ?_
          refine r_n (pc1 := 2832) [.int (J 1), .int (J x1), .ref 0, rv 2] _ rfl rfl ?_
          refine r_iadd (pc1 := 2833) rfl rfl ?_
          obtain ⟨c475, w⟩ := w
          refine r_sal (pc1 := 2834) rfl rfl t6 (rgw _) c475.1 c475.2 ?_
          refine r_aldn (pc1 := 2835) rfl rfl rfl ?_
          refine r_iq rfl rfl rfl rfl rfl rfl (xe_of (xa_r (xa_i (xa_r xa_0))) rfl rfl) (r_d0 hd rfl) (a_L_installed ((sc.2 (wr (x1 + 1)).toNat).toInt) (r_d1 hd rfl) (rgt _) w t6 (fun x476 h477 t477 u477 rx476 w => ?_))
          refine r_fI (pc1 := 2838) rfl ?_
          have s477 := HX_trans s6 u477
          have w := w t477 u477
          have w := w rx476
          refine r_ist (pc1 := 2840) (ls1 := [some (.ref 0), some (rv 2), some (rv 437), some (rv 467), some (.int (J x1)), some (.int (J x476)), d3, d4, d5]) rfl rfl rfl rfl ?_
          refine r_aldn (pc1 := 2841) rfl rfl rfl ?_
          refine r_n (pc1 := 2842) [.ref 0, rv 437] _ rfl rfl ?_
          refine r_n (pc1 := 2844) [.int (J x1), .ref 0, rv 437] _ rfl rfl ?_
          refine r_n (pc1 := 2845) [.int (J 1), .int (J x1), .ref 0, rv 437] _ rfl rfl ?_
          refine r_iadd (pc1 := 2846) rfl rfl ?_
          refine r_sal (pc1 := 2847) rfl rfl t477 (rgw _) c475.1 c475.2 ?_
          refine r_iv rfl rfl rfl rfl rfl rfl t477 (lyk t477 rfl) rfl (xe_of (xa_r (xa_i xa_0)) rfl rfl) (r_d0 hd rfl) (a_X14_installed ((sc.2 (wr (x1 + 1)).toNat).toInt) (r_d1 hd rfl) (rgt _) w t477 (fun x478 h479 t479 u479 rx478 w => ?_))
          refine r_fI (pc1 := 2850) rfl ?_
          have s479 := HX_trans s477 u479
          have w := w t479 u479
          have w := w rx478
          refine r_ist (pc1 := 2852) (ls1 := [some (.ref 0), some (rv 2), some (rv 437), some (rv 467), some (.int (J x1)), some (.int (J x476)), some (.int (J x478)), d4, d5]) rfl rfl rfl rfl ?_
          refine r_aldn (pc1 := 2853) rfl rfl rfl ?_
          refine r_iv rfl rfl rfl rfl rfl rfl t479 (lyk t479 rfl) rfl (xe_of (xa_r xa_0) rfl rfl) (r_d0 hd rfl) (a_X14_thrown  (r_d1 hd rfl)  w t479 (fun x480 rx480 w => ?_))
          refine r_fI (pc1 := 2856) rfl ?_
          have w := w rx480
          refine r_n (pc1 := 2858) [.int (J x476), .int (J x480)] _ rfl rfl ?_
          refine r_ic (t := 2863) (pc1 := 2861) rfl rfl rfl rx480 rx476 (fun c484 => ?_) (fun c484 => ?_)
          · have w := w.1 c484
            refine r_n (pc1 := 2865) [.int (J x476)] _ rfl rfl ?_
            obtain ⟨J481, j481, w⟩ := w
            have Q481 : J481 → RR sc goal fs 0 2880 [some (.ref 0), some (rv 2), some (rv 437), some (rv 467), some (.int (J x1)), some (.int (J x476)), some (.int (J x478)), d4, d5] [] h479 := by
              intro z481
              have w := j481 z481
              refine r_goto (t := 3466) rfl rfl ?_
              exact Q14 _ _ _ _  h479 t479 s479  w
            refine r_iz (t := 2880) (pc1 := 2868) rfl rfl rfl rx476 (fun c483 => ?_) (fun c483 => ?_)
            · have w := w.1 c483
              exact Q481     w
            · have w := w.2 c483
              refine r_aldn (pc1 := 2869) rfl rfl rfl ?_
              refine r_n (pc1 := 2870) [.int (J 0), rv 467] _ rfl rfl ?_
              refine r_lal (pc1 := 2871) rfl rfl t479 (lyk t479 rfl) (rgk rfl) (by decide) (lt_len (lyn t479 rfl) (by decide)) ?_
              refine r_n (pc1 := 2873) [.int (J x478), .long (G (hL h479 467 0))] _ rfl rfl ?_
              refine r_i2l (pc1 := 2874) rfl rfl ?_
              refine r_lc (pc2 := 2875) (t := 2880) (pc1 := 2878) rfl rfl rfl rfl rfl (fun c482 => ?_) (fun c482 => ?_)
              · have w := w.1 c482
                exact Q481     w
              · have w := w.2 c482
                refine r_n (pc1 := 2879) [.int (J 0)] _ rfl rfl ?_
                exact r_retB rfl rfl rfl (.inl rfl) (k _ _ t479 s479 (rgk rfl) (.inl rfl) w)
          · have w := w.2 c484
            refine r_n (pc1 := 2862) [.int (J 0)] _ rfl rfl ?_
            exact r_retB rfl rfl rfl (.inl rfl) (k _ _ t479 s479 (rgk rfl) (.inl rfl) w)
        · have w := w.2.2.2.2.2.2.2.2.2.2.2.2.2.2.2.2.2.2.2.2.2.2.2.2.2.2.2.2.2.2.2.2.2.2.2.2.2.2.2.2.2.2.2.2.2.2.1 c16
          refine r_aldn (pc1 := 2884) rfl rfl rfl ?_
          refine r_n (pc1 := 2885) [.ref 0, rv 2] _ rfl rfl ?_
          refine r_n (pc1 := 2887) [.int (J x1), .ref 0, rv 2] _ rfl rfl ?_
          refine r_n (pc1 := 2888) [.int (J 1), .int (J x1), .ref 0, rv 2] _ rfl rfl ?_
          refine r_iadd (pc1 := 2889) rfl rfl ?_
          obtain ⟨c485, w⟩ := w
          refine r_sal (pc1 := 2890) rfl rfl t6 (rgw _) c485.1 c485.2 ?_
          refine r_aldn (pc1 := 2891) rfl rfl rfl ?_
          refine r_iq rfl rfl rfl rfl rfl rfl (xe_of (xa_r (xa_i (xa_r xa_0))) rfl rfl) (r_d0 hd rfl) (a_L_owner ((sc.2 (wr (x1 + 1)).toNat).toInt) (r_d1 hd rfl) (rgt _) w t6 (fun x486 h487 t487 u487 rx486 w => ?_))
          refine r_fI (pc1 := 2894) rfl ?_
          have s487 := HX_trans s6 u487
          have w := w t487 u487
          have w := w rx486
          refine r_ist (pc1 := 2896) (ls1 := [some (.ref 0), some (rv 2), some (rv 437), some (rv 467), some (.int (J x1)), some (.int (J x486)), d3, d4, d5]) rfl rfl rfl rfl ?_
          refine r_aldn (pc1 := 2897) rfl rfl rfl ?_
          refine r_n (pc1 := 2898) [.ref 0, rv 437] _ rfl rfl ?_
          refine r_n (pc1 := 2900) [.int (J x1), .ref 0, rv 437] _ rfl rfl ?_
          refine r_n (pc1 := 2901) [.int (J 1), .int (J x1), .ref 0, rv 437] _ rfl rfl ?_
          refine r_iadd (pc1 := 2902) rfl rfl ?_
          refine r_sal (pc1 := 2903) rfl rfl t487 (rgw _) c485.1 c485.2 ?_
          refine r_iv rfl rfl rfl rfl rfl rfl t487 (lyk t487 rfl) rfl (xe_of (xa_r (xa_i xa_0)) rfl rfl) (r_d0 hd rfl) (a_X14_owner ((sc.2 (wr (x1 + 1)).toNat).toInt) (r_d1 hd rfl) (rgt _) w t487 (fun x488 h489 t489 u489 rx488 w => ?_))
          refine r_fI (pc1 := 2906) rfl ?_
          have s489 := HX_trans s487 u489
          have w := w t489 u489
          have w := w rx488
          refine r_ist (pc1 := 2908) (ls1 := [some (.ref 0), some (rv 2), some (rv 437), some (rv 467), some (.int (J x1)), some (.int (J x486)), some (.int (J x488)), d4, d5]) rfl rfl rfl rfl ?_
          refine r_aldn (pc1 := 2909) rfl rfl rfl ?_
          refine r_iv rfl rfl rfl rfl rfl rfl t489 (lyk t489 rfl) rfl (xe_of (xa_r xa_0) rfl rfl) (r_d0 hd rfl) (a_X14_thrown  (r_d1 hd rfl)  w t489 (fun x490 rx490 w => ?_))
          refine r_fI (pc1 := 2912) rfl ?_
          have w := w rx490
          refine r_n (pc1 := 2914) [.int (J x486), .int (J x490)] _ rfl rfl ?_
          refine r_ic (t := 2919) (pc1 := 2917) rfl rfl rfl rx490 rx486 (fun c494 => ?_) (fun c494 => ?_)
          · have w := w.1 c494
            refine r_n (pc1 := 2921) [.int (J x486)] _ rfl rfl ?_
            obtain ⟨J491, j491, w⟩ := w
            have Q491 : J491 → RR sc goal fs 0 2936 [some (.ref 0), some (rv 2), some (rv 437), some (rv 467), some (.int (J x1)), some (.int (J x486)), some (.int (J x488)), d4, d5] [] h489 := by
              intro z491
              have w := j491 z491
              refine r_goto (t := 3466) rfl rfl ?_
              exact Q14 _ _ _ _  h489 t489 s489  w
            refine r_iz (t := 2936) (pc1 := 2924) rfl rfl rfl rx486 (fun c493 => ?_) (fun c493 => ?_)
            · have w := w.1 c493
              exact Q491     w
            · have w := w.2 c493
              refine r_aldn (pc1 := 2925) rfl rfl rfl ?_
              refine r_n (pc1 := 2926) [.int (J 0), rv 467] _ rfl rfl ?_
              refine r_lal (pc1 := 2927) rfl rfl t489 (lyk t489 rfl) (rgk rfl) (by decide) (lt_len (lyn t489 rfl) (by decide)) ?_
              refine r_n (pc1 := 2929) [.int (J x488), .long (G (hL h489 467 0))] _ rfl rfl ?_
              refine r_i2l (pc1 := 2930) rfl rfl ?_
              refine r_lc (pc2 := 2931) (t := 2936) (pc1 := 2934) rfl rfl rfl rfl rfl (fun c492 => ?_) (fun c492 => ?_)
              · have w := w.1 c492
                exact Q491     w
              · have w := w.2 c492
                refine r_n (pc1 := 2935) [.int (J 0)] _ rfl rfl ?_
                exact r_retB rfl rfl rfl (.inl rfl) (k _ _ t489 s489 (rgk rfl) (.inl rfl) w)
          · have w := w.2 c494
            refine r_n (pc1 := 2918) [.int (J 0)] _ rfl rfl ?_
            exact r_retB rfl rfl rfl (.inl rfl) (k _ _ t489 s489 (rgk rfl) (.inl rfl) w)
        · have w := w.2.2.2.2.2.2.2.2.2.2.2.2.2.2.2.2.2.2.2.2.2.2.2.2.2.2.2.2.2.2.2.2.2.2.2.2.2.2.2.2.2.2.2.2.2.2.2.1 c16
          refine r_aldn (pc1 := 2940) rfl rfl rfl ?_
          refine r_iv rfl rfl rfl rfl rfl rfl t6 (lyk t6 rfl) rfl (xe_of (xa_r xa_0) rfl rfl) (r_d0 hd rfl) (a_X12_clashes  (r_d1 hd rfl)  w t6 (fun x495 rx495 w => ?_))
          refine r_fI (pc1 := 2943) rfl ?_
          have w := w rx495
          refine r_aldn (pc1 := 2944) rfl rfl rfl ?_
          refine r_iv rfl rfl rfl rfl rfl rfl t6 (lyk t6 rfl) rfl (xe_of (xa_r xa_0) rfl rfl) (r_d0 hd rfl) (a_X14_clashes  (r_d1 hd rfl)  w t6 (fun x496 h497 t497 u497 rx496 w => ?_))
          refine r_fI (pc1 := 2947) rfl ?_
          have s497 := HX_trans s6 u497
          have w := w t497 u497
          have w := w rx496
          refine r_ic (t := 3466) (pc1 := 2950) rfl rfl rfl rx495 rx496 (fun c498 => ?_) (fun c498 => ?_)
          · have w := w.1 c498
            exact Q14 _ _ _ _  h497 t497 s497  w
          · have w := w.2 c498
            refine r_n (pc1 := 2951) [.int (J 0)] _ rfl rfl ?_
            exact r_retB rfl rfl rfl (.inl rfl) (k _ _ t497 s497 (rgk rfl) (.inl rfl) w)
        · have w := w.2.2.2.2.2.2.2.2.2.2.2.2.2.2.2.2.2.2.2.2.2.2.2.2.2.2.2.2.2.2.2.2.2.2.2.2.2.2.2.2.2.2.2.2.2.2.2.2.1 c16
          refine r_aldn (pc1 := 2953) rfl rfl rfl ?_
          refine r_n (pc1 := 2954) [.ref 0, rv 2] _ rfl rfl ?_
          refine r_n (pc1 := 2956) [.int (J x1), .ref 0, rv 2] _ rfl rfl ?_
          refine r_n (pc1 := 2957) [.int (J 1), .int (J x1), .ref 0, rv 2] _ rfl rfl ?_
          refine r_iadd (pc1 := 2958) rfl rfl ?_
          obtain ⟨c499, w⟩ := w
          refine r_sal (pc1 := 2959) rfl rfl t6 (rgw _) c499.1 c499.2 ?_
          refine r_n (pc1 := 2960) [.ref 0, .int (J ((sc.2 (wr (x1 + 1)).toNat).toInt)), rv 2] _ rfl rfl ?_
          refine r_n (pc1 := 2962) [.int (J x1), .ref 0, .int (J ((sc.2 (wr (x1 + 1)).toNat).toInt)), rv 2] _ rfl rfl ?_
          refine r_n (pc1 := 2963) [.int (J 2), .int (J x1), .ref 0, .int (J ((sc.2 (wr (x1 + 1)).toNat).toInt)), rv 2] _ rfl rfl ?_
          refine r_iadd (pc1 := 2964) rfl rfl ?_
          obtain ⟨c500, w⟩ := w
          refine r_sal (pc1 := 2965) rfl rfl t6 (rgw _) c500.1 c500.2 ?_
          refine r_n (pc1 := 2966) [.ref 0, .int (J ((sc.2 (wr (x1 + 2)).toNat).toInt)), .int (J ((sc.2 (wr (x1 + 1)).toNat).toInt)), rv 2] _ rfl rfl ?_
          refine r_n (pc1 := 2968) [.int (J x1), .ref 0, .int (J ((sc.2 (wr (x1 + 2)).toNat).toInt)), .int (J ((sc.2 (wr (x1 + 1)).toNat).toInt)), rv 2] _ rfl rfl ?_
          refine r_n (pc1 := 2969) [.int (J 3), .int (J x1), .ref 0, .int (J ((sc.2 (wr (x1 + 2)).toNat).toInt)), .int (J ((sc.2 (wr (x1 + 1)).toNat).toInt)), rv 2] _ rfl rfl ?_
          refine r_iadd (pc1 := 2970) rfl rfl ?_
          obtain ⟨c501, w⟩ := w
          refine r_sal (pc1 := 2971) rfl rfl t6 (rgw _) c501.1 c501.2 ?_
          obtain ⟨J503, j503, w⟩ := w
          have Q503 : ∀ (x502 : Int), rg x502 → J503 x502 → RR sc goal fs 0 2979 [some (.ref 0), some (rv 2), some (rv 437), some (rv 467), some (.int (J x1)), d2, d3, d4, d5] [.int (J x502), .int (J ((sc.2 (wr (x1 + 2)).toNat).toInt)), .int (J ((sc.2 (wr (x1 + 1)).toNat).toInt)), rv 2] h6 := by
            intro x502 rx502 z503
            have w := j503 x502 rx502 z503
            refine r_aldn (pc1 := 2980) rfl rfl rfl ?_
            refine r_iq rfl rfl rfl rfl rfl rfl (xe_of (xa_r (xa_i (xa_i (xa_i (xa_r xa_0))))) rfl rfl) (r_d0 hd rfl) (a_L_fails ((sc.2 (wr (x1 + 1)).toNat).toInt) ((sc.2 (wr (x1 + 2)).toNat).toInt) x502 (r_d1 hd rfl) (rgt _) (rgt _) rx502 w t6 (fun x504 h505 t505 u505 rx504 w => ?_))
            refine r_fI (pc1 := 2983) rfl ?_
            have s505 := HX_trans s6 u505
            have w := w t505 u505
            have w := w rx504
            refine r_ist (pc1 := 2985) (ls1 := [some (.ref 0), some (rv 2), some (rv 437), some (rv 467), some (.int (J x1)), some (.int (J x504)), d3, d4, d5]) rfl rfl rfl rfl ?_
            refine r_aldn (pc1 := 2986) rfl rfl rfl ?_
            refine r_n (pc1 := 2987) [.ref 0, rv 437] _ rfl rfl ?_
            refine r_n (pc1 := 2989) [.int (J x1), .ref 0, rv 437] _ rfl rfl ?_
            refine r_n (pc1 := 2990) [.int (J 1), .int (J x1), .ref 0, rv 437] _ rfl rfl ?_
            refine r_iadd (pc1 := 2991) rfl rfl ?_
            refine r_sal (pc1 := 2992) rfl rfl t505 (rgw _) c499.1 c499.2 ?_
            refine r_n (pc1 := 2993) [.ref 0, .int (J ((sc.2 (wr (x1 + 1)).toNat).toInt)), rv 437] _ rfl rfl ?_
            refine r_n (pc1 := 2995) [.int (J x1), .ref 0, .int (J ((sc.2 (wr (x1 + 1)).toNat).toInt)), rv 437] _ rfl rfl ?_
            refine r_n (pc1 := 2996) [.int (J 2), .int (J x1), .ref 0, .int (J ((sc.2 (wr (x1 + 1)).toNat).toInt)), rv 437] _ rfl rfl ?_
            refine r_iadd (pc1 := 2997) rfl rfl ?_
            refine r_sal (pc1 := 2998) rfl rfl t505 (rgw _) c500.1 c500.2 ?_
            refine r_n (pc1 := 2999) [.ref 0, .int (J ((sc.2 (wr (x1 + 2)).toNat).toInt)), .int (J ((sc.2 (wr (x1 + 1)).toNat).toInt)), rv 437] _ rfl rfl ?_
            refine r_n (pc1 := 3001) [.int (J x1), .ref 0, .int (J ((sc.2 (wr (x1 + 2)).toNat).toInt)), .int (J ((sc.2 (wr (x1 + 1)).toNat).toInt)), rv 437] _ rfl rfl ?_
            refine r_n (pc1 := 3002) [.int (J 3), .int (J x1), .ref 0, .int (J ((sc.2 (wr (x1 + 2)).toNat).toInt)), .int (J ((sc.2 (wr (x1 + 1)).toNat).toInt)), rv 437] _ rfl rfl ?_
            refine r_iadd (pc1 := 3003) rfl rfl ?_
            refine r_sal (pc1 := 3004) rfl rfl t505 (rgw _) c501.1 c501.2 ?_
            obtain ⟨J507, j507, w⟩ := w
            have Q507 : ∀ (x506 : Int), rg x506 → J507 x506 → RR sc goal fs 0 3012 [some (.ref 0), some (rv 2), some (rv 437), some (rv 467), some (.int (J x1)), some (.int (J x504)), d3, d4, d5] [.int (J x506), .int (J ((sc.2 (wr (x1 + 2)).toNat).toInt)), .int (J ((sc.2 (wr (x1 + 1)).toNat).toInt)), rv 437] h505 := by
              intro x506 rx506 z507
              have w := j507 x506 rx506 z507
              refine r_iv rfl rfl rfl rfl rfl rfl t505 (lyk t505 rfl) rfl (xe_of (xa_r (xa_i (xa_i (xa_i xa_0)))) rfl rfl) (r_d0 hd rfl) (a_X14_fails ((sc.2 (wr (x1 + 1)).toNat).toInt) ((sc.2 (wr (x1 + 2)).toNat).toInt) x506 (r_d1 hd rfl) (rgt _) (rgt _) rx506 w t505 (fun x508 h509 t509 u509 rx508 vx508 w => ?_))
              refine r_fI (pc1 := 3015) rfl ?_
              have s509 := HX_trans s505 u509
              have w := w t509 u509
              have w := w rx508 vx508
              refine r_ist (pc1 := 3017) (ls1 := [some (.ref 0), some (rv 2), some (rv 437), some (rv 467), some (.int (J x1)), some (.int (J x504)), some (.int (J x508)), d4, d5]) rfl rfl rfl rfl ?_
              refine r_aldn (pc1 := 3018) rfl rfl rfl ?_
              refine r_iv rfl rfl rfl rfl rfl rfl t509 (lyk t509 rfl) rfl (xe_of (xa_r xa_0) rfl rfl) (r_d0 hd rfl) (a_X14_thrown  (r_d1 hd rfl)  w t509 (fun x510 rx510 w => ?_))
              refine r_fI (pc1 := 3021) rfl ?_
              have w := w rx510
              refine r_n (pc1 := 3023) [.int (J x504), .int (J x510)] _ rfl rfl ?_
              refine r_ic (t := 3028) (pc1 := 3026) rfl rfl rfl rx510 rx504 (fun c517 => ?_) (fun c517 => ?_)
              · have w := w.1 c517
                refine r_n (pc1 := 3030) [.int (J x504)] _ rfl rfl ?_
                obtain ⟨J511, j511, w⟩ := w
                have Q511 : J511 → RR sc goal fs 0 3052 [some (.ref 0), some (rv 2), some (rv 437), some (rv 467), some (.int (J x1)), some (.int (J x504)), some (.int (J x508)), d4, d5] [] h509 := by
                  intro z511
                  have w := j511 z511
                  refine r_goto (t := 3466) rfl rfl ?_
                  exact Q14 _ _ _ _  h509 t509 s509  w
                refine r_iz (t := 3052) (pc1 := 3033) rfl rfl rfl rx504 (fun c516 => ?_) (fun c516 => ?_)
                · have w := w.1 c516
                  exact Q511     w
                · have w := w.2 c516
                  refine r_aldn (pc1 := 3034) rfl rfl rfl ?_
                  refine r_n (pc1 := 3035) [.int (J 0), rv 467] _ rfl rfl ?_
                  refine r_lal (pc1 := 3036) rfl rfl t509 (lyk t509 rfl) (rgk rfl) (by decide) (lt_len (lyn t509 rfl) (by decide)) ?_
                  refine r_n (pc1 := 3038) [.int (J x508), .long (G (hL h509 467 0))] _ rfl rfl ?_
                  obtain ⟨J513, j513, w⟩ := w
                  have Q513 : ∀ (b512 : BitVec 64), J513 b512 → RR sc goal fs 0 3046 [some (.ref 0), some (rv 2), some (rv 437), some (rv 467), some (.int (J x1)), some (.int (J x504)), some (.int (J x508)), d4, d5] [.long (G b512), .long (G (hL h509 467 0))] h509 := by
                    intro b512 z513
                    have w := j513 b512 z513
                    refine r_lc (pc2 := 3047) (t := 3052) (pc1 := 3050) rfl rfl rfl rfl rfl (fun c514 => ?_) (fun c514 => ?_)
                    · have w := w.1 c514
                      exact Q511     w
                    · have w := w.2 c514
                      refine r_n (pc1 := 3051) [.int (J 0)] _ rfl rfl ?_
                      exact r_retB rfl rfl rfl (.inl rfl) (k _ _ t509 s509 (rgk rfl) (.inl rfl) w)
                  refine r_iz (t := 3045) (pc1 := 3041) rfl rfl rfl rx508 (fun c515 => ?_) (fun c515 => ?_)
                  · have w := w.1 c515
                    refine r_n (pc1 := 3046) [.long (G (0#64)), .long (G (hL h509 467 0))] _ rfl rfl ?_
                    exact Q513  (0#64)   w
                  · have w := w.2 c515
                    refine r_n (pc1 := 3042) [.long (G (1#64)), .long (G (hL h509 467 0))] _ rfl rfl ?_
                    refine r_goto (t := 3046) rfl rfl ?_
                    exact Q513  (1#64)   w
              · have w := w.2 c517
                refine r_n (pc1 := 3027) [.int (J 0)] _ rfl rfl ?_
                exact r_retB rfl rfl rfl (.inl rfl) (k _ _ t509 s509 (rgk rfl) (.inl rfl) w)
            refine r_iz (t := 3011) (pc1 := 3007) rfl rfl rfl (rgt _) (fun c518 => ?_) (fun c518 => ?_)
            · have w := w.1 c518
              refine r_n (pc1 := 3012) [.int (J 0), .int (J ((sc.2 (wr (x1 + 2)).toNat).toInt)), .int (J ((sc.2 (wr (x1 + 1)).toNat).toInt)), rv 437] _ rfl rfl ?_
              exact Q507  0  (rgk rfl) w
            · have w := w.2 c518
              refine r_n (pc1 := 3008) [.int (J 1), .int (J ((sc.2 (wr (x1 + 2)).toNat).toInt)), .int (J ((sc.2 (wr (x1 + 1)).toNat).toInt)), rv 437] _ rfl rfl ?_
              refine r_goto (t := 3012) rfl rfl ?_
              exact Q507  1  (rgk rfl) w
          refine r_iz (t := 2978) (pc1 := 2974) rfl rfl rfl (rgt _) (fun c519 => ?_) (fun c519 => ?_)
          · have w := w.1 c519
            refine r_n (pc1 := 2979) [.int (J 0), .int (J ((sc.2 (wr (x1 + 2)).toNat).toInt)), .int (J ((sc.2 (wr (x1 + 1)).toNat).toInt)), rv 2] _ rfl rfl ?_
            exact Q503  0  (rgk rfl) w
          · have w := w.2 c519
            refine r_n (pc1 := 2975) [.int (J 1), .int (J ((sc.2 (wr (x1 + 2)).toNat).toInt)), .int (J ((sc.2 (wr (x1 + 1)).toNat).toInt)), rv 2] _ rfl rfl ?_
            refine r_goto (t := 2979) rfl rfl ?_
            exact Q503  1  (rgk rfl) w
        · have w := w.2.2.2.2.2.2.2.2.2.2.2.2.2.2.2.2.2.2.2.2.2.2.2.2.2.2.2.2.2.2.2.2.2.2.2.2.2.2.2.2.2.2.2.2.2.2.2.2.2.1 c16
          refine r_aldn (pc1 := 3056) rfl rfl rfl ?_
          refine r_iv rfl rfl rfl rfl rfl rfl t6 (lyk t6 rfl) rfl (xe_of (xa_r xa_0) rfl rfl) (r_d0 hd rfl) (a_X12_scripts  (r_d1 hd rfl)  w t6 (fun x520 h521 t521 u521 rx520 w => ?_))
          refine r_fI (pc1 := 3059) rfl ?_
          have s521 := HX_trans s6 u521
          have w := w t521 u521
          have w := w rx520
          refine r_aldn (pc1 := 3060) rfl rfl rfl ?_
          refine r_iv rfl rfl rfl rfl rfl rfl t521 (lyk t521 rfl) rfl (xe_of (xa_r xa_0) rfl rfl) (r_d0 hd rfl) (a_X14_scripts  (r_d1 hd rfl)  w t521 (fun x522 h523 t523 u523 rx522 w => ?_))
          refine r_fI (pc1 := 3063) rfl ?_
          have s523 := HX_trans s521 u523
          have w := w t523 u523
          have w := w rx522
          refine r_ic (t := 3466) (pc1 := 3066) rfl rfl rfl rx520 rx522 (fun c524 => ?_) (fun c524 => ?_)
          · have w := w.1 c524
            exact Q14 _ _ _ _  h523 t523 s523  w
          · have w := w.2 c524
            refine r_n (pc1 := 3067) [.int (J 0)] _ rfl rfl ?_
            exact r_retB rfl rfl rfl (.inl rfl) (k _ _ t523 s523 (rgk rfl) (.inl rfl) w)
        · have w := w.2.2.2.2.2.2.2.2.2.2.2.2.2.2.2.2.2.2.2.2.2.2.2.2.2.2.2.2.2.2.2.2.2.2.2.2.2.2.2.2.2.2.2.2.2.2.2.2.2.2.1 c16
          refine r_aldn (pc1 := 3069) rfl rfl rfl ?_
          refine r_n (pc1 := 3070) [.ref 0, rv 2] _ rfl rfl ?_
          refine r_n (pc1 := 3072) [.int (J x1), .ref 0, rv 2] _ rfl rfl ?_
          refine r_n (pc1 := 3073) [.int (J 1), .int (J x1), .ref 0, rv 2] _ rfl rfl ?_
          refine r_iadd (pc1 := 3074) rfl rfl ?_
          obtain ⟨c525, w⟩ := w
          refine r_sal (pc1 := 3075) rfl rfl t6 (rgw _) c525.1 c525.2 ?_
          refine r_aldn (pc1 := 3076) rfl rfl rfl ?_
          refine r_iq rfl rfl rfl rfl rfl rfl (xe_of (xa_r (xa_i (xa_r xa_0))) rfl rfl) (r_d0 hd rfl) (a_L_scriptAt ((sc.2 (wr (x1 + 1)).toNat).toInt) (r_d1 hd rfl) (rgt _) w t6 (fun x526 h527 t527 u527 rx526 w => ?_))
          refine r_fI (pc1 := 3079) rfl ?_
          have s527 := HX_trans s6 u527
          have w := w t527 u527
          have w := w rx526
          refine r_ist (pc1 := 3081) (ls1 := [some (.ref 0), some (rv 2), some (rv 437), some (rv 467), some (.int (J x1)), some (.int (J x526)), d3, d4, d5]) rfl rfl rfl rfl ?_
          refine r_aldn (pc1 := 3082) rfl rfl rfl ?_
          refine r_n (pc1 := 3083) [.ref 0, rv 437] _ rfl rfl ?_
          refine r_n (pc1 := 3085) [.int (J x1), .ref 0, rv 437] _ rfl rfl ?_
          refine r_n (pc1 := 3086) [.int (J 1), .int (J x1), .ref 0, rv 437] _ rfl rfl ?_
          refine r_iadd (pc1 := 3087) rfl rfl ?_
          refine r_sal (pc1 := 3088) rfl rfl t527 (rgw _) c525.1 c525.2 ?_
          refine r_iv rfl rfl rfl rfl rfl rfl t527 (lyk t527 rfl) rfl (xe_of (xa_r (xa_i xa_0)) rfl rfl) (r_d0 hd rfl) (a_X14_scriptAt ((sc.2 (wr (x1 + 1)).toNat).toInt) (r_d1 hd rfl) (rgt _) w t527 (fun x528 h529 t529 u529 rx528 w => ?_))
          refine r_fI (pc1 := 3091) rfl ?_
          have s529 := HX_trans s527 u529
          have w := w t529 u529
          have w := w rx528
          refine r_ist (pc1 := 3093) (ls1 := [some (.ref 0), some (rv 2), some (rv 437), some (rv 467), some (.int (J x1)), some (.int (J x526)), some (.int (J x528)), d4, d5]) rfl rfl rfl rfl ?_
          refine r_aldn (pc1 := 3094) rfl rfl rfl ?_
          refine r_iv rfl rfl rfl rfl rfl rfl t529 (lyk t529 rfl) rfl (xe_of (xa_r xa_0) rfl rfl) (r_d0 hd rfl) (a_X14_thrown  (r_d1 hd rfl)  w t529 (fun x530 rx530 w => ?_))
          refine r_fI (pc1 := 3097) rfl ?_
          have w := w rx530
          refine r_n (pc1 := 3099) [.int (J x526), .int (J x530)] _ rfl rfl ?_
          refine r_ic (t := 3104) (pc1 := 3102) rfl rfl rfl rx530 rx526 (fun c534 => ?_) (fun c534 => ?_)
          · have w := w.1 c534
            refine r_n (pc1 := 3106) [.int (J x526)] _ rfl rfl ?_
            obtain ⟨J531, j531, w⟩ := w
            have Q531 : J531 → RR sc goal fs 0 3121 [some (.ref 0), some (rv 2), some (rv 437), some (rv 467), some (.int (J x1)), some (.int (J x526)), some (.int (J x528)), d4, d5] [] h529 := by
              intro z531
              have w := j531 z531
              refine r_goto (t := 3466) rfl rfl ?_
              exact Q14 _ _ _ _  h529 t529 s529  w
            refine r_iz (t := 3121) (pc1 := 3109) rfl rfl rfl rx526 (fun c533 => ?_) (fun c533 => ?_)
            · have w := w.1 c533
              exact Q531     w
            · have w := w.2 c533
              refine r_aldn (pc1 := 3110) rfl rfl rfl ?_
              refine r_n (pc1 := 3111) [.int (J 0), rv 467] _ rfl rfl ?_
              refine r_lal (pc1 := 3112) rfl rfl t529 (lyk t529 rfl) (rgk rfl) (by decide) (lt_len (lyn t529 rfl) (by decide)) ?_
              refine r_n (pc1 := 3114) [.int (J x528), .long (G (hL h529 467 0))] _ rfl rfl ?_
              refine r_i2l (pc1 := 3115) rfl rfl ?_
              refine r_lc (pc2 := 3116) (t := 3121) (pc1 := 3119) rfl rfl rfl rfl rfl (fun c532 => ?_) (fun c532 => ?_)
              · have w := w.1 c532
                exact Q531     w
              · have w := w.2 c532
                refine r_n (pc1 := 3120) [.int (J 0)] _ rfl rfl ?_
                exact r_retB rfl rfl rfl (.inl rfl) (k _ _ t529 s529 (rgk rfl) (.inl rfl) w)
          · have w := w.2 c534
            refine r_n (pc1 := 3103) [.int (J 0)] _ rfl rfl ?_
            exact r_retB rfl rfl rfl (.inl rfl) (k _ _ t529 s529 (rgk rfl) (.inl rfl) w)
        · have w := w.2.2.2.2.2.2.2.2.2.2.2.2.2.2.2.2.2.2.2.2.2.2.2.2.2.2.2.2.2.2.2.2.2.2.2.2.2.2.2.2.2.2.2.2.2.2.2.2.2.2.2.1 c16
          refine r_aldn (pc1 := 3125) rfl rfl rfl ?_
          refine r_iv rfl rfl rfl rfl rfl rfl t6 (lyk t6 rfl) rfl (xe_of (xa_r xa_0) rfl rfl) (r_d0 hd rfl) (a_X12_orphans  (r_d1 hd rfl)  w t6 (fun x535 h536 t536 u536 rx535 w => ?_))
          refine r_fI (pc1 := 3128) rfl ?_
          have s536 := HX_trans s6 u536
          have w := w t536 u536
          have w := w rx535
          refine r_aldn (pc1 := 3129) rfl rfl rfl ?_
          refine r_iv rfl rfl rfl rfl rfl rfl t536 (lyk t536 rfl) rfl (xe_of (xa_r xa_0) rfl rfl) (r_d0 hd rfl) (a_X14_orphans  (r_d1 hd rfl)  w t536 (fun x537 h538 t538 u538 rx537 w => ?_))
          refine r_fI (pc1 := 3132) rfl ?_
          have s538 := HX_trans s536 u538
          have w := w t538 u538
          have w := w rx537
          refine r_ic (t := 3466) (pc1 := 3135) rfl rfl rfl rx535 rx537 (fun c539 => ?_) (fun c539 => ?_)
          · have w := w.1 c539
            exact Q14 _ _ _ _  h538 t538 s538  w
          · have w := w.2 c539
            refine r_n (pc1 := 3136) [.int (J 0)] _ rfl rfl ?_
            exact r_retB rfl rfl rfl (.inl rfl) (k _ _ t538 s538 (rgk rfl) (.inl rfl) w)
        · have w := w.2.2.2.2.2.2.2.2.2.2.2.2.2.2.2.2.2.2.2.2.2.2.2.2.2.2.2.2.2.2.2.2.2.2.2.2.2.2.2.2.2.2.2.2.2.2.2.2.2.2.2.2.1 c16
          refine r_aldn (pc1 := 3138) rfl rfl rfl ?_
          refine r_n (pc1 := 3139) [.ref 0, rv 2] _ rfl rfl ?_
          refine r_n (pc1 := 3141) [.int (J x1), .ref 0, rv 2] _ rfl rfl ?_
          refine r_n (pc1 := 3142) [.int (J 1), .int (J x1), .ref 0, rv 2] _ rfl rfl ?_
          refine r_iadd (pc1 := 3143) rfl rfl ?_
          obtain ⟨c540, w⟩ := w
          refine r_sal (pc1 := 3144) rfl rfl t6 (rgw _) c540.1 c540.2 ?_
          refine r_aldn (pc1 := 3145) rfl rfl rfl ?_
          refine r_iq rfl rfl rfl rfl rfl rfl (xe_of (xa_r (xa_i (xa_r xa_0))) rfl rfl) (r_d0 hd rfl) (a_L_without ((sc.2 (wr (x1 + 1)).toNat).toInt) (r_d1 hd rfl) (rgt _) w t6 (fun x541 h542 t542 u542 rx541 w => ?_))
          refine r_fI (pc1 := 3148) rfl ?_
          have s542 := HX_trans s6 u542
          have w := w t542 u542
          have w := w rx541
          refine r_ist (pc1 := 3150) (ls1 := [some (.ref 0), some (rv 2), some (rv 437), some (rv 467), some (.int (J x1)), some (.int (J x541)), d3, d4, d5]) rfl rfl rfl rfl ?_
          refine r_aldn (pc1 := 3151) rfl rfl rfl ?_
          refine r_n (pc1 := 3152) [.ref 0, rv 437] _ rfl rfl ?_
          refine r_n (pc1 := 3154) [.int (J x1), .ref 0, rv 437] _ rfl rfl ?_
          refine r_n (pc1 := 3155) [.int (J 1), .int (J x1), .ref 0, rv 437] _ rfl rfl ?_
          refine r_iadd (pc1 := 3156) rfl rfl ?_
          refine r_sal (pc1 := 3157) rfl rfl t542 (rgw _) c540.1 c540.2 ?_
          refine r_iv rfl rfl rfl rfl rfl rfl t542 (lyk t542 rfl) rfl (xe_of (xa_r (xa_i xa_0)) rfl rfl) (r_d0 hd rfl) (a_X14_without ((sc.2 (wr (x1 + 1)).toNat).toInt) (r_d1 hd rfl) (rgt _) w t542 (fun x543 h544 t544 u544 rx543 w => ?_))
          refine r_fI (pc1 := 3160) rfl ?_
          have s544 := HX_trans s542 u544
          have w := w t544 u544
          have w := w rx543
          refine r_ist (pc1 := 3162) (ls1 := [some (.ref 0), some (rv 2), some (rv 437), some (rv 467), some (.int (J x1)), some (.int (J x541)), some (.int (J x543)), d4, d5]) rfl rfl rfl rfl ?_
          refine r_aldn (pc1 := 3163) rfl rfl rfl ?_
          refine r_iv rfl rfl rfl rfl rfl rfl t544 (lyk t544 rfl) rfl (xe_of (xa_r xa_0) rfl rfl) (r_d0 hd rfl) (a_X14_thrown  (r_d1 hd rfl)  w t544 (fun x545 rx545 w => ?_))
          refine r_fI (pc1 := 3166) rfl ?_
          have w := w rx545
          refine r_n (pc1 := 3168) [.int (J x541), .int (J x545)] _ rfl rfl ?_
          refine r_ic (t := 3173) (pc1 := 3171) rfl rfl rfl rx545 rx541 (fun c549 => ?_) (fun c549 => ?_)
          · have w := w.1 c549
            refine r_n (pc1 := 3175) [.int (J x541)] _ rfl rfl ?_
            obtain ⟨J546, j546, w⟩ := w
            have Q546 : J546 → RR sc goal fs 0 3190 [some (.ref 0), some (rv 2), some (rv 437), some (rv 467), some (.int (J x1)), some (.int (J x541)), some (.int (J x543)), d4, d5] [] h544 := by
              intro z546
              have w := j546 z546
              refine r_goto (t := 3466) rfl rfl ?_
              exact Q14 _ _ _ _  h544 t544 s544  w
            refine r_iz (t := 3190) (pc1 := 3178) rfl rfl rfl rx541 (fun c548 => ?_) (fun c548 => ?_)
            · have w := w.1 c548
              exact Q546     w
            · have w := w.2 c548
              refine r_aldn (pc1 := 3179) rfl rfl rfl ?_
              refine r_n (pc1 := 3180) [.int (J 0), rv 467] _ rfl rfl ?_
              refine r_lal (pc1 := 3181) rfl rfl t544 (lyk t544 rfl) (rgk rfl) (by decide) (lt_len (lyn t544 rfl) (by decide)) ?_
              refine r_n (pc1 := 3183) [.int (J x543), .long (G (hL h544 467 0))] _ rfl rfl ?_
              refine r_i2l (pc1 := 3184) rfl rfl ?_
              refine r_lc (pc2 := 3185) (t := 3190) (pc1 := 3188) rfl rfl rfl rfl rfl (fun c547 => ?_) (fun c547 => ?_)
              · have w := w.1 c547
                exact Q546     w
              · have w := w.2 c547
                refine r_n (pc1 := 3189) [.int (J 0)] _ rfl rfl ?_
                exact r_retB rfl rfl rfl (.inl rfl) (k _ _ t544 s544 (rgk rfl) (.inl rfl) w)
          · have w := w.2 c549
            refine r_n (pc1 := 3172) [.int (J 0)] _ rfl rfl ?_
            exact r_retB rfl rfl rfl (.inl rfl) (k _ _ t544 s544 (rgk rfl) (.inl rfl) w)
        · have w := w.2.2.2.2.2.2.2.2.2.2.2.2.2.2.2.2.2.2.2.2.2.2.2.2.2.2.2.2.2.2.2.2.2.2.2.2.2.2.2.2.2.2.2.2.2.2.2.2.2.2.2.2.2.1 c16
          refine r_aldn (pc1 := 3194) rfl rfl rfl ?_
          refine r_n (pc1 := 3195) [.ref 0, rv 2] _ rfl rfl ?_
          refine r_n (pc1 := 3197) [.int (J x1), .ref 0, rv 2] _ rfl rfl ?_
          refine r_n (pc1 := 3198) [.int (J 1), .int (J x1), .ref 0, rv 2] _ rfl rfl ?_
          refine r_iadd (pc1 := 3199) rfl rfl ?_
          obtain ⟨c550, w⟩ := w
          refine r_sal (pc1 := 3200) rfl rfl t6 (rgw _) c550.1 c550.2 ?_
          refine r_aldn (pc1 := 3201) rfl rfl rfl ?_
          refine r_iq rfl rfl rfl rfl rfl rfl (xe_of (xa_r (xa_i (xa_r xa_0))) rfl rfl) (r_d0 hd rfl) (a_L_backTo ((sc.2 (wr (x1 + 1)).toNat).toInt) (r_d1 hd rfl) (rgt _) w t6 (fun x551 h552 t552 u552 rx551 w => ?_))
          refine r_fI (pc1 := 3204) rfl ?_
          have s552 := HX_trans s6 u552
          have w := w t552 u552
          have w := w rx551
          refine r_ist (pc1 := 3206) (ls1 := [some (.ref 0), some (rv 2), some (rv 437), some (rv 467), some (.int (J x1)), some (.int (J x551)), d3, d4, d5]) rfl rfl rfl rfl ?_
          refine r_aldn (pc1 := 3207) rfl rfl rfl ?_
          refine r_n (pc1 := 3208) [.ref 0, rv 437] _ rfl rfl ?_
          refine r_n (pc1 := 3210) [.int (J x1), .ref 0, rv 437] _ rfl rfl ?_
          refine r_n (pc1 := 3211) [.int (J 1), .int (J x1), .ref 0, rv 437] _ rfl rfl ?_
          refine r_iadd (pc1 := 3212) rfl rfl ?_
          refine r_sal (pc1 := 3213) rfl rfl t552 (rgw _) c550.1 c550.2 ?_
          refine r_iv rfl rfl rfl rfl rfl rfl t552 (lyk t552 rfl) rfl (xe_of (xa_r (xa_i xa_0)) rfl rfl) (r_d0 hd rfl) (a_X14_backTo ((sc.2 (wr (x1 + 1)).toNat).toInt) (r_d1 hd rfl) (rgt _) w t552 (fun x553 h554 t554 u554 rx553 w => ?_))
          refine r_fI (pc1 := 3216) rfl ?_
          have s554 := HX_trans s552 u554
          have w := w t554 u554
          have w := w rx553
          refine r_ist (pc1 := 3218) (ls1 := [some (.ref 0), some (rv 2), some (rv 437), some (rv 467), some (.int (J x1)), some (.int (J x551)), some (.int (J x553)), d4, d5]) rfl rfl rfl rfl ?_
          refine r_aldn (pc1 := 3219) rfl rfl rfl ?_
          refine r_iv rfl rfl rfl rfl rfl rfl t554 (lyk t554 rfl) rfl (xe_of (xa_r xa_0) rfl rfl) (r_d0 hd rfl) (a_X14_thrown  (r_d1 hd rfl)  w t554 (fun x555 rx555 w => ?_))
          refine r_fI (pc1 := 3222) rfl ?_
          have w := w rx555
          refine r_n (pc1 := 3224) [.int (J x551), .int (J x555)] _ rfl rfl ?_
          refine r_ic (t := 3229) (pc1 := 3227) rfl rfl rfl rx555 rx551 (fun c559 => ?_) (fun c559 => ?_)
          · have w := w.1 c559
            refine r_n (pc1 := 3231) [.int (J x551)] _ rfl rfl ?_
            obtain ⟨J556, j556, w⟩ := w
            have Q556 : J556 → RR sc goal fs 0 3246 [some (.ref 0), some (rv 2), some (rv 437), some (rv 467), some (.int (J x1)), some (.int (J x551)), some (.int (J x553)), d4, d5] [] h554 := by
              intro z556
              have w := j556 z556
              refine r_goto (t := 3466) rfl rfl ?_
              exact Q14 _ _ _ _  h554 t554 s554  w
            refine r_iz (t := 3246) (pc1 := 3234) rfl rfl rfl rx551 (fun c558 => ?_) (fun c558 => ?_)
            · have w := w.1 c558
              exact Q556     w
            · have w := w.2 c558
              refine r_aldn (pc1 := 3235) rfl rfl rfl ?_
              refine r_n (pc1 := 3236) [.int (J 0), rv 467] _ rfl rfl ?_
              refine r_lal (pc1 := 3237) rfl rfl t554 (lyk t554 rfl) (rgk rfl) (by decide) (lt_len (lyn t554 rfl) (by decide)) ?_
              refine r_n (pc1 := 3239) [.int (J x553), .long (G (hL h554 467 0))] _ rfl rfl ?_
              refine r_i2l (pc1 := 3240) rfl rfl ?_
              refine r_lc (pc2 := 3241) (t := 3246) (pc1 := 3244) rfl rfl rfl rfl rfl (fun c557 => ?_) (fun c557 => ?_)
              · have w := w.1 c557
                exact Q556     w
              · have w := w.2 c557
                refine r_n (pc1 := 3245) [.int (J 0)] _ rfl rfl ?_
                exact r_retB rfl rfl rfl (.inl rfl) (k _ _ t554 s554 (rgk rfl) (.inl rfl) w)
          · have w := w.2 c559
            refine r_n (pc1 := 3228) [.int (J 0)] _ rfl rfl ?_
            exact r_retB rfl rfl rfl (.inl rfl) (k _ _ t554 s554 (rgk rfl) (.inl rfl) w)
        · have w := w.2.2.2.2.2.2.2.2.2.2.2.2.2.2.2.2.2.2.2.2.2.2.2.2.2.2.2.2.2.2.2.2.2.2.2.2.2.2.2.2.2.2.2.2.2.2.2.2.2.2.2.2.2.2.1 c16
          refine r_aldn (pc1 := 3250) rfl rfl rfl ?_
          refine r_n (pc1 := 3251) [.ref 0, rv 2] _ rfl rfl ?_
          refine r_n (pc1 := 3253) [.int (J x1), .ref 0, rv 2] _ rfl rfl ?_
          refine r_n (pc1 := 3254) [.int (J 1), .int (J x1), .ref 0, rv 2] _ rfl rfl ?_
          refine r_iadd (pc1 := 3255) rfl rfl ?_
          obtain ⟨c560, w⟩ := w
          refine r_sal (pc1 := 3256) rfl rfl t6 (rgw _) c560.1 c560.2 ?_
          refine r_n (pc1 := 3257) [.ref 0, .int (J ((sc.2 (wr (x1 + 1)).toNat).toInt)), rv 2] _ rfl rfl ?_
          refine r_n (pc1 := 3259) [.int (J x1), .ref 0, .int (J ((sc.2 (wr (x1 + 1)).toNat).toInt)), rv 2] _ rfl rfl ?_
          refine r_n (pc1 := 3260) [.int (J 2), .int (J x1), .ref 0, .int (J ((sc.2 (wr (x1 + 1)).toNat).toInt)), rv 2] _ rfl rfl ?_
          refine r_iadd (pc1 := 3261) rfl rfl ?_
          obtain ⟨c561, w⟩ := w
          refine r_sal (pc1 := 3262) rfl rfl t6 (rgw _) c561.1 c561.2 ?_
          refine r_aldn (pc1 := 3263) rfl rfl rfl ?_
          refine r_iq rfl rfl rfl rfl rfl rfl (xe_of (xa_r (xa_i (xa_i (xa_r xa_0)))) rfl rfl) (r_d0 hd rfl) (a_L_then ((sc.2 (wr (x1 + 1)).toNat).toInt) ((sc.2 (wr (x1 + 2)).toNat).toInt) (r_d1 hd rfl) (rgt _) (rgt _) w t6 (fun x562 h563 t563 u563 rx562 w => ?_))
          refine r_fI (pc1 := 3266) rfl ?_
          have s563 := HX_trans s6 u563
          have w := w t563 u563
          have w := w rx562
          refine r_ist (pc1 := 3268) (ls1 := [some (.ref 0), some (rv 2), some (rv 437), some (rv 467), some (.int (J x1)), some (.int (J x562)), d3, d4, d5]) rfl rfl rfl rfl ?_
          refine r_aldn (pc1 := 3269) rfl rfl rfl ?_
          refine r_n (pc1 := 3270) [.ref 0, rv 437] _ rfl rfl ?_
          refine r_n (pc1 := 3272) [.int (J x1), .ref 0, rv 437] _ rfl rfl ?_
          refine r_n (pc1 := 3273) [.int (J 1), .int (J x1), .ref 0, rv 437] _ rfl rfl ?_
          refine r_iadd (pc1 := 3274) rfl rfl ?_
          refine r_sal (pc1 := 3275) rfl rfl t563 (rgw _) c560.1 c560.2 ?_
          refine r_n (pc1 := 3276) [.ref 0, .int (J ((sc.2 (wr (x1 + 1)).toNat).toInt)), rv 437] _ rfl rfl ?_
          refine r_n (pc1 := 3278) [.int (J x1), .ref 0, .int (J ((sc.2 (wr (x1 + 1)).toNat).toInt)), rv 437] _ rfl rfl ?_
          refine r_n (pc1 := 3279) [.int (J 2), .int (J x1), .ref 0, .int (J ((sc.2 (wr (x1 + 1)).toNat).toInt)), rv 437] _ rfl rfl ?_
          refine r_iadd (pc1 := 3280) rfl rfl ?_
          refine r_sal (pc1 := 3281) rfl rfl t563 (rgw _) c561.1 c561.2 ?_
          refine r_iv rfl rfl rfl rfl rfl rfl t563 (lyk t563 rfl) rfl (xe_of (xa_r (xa_i (xa_i xa_0))) rfl rfl) (r_d0 hd rfl) (a_X14_then ((sc.2 (wr (x1 + 1)).toNat).toInt) ((sc.2 (wr (x1 + 2)).toNat).toInt) (r_d1 hd rfl) (rgt _) (rgt _) w t563 (fun x564 h565 t565 u565 rx564 w => ?_))
          refine r_fI (pc1 := 3284) rfl ?_
          have s565 := HX_trans s563 u565
          have w := w t565 u565
          have w := w rx564
          refine r_ist (pc1 := 3286) (ls1 := [some (.ref 0), some (rv 2), some (rv 437), some (rv 467), some (.int (J x1)), some (.int (J x562)), some (.int (J x564)), d4, d5]) rfl rfl rfl rfl ?_
          refine r_aldn (pc1 := 3287) rfl rfl rfl ?_
          refine r_iv rfl rfl rfl rfl rfl rfl t565 (lyk t565 rfl) rfl (xe_of (xa_r xa_0) rfl rfl) (r_d0 hd rfl) (a_X14_thrown  (r_d1 hd rfl)  w t565 (fun x566 rx566 w => ?_))
          refine r_fI (pc1 := 3290) rfl ?_
          have w := w rx566
          refine r_n (pc1 := 3292) [.int (J x562), .int (J x566)] _ rfl rfl ?_
          refine r_ic (t := 3297) (pc1 := 3295) rfl rfl rfl rx566 rx562 (fun c570 => ?_) (fun c570 => ?_)
          · have w := w.1 c570
            refine r_n (pc1 := 3299) [.int (J x562)] _ rfl rfl ?_
            obtain ⟨J567, j567, w⟩ := w
            have Q567 : J567 → RR sc goal fs 0 3314 [some (.ref 0), some (rv 2), some (rv 437), some (rv 467), some (.int (J x1)), some (.int (J x562)), some (.int (J x564)), d4, d5] [] h565 := by
              intro z567
              have w := j567 z567
              refine r_goto (t := 3466) rfl rfl ?_
              exact Q14 _ _ _ _  h565 t565 s565  w
            refine r_iz (t := 3314) (pc1 := 3302) rfl rfl rfl rx562 (fun c569 => ?_) (fun c569 => ?_)
            · have w := w.1 c569
              exact Q567     w
            · have w := w.2 c569
              refine r_aldn (pc1 := 3303) rfl rfl rfl ?_
              refine r_n (pc1 := 3304) [.int (J 0), rv 467] _ rfl rfl ?_
              refine r_lal (pc1 := 3305) rfl rfl t565 (lyk t565 rfl) (rgk rfl) (by decide) (lt_len (lyn t565 rfl) (by decide)) ?_
              refine r_n (pc1 := 3307) [.int (J x564), .long (G (hL h565 467 0))] _ rfl rfl ?_
              refine r_i2l (pc1 := 3308) rfl rfl ?_
              refine r_lc (pc2 := 3309) (t := 3314) (pc1 := 3312) rfl rfl rfl rfl rfl (fun c568 => ?_) (fun c568 => ?_)
              · have w := w.1 c568
                exact Q567     w
              · have w := w.2 c568
                refine r_n (pc1 := 3313) [.int (J 0)] _ rfl rfl ?_
                exact r_retB rfl rfl rfl (.inl rfl) (k _ _ t565 s565 (rgk rfl) (.inl rfl) w)
          · have w := w.2 c570
            refine r_n (pc1 := 3296) [.int (J 0)] _ rfl rfl ?_
            exact r_retB rfl rfl rfl (.inl rfl) (k _ _ t565 s565 (rgk rfl) (.inl rfl) w)
        · have w := w.2.2.2.2.2.2.2.2.2.2.2.2.2.2.2.2.2.2.2.2.2.2.2.2.2.2.2.2.2.2.2.2.2.2.2.2.2.2.2.2.2.2.2.2.2.2.2.2.2.2.2.2.2.2.2.1 c16
          refine r_aldn (pc1 := 3318) rfl rfl rfl ?_
          refine r_iv rfl rfl rfl rfl rfl rfl t6 (lyk t6 rfl) rfl (xe_of (xa_r xa_0) rfl rfl) (r_d0 hd rfl) (a_X12_size  (r_d1 hd rfl)  w t6 (fun x571 rx571 w => ?_))
          refine r_fI (pc1 := 3321) rfl ?_
          have w := w rx571
          refine r_aldn (pc1 := 3322) rfl rfl rfl ?_
          refine r_iv rfl rfl rfl rfl rfl rfl t6 (lyk t6 rfl) rfl (xe_of (xa_r xa_0) rfl rfl) (r_d0 hd rfl) (a_X14_size  (r_d1 hd rfl)  w t6 (fun x572 h573 t573 u573 rx572 w => ?_))
          refine r_fI (pc1 := 3325) rfl ?_
          have s573 := HX_trans s6 u573
          have w := w t573 u573
          have w := w rx572
          refine r_ic (t := 3466) (pc1 := 3328) rfl rfl rfl rx571 rx572 (fun c574 => ?_) (fun c574 => ?_)
          · have w := w.1 c574
            exact Q14 _ _ _ _  h573 t573 s573  w
          · have w := w.2 c574
            refine r_n (pc1 := 3329) [.int (J 0)] _ rfl rfl ?_
            exact r_retB rfl rfl rfl (.inl rfl) (k _ _ t573 s573 (rgk rfl) (.inl rfl) w)
        · have w := w.2.2.2.2.2.2.2.2.2.2.2.2.2.2.2.2.2.2.2.2.2.2.2.2.2.2.2.2.2.2.2.2.2.2.2.2.2.2.2.2.2.2.2.2.2.2.2.2.2.2.2.2.2.2.2.2.1 c16
          refine r_aldn (pc1 := 3331) rfl rfl rfl ?_
          refine r_iv rfl rfl rfl rfl rfl rfl t6 (lyk t6 rfl) rfl (xe_of (xa_r xa_0) rfl rfl) (r_d0 hd rfl) (a_X12_undo  (r_d1 hd rfl)  w t6 (fun x575 h576 t576 u576 rx575 w => ?_))
          refine r_fI (pc1 := 3334) rfl ?_
          have s576 := HX_trans s6 u576
          have w := w t576 u576
          have w := w rx575
          refine r_aldn (pc1 := 3335) rfl rfl rfl ?_
          refine r_iv rfl rfl rfl rfl rfl rfl t576 (lyk t576 rfl) rfl (xe_of (xa_r xa_0) rfl rfl) (r_d0 hd rfl) (a_X14_undo  (r_d1 hd rfl)  w t576 (fun x577 h578 t578 u578 rx577 w => ?_))
          refine r_fI (pc1 := 3338) rfl ?_
          have s578 := HX_trans s576 u578
          have w := w t578 u578
          have w := w rx577
          refine r_ic (t := 3466) (pc1 := 3341) rfl rfl rfl rx575 rx577 (fun c579 => ?_) (fun c579 => ?_)
          · have w := w.1 c579
            exact Q14 _ _ _ _  h578 t578 s578  w
          · have w := w.2 c579
            refine r_n (pc1 := 3342) [.int (J 0)] _ rfl rfl ?_
            exact r_retB rfl rfl rfl (.inl rfl) (k _ _ t578 s578 (rgk rfl) (.inl rfl) w)
        · have w := w.2.2.2.2.2.2.2.2.2.2.2.2.2.2.2.2.2.2.2.2.2.2.2.2.2.2.2.2.2.2.2.2.2.2.2.2.2.2.2.2.2.2.2.2.2.2.2.2.2.2.2.2.2.2.2.2.2.1 c16
          refine r_aldn (pc1 := 3344) rfl rfl rfl ?_
          refine r_iv rfl rfl rfl rfl rfl rfl t6 (lyk t6 rfl) rfl (xe_of (xa_r xa_0) rfl rfl) (r_d0 hd rfl) (a_X12_checksum  (r_d1 hd rfl)  w t6 (fun x580 rx580 w => ?_))
          refine r_fI (pc1 := 3347) rfl ?_
          have w := w rx580
          refine r_aldn (pc1 := 3348) rfl rfl rfl ?_
          refine r_iv rfl rfl rfl rfl rfl rfl t6 (lyk t6 rfl) rfl (xe_of (xa_r xa_0) rfl rfl) (r_d0 hd rfl) (a_X14_checksum  (r_d1 hd rfl)  w t6 (fun x581 h582 t582 u582 rx581 w => ?_))
          refine r_fI (pc1 := 3351) rfl ?_
          have s582 := HX_trans s6 u582
          have w := w t582 u582
          have w := w rx581
          refine r_ic (t := 3466) (pc1 := 3354) rfl rfl rfl rx580 rx581 (fun c583 => ?_) (fun c583 => ?_)
          · have w := w.1 c583
            exact Q14 _ _ _ _  h582 t582 s582  w
          · have w := w.2 c583
            refine r_n (pc1 := 3355) [.int (J 0)] _ rfl rfl ?_
            exact r_retB rfl rfl rfl (.inl rfl) (k _ _ t582 s582 (rgk rfl) (.inl rfl) w)
        · have w := w.2.2.2.2.2.2.2.2.2.2.2.2.2.2.2.2.2.2.2.2.2.2.2.2.2.2.2.2.2.2.2.2.2.2.2.2.2.2.2.2.2.2.2.2.2.2.2.2.2.2.2.2.2.2.2.2.2.2.1 c16
          refine r_aldn (pc1 := 3357) rfl rfl rfl ?_
          refine r_iv rfl rfl rfl rfl rfl rfl t6 (lyk t6 rfl) rfl (xe_of (xa_r xa_0) rfl rfl) (r_d0 hd rfl) (a_X12_isSound  (r_d1 hd rfl)  w t6 (fun x584 h585 t585 u585 rx584 vx584 w => ?_))
          refine r_fI (pc1 := 3360) rfl ?_
          have s585 := HX_trans s6 u585
          have w := w t585 u585
          have w := w rx584 vx584
          refine r_aldn (pc1 := 3361) rfl rfl rfl ?_
          refine r_iv rfl rfl rfl rfl rfl rfl t585 (lyk t585 rfl) rfl (xe_of (xa_r xa_0) rfl rfl) (r_d0 hd rfl) (a_X14_isSound  (r_d1 hd rfl)  w t585 (fun x586 h587 t587 u587 rx586 vx586 w => ?_))
          refine r_fI (pc1 := 3364) rfl ?_
          have s587 := HX_trans s585 u587
          have w := w t587 u587
          have w := w rx586 vx586
          refine r_ic (t := 3466) (pc1 := 3367) rfl rfl rfl rx584 rx586 (fun c588 => ?_) (fun c588 => ?_)
          · have w := w.1 c588
            exact Q14 _ _ _ _  h587 t587 s587  w
          · have w := w.2 c588
            refine r_n (pc1 := 3368) [.int (J 0)] _ rfl rfl ?_
            exact r_retB rfl rfl rfl (.inl rfl) (k _ _ t587 s587 (rgk rfl) (.inl rfl) w)
        · have w := w.2.2.2.2.2.2.2.2.2.2.2.2.2.2.2.2.2.2.2.2.2.2.2.2.2.2.2.2.2.2.2.2.2.2.2.2.2.2.2.2.2.2.2.2.2.2.2.2.2.2.2.2.2.2.2.2.2.2.2.1 c16
          refine r_aldn (pc1 := 3370) rfl rfl rfl ?_
          refine r_iv rfl rfl rfl rfl rfl rfl t6 (lyk t6 rfl) rfl (xe_of (xa_r xa_0) rfl rfl) (r_d0 hd rfl) (a_X12_errors  (r_d1 hd rfl)  w t6 (fun x589 h590 t590 u590 rx589 w => ?_))
          refine r_fI (pc1 := 3373) rfl ?_
          have s590 := HX_trans s6 u590
          have w := w t590 u590
          have w := w rx589
          refine r_aldn (pc1 := 3374) rfl rfl rfl ?_
          refine r_iv rfl rfl rfl rfl rfl rfl t590 (lyk t590 rfl) rfl (xe_of (xa_r xa_0) rfl rfl) (r_d0 hd rfl) (a_X14_errors  (r_d1 hd rfl)  w t590 (fun x591 h592 t592 u592 rx591 w => ?_))
          refine r_fI (pc1 := 3377) rfl ?_
          have s592 := HX_trans s590 u592
          have w := w t592 u592
          have w := w rx591
          refine r_ic (t := 3466) (pc1 := 3380) rfl rfl rfl rx589 rx591 (fun c593 => ?_) (fun c593 => ?_)
          · have w := w.1 c593
            exact Q14 _ _ _ _  h592 t592 s592  w
          · have w := w.2 c593
            refine r_n (pc1 := 3381) [.int (J 0)] _ rfl rfl ?_
            exact r_retB rfl rfl rfl (.inl rfl) (k _ _ t592 s592 (rgk rfl) (.inl rfl) w)
        · have w := w.2.2.2.2.2.2.2.2.2.2.2.2.2.2.2.2.2.2.2.2.2.2.2.2.2.2.2.2.2.2.2.2.2.2.2.2.2.2.2.2.2.2.2.2.2.2.2.2.2.2.2.2.2.2.2.2.2.2.2.2.1 c16
          refine r_aldn (pc1 := 3383) rfl rfl rfl ?_
          refine r_iv rfl rfl rfl rfl rfl rfl t6 (lyk t6 rfl) rfl (xe_of (xa_r xa_0) rfl rfl) (r_d0 hd rfl) (a_X12_meanSize  (r_d1 hd rfl)  w t6 (fun f594 w => ?_))
          refine r_fD (pc1 := 3386) rfl ?_
          refine r_n (pc1 := 3388) [] [some (.ref 0), some (rv 2), some (rv 437), some (rv 467), some (.int (J x1)), some (.double f594), none, d4, d5] rfl rfl ?_
          refine r_aldn (pc1 := 3389) rfl rfl rfl ?_
          refine r_iv rfl rfl rfl rfl rfl rfl t6 (lyk t6 rfl) rfl (xe_of (xa_r xa_0) rfl rfl) (r_d0 hd rfl) (a_X14_meanSize  (r_d1 hd rfl)  w t6 (fun f595 h596 t596 u596 w => ?_))
          refine r_fD (pc1 := 3392) rfl ?_
          have s596 := HX_trans s6 u596
          have w := w t596 u596
          refine r_n (pc1 := 3394) [] [some (.ref 0), some (rv 2), some (rv 437), some (rv 467), some (.int (J x1)), some (.double f594), none, some (.double f595), none] rfl rfl ?_
          refine r_n (pc1 := 3396) [.double f594] _ rfl rfl ?_
          refine r_n (pc1 := 3398) [.double f595, .double f594] _ rfl rfl ?_
          refine r_dcmp (pc1 := 3399) rfl rfl ?_
          obtain ⟨J597, j597, w⟩ := w
          have Q597 : J597 → RR sc goal fs 0 3420 [some (.ref 0), some (rv 2), some (rv 437), some (rv 467), some (.int (J x1)), some (.double f594), none, some (.double f595), none] [] h596 := by
            intro z597
            have w := j597 z597
            refine r_goto (t := 3466) rfl rfl ?_
            exact Q14 _ _ _ _  h596 t596 s596  w
          refine r_iz (t := 3420) (pc1 := 3402) rfl rfl rfl (rgt _) (fun c601 => ?_) (fun c601 => ?_)
          · have w := w.1 c601
            exact Q597     w
          · have w := w.2 c601
            refine r_n (pc1 := 3404) [.double f594] _ rfl rfl ?_
            refine r_n (pc1 := 3406) [.double f594, .double f594] _ rfl rfl ?_
            refine r_dcmp (pc1 := 3407) rfl rfl ?_
            obtain ⟨J598, j598, w⟩ := w
            have Q598 : J598 → RR sc goal fs 0 3418 [some (.ref 0), some (rv 2), some (rv 437), some (rv 467), some (.int (J x1)), some (.double f594), none, some (.double f595), none] [] h596 := by
              intro z598
              have w := j598 z598
              refine r_n (pc1 := 3419) [.int (J 0)] _ rfl rfl ?_
              exact r_retB rfl rfl rfl (.inl rfl) (k _ _ t596 s596 (rgk rfl) (.inl rfl) w)
            refine r_iz (t := 3418) (pc1 := 3410) rfl rfl rfl (rgt _) (fun c600 => ?_) (fun c600 => ?_)
            · have w := w.1 c600
              exact Q598     w
            · have w := w.2 c600
              refine r_n (pc1 := 3412) [.double f595] _ rfl rfl ?_
              refine r_n (pc1 := 3414) [.double f595, .double f595] _ rfl rfl ?_
              refine r_dcmp (pc1 := 3415) rfl rfl ?_
              refine r_iz (t := 3420) (pc1 := 3418) rfl rfl rfl (rgt _) (fun c599 => ?_) (fun c599 => ?_)
              · have w := w.1 c599
                exact Q597     w
              · have w := w.2 c599
                exact Q598     w
        · have w := w.2.2.2.2.2.2.2.2.2.2.2.2.2.2.2.2.2.2.2.2.2.2.2.2.2.2.2.2.2.2.2.2.2.2.2.2.2.2.2.2.2.2.2.2.2.2.2.2.2.2.2.2.2.2.2.2.2.2.2.2.2 c16
          refine r_aldn (pc1 := 3424) rfl rfl rfl ?_
          refine r_iv rfl rfl rfl rfl rfl rfl t6 (lyk t6 rfl) rfl (xe_of (xa_r xa_0) rfl rfl) (r_d0 hd rfl) (a_X12_share  (r_d1 hd rfl)  w t6 (fun f602 w => ?_))
          refine r_fF (pc1 := 3427) rfl ?_
          obtain ⟨c603, w⟩ := w
          refine r_f2d (pc1 := 3428) rfl rfl c603 ?_
          refine r_n (pc1 := 3430) [] [some (.ref 0), some (rv 2), some (rv 437), some (rv 467), some (.int (J x1)), some (.double (FP.f2d f602)), none, d4, d5] rfl rfl ?_
          refine r_aldn (pc1 := 3431) rfl rfl rfl ?_
          refine r_iv rfl rfl rfl rfl rfl rfl t6 (lyk t6 rfl) rfl (xe_of (xa_r xa_0) rfl rfl) (r_d0 hd rfl) (a_X14_share  (r_d1 hd rfl)  w t6 (fun f604 h605 t605 u605 w => ?_))
          refine r_fF (pc1 := 3434) rfl ?_
          have s605 := HX_trans s6 u605
          have w := w t605 u605
          obtain ⟨c606, w⟩ := w
          refine r_f2d (pc1 := 3435) rfl rfl c606 ?_
          refine r_n (pc1 := 3437) [] [some (.ref 0), some (rv 2), some (rv 437), some (rv 467), some (.int (J x1)), some (.double (FP.f2d f602)), none, some (.double (FP.f2d f604)), none] rfl rfl ?_
          refine r_n (pc1 := 3439) [.double (FP.f2d f602)] _ rfl rfl ?_
          refine r_n (pc1 := 3441) [.double (FP.f2d f604), .double (FP.f2d f602)] _ rfl rfl ?_
          refine r_dcmp (pc1 := 3442) rfl rfl ?_
          obtain ⟨J607, j607, w⟩ := w
          have Q607 : J607 → RR sc goal fs 0 3463 [some (.ref 0), some (rv 2), some (rv 437), some (rv 467), some (.int (J x1)), some (.double (FP.f2d f602)), none, some (.double (FP.f2d f604)), none] [] h605 := by
            intro z607
            have w := j607 z607
            refine r_goto (t := 3466) rfl rfl ?_
            exact Q14 _ _ _ _  h605 t605 s605  w
          refine r_iz (t := 3463) (pc1 := 3445) rfl rfl rfl (rgt _) (fun c611 => ?_) (fun c611 => ?_)
          · have w := w.1 c611
            exact Q607     w
          · have w := w.2 c611
            refine r_n (pc1 := 3447) [.double (FP.f2d f602)] _ rfl rfl ?_
            refine r_n (pc1 := 3449) [.double (FP.f2d f602), .double (FP.f2d f602)] _ rfl rfl ?_
            refine r_dcmp (pc1 := 3450) rfl rfl ?_
            obtain ⟨J608, j608, w⟩ := w
            have Q608 : J608 → RR sc goal fs 0 3461 [some (.ref 0), some (rv 2), some (rv 437), some (rv 467), some (.int (J x1)), some (.double (FP.f2d f602)), none, some (.double (FP.f2d f604)), none] [] h605 := by
              intro z608
              have w := j608 z608
              refine r_n (pc1 := 3462) [.int (J 0)] _ rfl rfl ?_
              exact r_retB rfl rfl rfl (.inl rfl) (k _ _ t605 s605 (rgk rfl) (.inl rfl) w)
            refine r_iz (t := 3461) (pc1 := 3453) rfl rfl rfl (rgt _) (fun c610 => ?_) (fun c610 => ?_)
            · have w := w.1 c610
              exact Q608     w
            · have w := w.2 c610
              refine r_n (pc1 := 3455) [.double (FP.f2d f604)] _ rfl rfl ?_
              refine r_n (pc1 := 3457) [.double (FP.f2d f604), .double (FP.f2d f604)] _ rfl rfl ?_
              refine r_dcmp (pc1 := 3458) rfl rfl ?_
              refine r_iz (t := 3463) (pc1 := 3461) rfl rfl rfl (rgt _) (fun c609 => ?_) (fun c609 => ?_)
              · have w := w.1 c609
                exact Q607     w
              · have w := w.2 c609
                exact Q608     w
  exact Q7 _ _ _ _ _ i0 h t0 (HX_refl h) ri0 (Nat.lt_succ_self _) w
