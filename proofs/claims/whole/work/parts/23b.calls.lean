/-! ===== single cells; what goes on behind a call ===== -/
theorem kc0 : kd 0 = some (15, 0) := rfl
theorem kc1 : kd 1 = some (1, 8192) := rfl
theorem kc2 : kd 2 = some (1, 8192) := rfl
theorem kc3 : kd 3 = some (7, 0) := rfl
theorem kc4 : kd 4 = some (0, 6) := rfl
theorem kc5 : kd 5 = some (0, 31) := rfl
theorem kc6 : kd 6 = some (0, 216) := rfl
theorem kc7 : kd 7 = some (0, 216) := rfl
theorem kc8 : kd 8 = some (0, 217) := rfl
theorem kc9 : kd 9 = some (0, 864) := rfl
theorem kc10 : kd 10 = some (0, 864) := rfl
theorem kc11 : kd 11 = some (0, 864) := rfl
theorem kc12 : kd 12 = some (2, 864) := rfl
theorem kc13 : kd 13 = some (5, 0) := rfl
theorem kc14 : kd 14 = some (0, 1168) := rfl
theorem kc15 : kd 15 = some (0, 145) := rfl
theorem kc16 : kd 16 = some (0, 17) := rfl
theorem kc17 : kd 17 = some (0, 32256) := rfl
theorem kc18 : kd 18 = some (3, 1008) := rfl
theorem kc19 : kd 19 = some (3, 16) := rfl
theorem kc20 : kd 20 = some (7, 0) := rfl
theorem kc21 : kd 21 = some (0, 6) := rfl
theorem kc22 : kd 22 = some (0, 31) := rfl
theorem kc23 : kd 23 = some (0, 216) := rfl
theorem kc24 : kd 24 = some (0, 216) := rfl
theorem kc25 : kd 25 = some (0, 217) := rfl
theorem kc26 : kd 26 = some (0, 864) := rfl
theorem kc27 : kd 27 = some (0, 864) := rfl
theorem kc28 : kd 28 = some (0, 864) := rfl
theorem kc29 : kd 29 = some (2, 864) := rfl
theorem kc30 : kd 30 = some (5, 0) := rfl
theorem kc31 : kd 31 = some (0, 1168) := rfl
theorem kc32 : kd 32 = some (0, 145) := rfl
theorem kc33 : kd 33 = some (0, 17) := rfl
theorem kc34 : kd 34 = some (0, 32256) := rfl
theorem kc35 : kd 35 = some (3, 1008) := rfl
theorem kc36 : kd 36 = some (3, 16) := rfl
theorem kc37 : kd 37 = some (9, 0) := rfl
theorem kc38 : kd 38 = some (0, 12) := rfl
theorem kc39 : kd 39 = some (0, 12) := rfl
theorem kc40 : kd 40 = some (0, 12) := rfl
theorem kc41 : kd 41 = some (0, 12) := rfl
theorem kc42 : kd 42 = some (0, 12) := rfl
theorem kc43 : kd 43 = some (0, 12) := rfl
theorem kc44 : kd 44 = some (0, 4800) := rfl
theorem kc45 : kd 45 = some (0, 4800) := rfl
theorem kc46 : kd 46 = some (0, 4800) := rfl
theorem kc47 : kd 47 = some (0, 4800) := rfl
theorem kc48 : kd 48 = some (2, 4800) := rfl
theorem kc49 : kd 49 = some (3, 4800) := rfl
theorem kc50 : kd 50 = some (0, 72) := rfl
theorem kc51 : kd 51 = some (0, 72) := rfl
theorem kc52 : kd 52 = some (0, 72) := rfl
theorem kc53 : kd 53 = some (2, 72) := rfl
theorem kc54 : kd 54 = some (0, 72) := rfl
theorem kc55 : kd 55 = some (9, 0) := rfl
theorem kc56 : kd 56 = some (0, 12) := rfl
theorem kc57 : kd 57 = some (0, 12) := rfl
theorem kc58 : kd 58 = some (0, 12) := rfl
theorem kc59 : kd 59 = some (0, 12) := rfl
theorem kc60 : kd 60 = some (0, 12) := rfl
theorem kc61 : kd 61 = some (0, 12) := rfl
theorem kc62 : kd 62 = some (0, 4800) := rfl
theorem kc63 : kd 63 = some (0, 4800) := rfl
theorem kc64 : kd 64 = some (0, 4800) := rfl
theorem kc65 : kd 65 = some (0, 4800) := rfl
theorem kc66 : kd 66 = some (2, 4800) := rfl
theorem kc67 : kd 67 = some (3, 4800) := rfl
theorem kc68 : kd 68 = some (0, 72) := rfl
theorem kc69 : kd 69 = some (0, 72) := rfl
theorem kc70 : kd 70 = some (0, 72) := rfl
theorem kc71 : kd 71 = some (2, 72) := rfl
theorem kc72 : kd 72 = some (0, 72) := rfl
theorem kc73 : kd 73 = some (9, 0) := rfl
theorem kc74 : kd 74 = some (0, 12) := rfl
theorem kc75 : kd 75 = some (0, 12) := rfl
theorem kc76 : kd 76 = some (0, 12) := rfl
theorem kc77 : kd 77 = some (0, 12) := rfl
theorem kc78 : kd 78 = some (0, 12) := rfl
theorem kc79 : kd 79 = some (0, 12) := rfl
theorem kc80 : kd 80 = some (0, 4800) := rfl
theorem kc81 : kd 81 = some (0, 4800) := rfl
theorem kc82 : kd 82 = some (0, 4800) := rfl
theorem kc83 : kd 83 = some (0, 4800) := rfl
theorem kc84 : kd 84 = some (2, 4800) := rfl
theorem kc85 : kd 85 = some (3, 4800) := rfl
theorem kc86 : kd 86 = some (0, 72) := rfl
theorem kc87 : kd 87 = some (0, 72) := rfl
theorem kc88 : kd 88 = some (0, 72) := rfl
theorem kc89 : kd 89 = some (2, 72) := rfl
theorem kc90 : kd 90 = some (0, 72) := rfl
theorem kc91 : kd 91 = some (8, 0) := rfl
theorem kc92 : kd 92 = some (12, 0) := rfl
theorem kc93 : kd 93 = some (0, 8193) := rfl
theorem kc94 : kd 94 = some (0, 8193) := rfl
theorem kc95 : kd 95 = some (3, 8193) := rfl
theorem kc96 : kd 96 = some (3, 12) := rfl
theorem kc97 : kd 97 = some (3, 6) := rfl
theorem kc98 : kd 98 = some (3, 24) := rfl
theorem kc99 : kd 99 = some (3, 216) := rfl
theorem kc100 : kd 100 = some (0, 216) := rfl
theorem kc101 : kd 101 = some (3, 864) := rfl
theorem kc102 : kd 102 = some (0, 864) := rfl
theorem kc103 : kd 103 = some (11, 0) := rfl
theorem kc104 : kd 104 = some (0, 9) := rfl
theorem kc105 : kd 105 = some (0, 12288) := rfl
theorem kc106 : kd 106 = some (0, 63) := rfl
theorem kc107 : kd 107 = some (0, 32256) := rfl
theorem kc108 : kd 108 = some (0, 63) := rfl
theorem kc109 : kd 109 = some (0, 63) := rfl
theorem kc110 : kd 110 = some (0, 4096) := rfl
theorem kc111 : kd 111 = some (0, 63) := rfl
theorem kc112 : kd 112 = some (0, 63) := rfl
theorem kc113 : kd 113 = some (10, 0) := rfl
theorem kc114 : kd 114 = some (13, 0) := rfl
theorem kc115 : kd 115 = some (2, 400) := rfl
theorem kc116 : kd 116 = some (4, 0) := rfl
theorem kc117 : kd 117 = some (0, 4800) := rfl
theorem kc118 : kd 118 = some (2, 4800) := rfl
theorem kc119 : kd 119 = some (3, 12) := rfl
theorem kc120 : kd 120 = some (3, 12) := rfl
theorem kc121 : kd 121 = some (0, 4800) := rfl
theorem kc122 : kd 122 = some (0, 401) := rfl
theorem kc123 : kd 123 = some (6, 0) := rfl
theorem kc124 : kd 124 = some (0, 8) := rfl
theorem kc125 : kd 125 = some (14, 0) := rfl
theorem kc126 : kd 126 = some (0, 6) := rfl
theorem kc127 : kd 127 = some (0, 9) := rfl
theorem kc128 : kd 128 = some (0, 256) := rfl
theorem kc129 : kd 129 = some (0, 1280) := rfl
theorem kc130 : kd 130 = some (0, 4096) := rfl
theorem kc131 : kd 131 = some (0, 640) := rfl
theorem kc132 : kd 132 = some (0, 480) := rfl
theorem kc133 : kd 133 = some (0, 40) := rfl
theorem kc134 : kd 134 = some (0, 40) := rfl
theorem kc135 : kd 135 = some (0, 40) := rfl
theorem kc136 : kd 136 = some (14, 0) := rfl
theorem kc137 : kd 137 = some (0, 6) := rfl
theorem kc138 : kd 138 = some (0, 9) := rfl
theorem kc139 : kd 139 = some (16, 0) := rfl
theorem kc140 : kd 140 = some (0, 8192) := rfl
theorem kc141 : kd 141 = some (0, 8192) := rfl
theorem kc142 : kd 142 = some (0, 8192) := rfl
theorem kc143 : kd 143 = some (0, 8192) := rfl
theorem kc144 : kd 144 = some (3, 6) := rfl
theorem kc145 : kd 145 = some (0, 6) := rfl
theorem kc146 : kd 146 = some (0, 24) := rfl
theorem kc147 : kd 147 = some (2, 24) := rfl
theorem kc148 : kd 148 = some (0, 24) := rfl
theorem kc149 : kd 149 = some (0, 24) := rfl
theorem kc150 : kd 150 = some (0, 24) := rfl
theorem kc151 : kd 151 = some (3, 24) := rfl
theorem kc152 : kd 152 = some (0, 192) := rfl
theorem kc153 : kd 153 = some (0, 192) := rfl
theorem kc154 : kd 154 = some (0, 192) := rfl
theorem kc155 : kd 155 = some (0, 192) := rfl
theorem kc156 : kd 156 = some (3, 192) := rfl
theorem kc157 : kd 157 = some (0, 192) := rfl
theorem kc158 : kd 158 = some (2, 900) := rfl
theorem kc159 : kd 159 = some (0, 900) := rfl
theorem kc160 : kd 160 = some (3, 900) := rfl
theorem kc161 : kd 161 = some (0, 900) := rfl
theorem kc162 : kd 162 = some (0, 900) := rfl
theorem kc163 : kd 163 = some (2, 900) := rfl
theorem kc164 : kd 164 = some (0, 5000) := rfl
theorem kc165 : kd 165 = some (0, 512) := rfl
theorem kc166 : kd 166 = some (0, 4608) := rfl
theorem kc167 : kd 167 = some (0, 4608) := rfl
theorem kc168 : kd 168 = some (0, 18000) := rfl
theorem kc169 : kd 169 = some (0, 9) := rfl
theorem kc170 : kd 170 = some (0, 64) := rfl
theorem kc171 : kd 171 = some (0, 32768) := rfl
theorem kc172 : kd 172 = some (2, 4096) := rfl
theorem kc173 : kd 173 = some (0, 64) := rfl
theorem kc174 : kd 174 = some (0, 64) := rfl
theorem kc175 : kd 175 = some (0, 3) := rfl
theorem kc176 : kd 176 = some (0, 6) := rfl
theorem kc177 : kd 177 = some (2, 3) := rfl
theorem kc178 : kd 178 = some (0, 3) := rfl
theorem kc179 : kd 179 = some (0, 36) := rfl
theorem kc180 : kd 180 = some (0, 36) := rfl
theorem kc181 : kd 181 = some (0, 36) := rfl
theorem kc182 : kd 182 = some (0, 36) := rfl
theorem kc183 : kd 183 = some (0, 36) := rfl
theorem kc184 : kd 184 = some (0, 36) := rfl
theorem kc185 : kd 185 = some (0, 36) := rfl
theorem kc186 : kd 186 = some (0, 14400) := rfl
theorem kc187 : kd 187 = some (0, 14400) := rfl
theorem kc188 : kd 188 = some (0, 216) := rfl
theorem kc189 : kd 189 = some (0, 216) := rfl
theorem kc190 : kd 190 = some (0, 216) := rfl
theorem kc191 : kd 191 = some (2, 216) := rfl
theorem kc192 : kd 192 = some (0, 216) := rfl
theorem kc193 : kd 193 = some (0, 14400) := rfl
theorem kc194 : kd 194 = some (0, 14400) := rfl
theorem kc195 : kd 195 = some (2, 400) := rfl
theorem kc196 : kd 196 = some (3, 14400) := rfl
theorem kc197 : kd 197 = some (3, 36) := rfl
theorem kc198 : kd 198 = some (3, 36) := rfl
theorem kc199 : kd 199 = some (3, 36) := rfl
theorem kc200 : kd 200 = some (2, 2) := rfl
theorem kc201 : kd 201 = some (3, 1024) := rfl
theorem kc202 : kd 202 = some (2, 1024) := rfl
theorem kc203 : kd 203 = some (0, 401) := rfl
theorem kc204 : kd 204 = some (0, 256) := rfl
theorem kc205 : kd 205 = some (0, 6) := rfl
theorem kc206 : kd 206 = some (0, 6) := rfl
theorem kc207 : kd 207 = some (0, 1280) := rfl
theorem kc208 : kd 208 = some (0, 4100) := rfl
theorem kc209 : kd 209 = some (0, 20100) := rfl
theorem kc210 : kd 210 = some (0, 20100) := rfl
theorem kc211 : kd 211 = some (0, 40) := rfl
theorem kc212 : kd 212 = some (0, 40) := rfl
theorem kc213 : kd 213 = some (0, 40) := rfl
theorem kc214 : kd 214 = some (0, 480) := rfl
theorem kc215 : kd 215 = some (0, 640) := rfl
section XConts
variable {G : xG} {M : xM} {nx z kc ks : Nat} {l : List (Nat × Value)} {rest : List Value} {Q : xQ} {s : yS}
theorem k_Qi {Q' : Int32 → yS → Prop} (k : ∀ (r : Int32) (s1 : yS), Q' r s1 → xEx G M nx l (.int r :: rest) (hS G s1) z kc ks Q) : ∀ (v : Option Value) (h' : xH) (z' : Nat), yQi G z Q' v h' z' → xEx G M nx l (v.toList ++ rest) h' z' (kc - 0) (ks - 0) Q := by
  rintro v h' z' ⟨rfl, r, s1, rfl, rfl, hq⟩; exact k r s1 hq
theorem k_Pi {Q' : Int32 → Prop} (k : ∀ (r : Int32), Q' r → xEx G M nx l (.int r :: rest) (hS G s) z kc ks Q) : ∀ (v : Option Value) (h' : xH) (z' : Nat), yPi G z s Q' v h' z' → xEx G M nx l (v.toList ++ rest) h' z' (kc - 0) (ks - 0) Q := by
  rintro v h' z' ⟨rfl, r, rfl, rfl, hq⟩; exact k r hq
theorem k_Ql {Q' : Int64 → yS → Prop} (k : ∀ (r : Int64) (s1 : yS), Q' r s1 → xEx G M nx l (.long r :: rest) (hS G s1) z kc ks Q) : ∀ (v : Option Value) (h' : xH) (z' : Nat), yQl G z Q' v h' z' → xEx G M nx l (v.toList ++ rest) h' z' (kc - 0) (ks - 0) Q := by
  rintro v h' z' ⟨rfl, r, s1, rfl, rfl, hq⟩; exact k r s1 hq
theorem k_Pl {Q' : Int64 → Prop} (k : ∀ (r : Int64), Q' r → xEx G M nx l (.long r :: rest) (hS G s) z kc ks Q) : ∀ (v : Option Value) (h' : xH) (z' : Nat), yPl G z s Q' v h' z' → xEx G M nx l (v.toList ++ rest) h' z' (kc - 0) (ks - 0) Q := by
  rintro v h' z' ⟨rfl, r, rfl, rfl, hq⟩; exact k r hq
theorem k_Qa {Q' : Nat → yS → Prop} (k : ∀ (r : Nat) (s1 : yS), Q' r s1 → xEx G M nx l (.ref (q_b G + r) :: rest) (hS G s1) z kc ks Q) : ∀ (v : Option Value) (h' : xH) (z' : Nat), yQa G z Q' v h' z' → xEx G M nx l (v.toList ++ rest) h' z' (kc - 0) (ks - 0) Q := by
  rintro v h' z' ⟨rfl, r, s1, rfl, rfl, hq⟩; exact k r s1 hq
theorem k_Pa {Q' : Nat → Prop} (k : ∀ (r : Nat), Q' r → xEx G M nx l (.ref (q_b G + r) :: rest) (hS G s) z kc ks Q) : ∀ (v : Option Value) (h' : xH) (z' : Nat), yPa G z s Q' v h' z' → xEx G M nx l (v.toList ++ rest) h' z' (kc - 0) (ks - 0) Q := by
  rintro v h' z' ⟨rfl, r, rfl, rfl, hq⟩; exact k r hq
theorem k_Qv {Q' : yS → Prop} (k : ∀ (s1 : yS), Q' s1 → xEx G M nx l rest (hS G s1) z kc ks Q) : ∀ (v : Option Value) (h' : xH) (z' : Nat), yQv G z Q' v h' z' → xEx G M nx l (v.toList ++ rest) h' z' (kc - 0) (ks - 0) Q := by
  rintro v h' z' ⟨rfl, s1, rfl, rfl, hq⟩; exact k s1 hq
theorem k_Pv {Q' : Prop} (k : Q' → xEx G M nx l rest (hS G s) z kc ks Q) : ∀ (v : Option Value) (h' : xH) (z' : Nat), yPv G z s Q' v h' z' → xEx G M nx l (v.toList ++ rest) h' z' (kc - 0) (ks - 0) Q := by
  rintro v h' z' ⟨rfl, rfl, rfl, hq⟩; exact k hq
theorem k_named {h : xH} {x : Int64} (k : xEx G M nx l (.long x :: rest) h z kc ks Q) : ∀ (v : Option Value) (h' : xH) (z' : Nat), (z' = z ∧ h' = h ∧ v = some (.long x)) → xEx G M nx l (v.toList ++ rest) h' z' (kc - 0) (ks - 0) Q := by
  rintro v h' z' ⟨rfl, rfl, rfl⟩; exact k
theorem s_lookup {pc n t : Nat} {T : xT} {P : xP} {ts : List Nat} {d off : Int} {ps : Array (Int × Int)} {x : Int32} {h : xH} (hO : xO G M T P) (hl : T.lookup pc = some (.lookupswitch d ps, n, ts)) (hp : (ps.toList.zip (ps.toList.drop 1)).all (fun (a, next) => a.1 < next.1) = true) (ho : Op.lookupswitch.offset ps.toList d x.toInt = off) (ht : (pc : Int) + off = (t : Int)) (k : xEx G M t l rest h z kc ks Q) : xEx G M pc l (.int x :: rest) h z kc ks Q := x_go (fun hx hb _ _ hv kk => lv_lookup hx hb (hO.d hl) hp ho ht (kk _ hv)) k
theorem e_copy {pc idx a0 a n0 n1 t0 : Nat} {T : xT} {P : xP} {ts : List Nat} {ty : FieldType} {f g : Nat → Int32} {sp dp n : Int32} {h h' : xH} (hO : xO G M T P) (hl : T.lookup pc = some (.invokestatic idx, 3, ts)) (ht : (x_tys G)[t0]? = some (q_A G ty, ty)) (hprim : refKind ty = false) (ha0 : h a0 = some (.inl (ty, n0, .inl f))) (ha1 : h a = some (.inl (ty, n1, .inl g))) (hb : ¬ sp < 0 ∧ ¬ dp < 0 ∧ ¬ n < 0 ∧ ix sp + ix n ≤ n0 ∧ ix dp + ix n ≤ n1) (hfit : ∀ i, i < ix n → fits ty (.int (f (ix sp + i))) = true) (hlk : Cond.methodLink (m_y M).cls idx arraycopyName ∈ m_w M) (hnat : Cond.native arraycopyName ∈ m_w M) (hstat : Cond.static arraycopyName ∈ m_w M) (hini : Cond.initialized "java/lang/System" ∈ m_w M) (hfr : 1 ≤ m_f M) (hlo : (rest.map fun v => v.category).sum + (nativeFrameWords "java/lang/System" "arraycopy" 5 + 11) ≤ m_l M) (hp : pc + 3 = nx) (e : va_up h a (some (.inl (ty, n1, .inl (va_cpy f g (ix sp) (ix dp) (ix n))))) = h') (k : xEx G M nx l rest h' z kc ks Q) : xEx G M pc l (.int n :: .int dp :: .ref a :: .int sp :: .ref a0 :: rest) h z kc ks Q := by
  subst hp; subst e
  exact x_copy ht hprim ha0 ha1 hb.1 hb.2.1 hb.2.2.1 hb.2.2.2.1 hb.2.2.2.2 hfit hlk hnat hstat hini hfr hlo (hO.d hl) k
theorem s_max {pc idx : Nat} {T : xT} {P : xP} {ts : List Nat} {x y : Int32} {h : xH} (hO : xO G M T P) (hl : T.lookup pc = some (.invokestatic idx, 3, ts)) (h1 : Cond.methodLink (m_y M).cls idx Lib.Math.max.name ∈ m_w M) (h2 : Cond.static Lib.Math.max.name ∈ m_w M) (h3 : Cond.initialized "java/lang/Math" ∈ m_w M) (h4 : Cond.code Lib.Math.max.name Lib.Math.max.code 2 (some .int) ∈ m_w M) (hf : 1 ≤ m_f M) (hlo : (rest.map fun v => v.category).sum + 13 ≤ m_l M) (hp : pc + 3 = nx) (k : xEx G M nx l (.int (if x < y then y else x) :: rest) h z kc ks Q) : xEx G M pc l (.int y :: .int x :: rest) h z kc ks Q := by
  subst hp
  intro p la e R s m args below meth c H locs cells slots mc ms ls F a1 a2 a3 a4 a5 a6 hv hR hS
  exact va_mmax F.1 F.2.1 (by rw [F.2.2.2.2.1]; first | exact hv.1 | exact hv.1.symm) F.2.2.2.2.2.1 (F.2.2.2.2.2.2.2.1 _ h1) (F.2.2.2.2.2.2.2.1 _ h2) (F.2.2.2.2.2.2.2.1 _ h3) (F.2.2.2.2.2.2.2.1 _ h4) (by omega) (by omega) (by omega) (by omega) (hO.d hl) (k p la e R s m args below meth c H locs cells slots mc ms ls F a1 a2 a3 a4 a5 a6 hv hR hS)
theorem s_min {pc idx : Nat} {T : xT} {P : xP} {ts : List Nat} {x y : Int32} {h : xH} (hO : xO G M T P) (hl : T.lookup pc = some (.invokestatic idx, 3, ts)) (h1 : Cond.methodLink (m_y M).cls idx Lib.Math.min.name ∈ m_w M) (h2 : Cond.static Lib.Math.min.name ∈ m_w M) (h3 : Cond.initialized "java/lang/Math" ∈ m_w M) (h4 : Cond.code Lib.Math.min.name Lib.Math.min.code 2 (some .int) ∈ m_w M) (hf : 1 ≤ m_f M) (hlo : (rest.map fun v => v.category).sum + 13 ≤ m_l M) (hp : pc + 3 = nx) (k : xEx G M nx l (.int (if y < x then y else x) :: rest) h z kc ks Q) : xEx G M pc l (.int y :: .int x :: rest) h z kc ks Q := by
  subst hp
  intro p la e R s m args below meth c H locs cells slots mc ms ls F a1 a2 a3 a4 a5 a6 hv hR hS
  exact va_mmin F.1 F.2.1 (by rw [F.2.2.2.2.1]; first | exact hv.1 | exact hv.1.symm) F.2.2.2.2.2.1 (F.2.2.2.2.2.2.2.1 _ h1) (F.2.2.2.2.2.2.2.1 _ h2) (F.2.2.2.2.2.2.2.1 _ h3) (F.2.2.2.2.2.2.2.1 _ h4) (by omega) (by omega) (by omega) (by omega) (hO.d hl) (k p la e R s m args below meth c H locs cells slots mc ms ls F a1 a2 a3 a4 a5 a6 hv hR hS)
theorem s_minJ {pc idx : Nat} {T : xT} {P : xP} {ts : List Nat} {x y : Int64} {h : xH} (hO : xO G M T P) (hl : T.lookup pc = some (.invokestatic idx, 3, ts)) (h1 : Cond.methodLink (m_y M).cls idx Lib.MathLoose.min_long.x ∈ m_w M) (h2 : Cond.static Lib.MathLoose.min_long.x ∈ m_w M) (h3 : Cond.initialized "java/lang/Math" ∈ m_w M) (h4 : Cond.code Lib.MathLoose.min_long.x Lib.MathLoose.min_long.code 4 (some .long) ∈ m_w M) (hf : 1 ≤ m_f M) (hlo : (rest.map fun v => v.category).sum + 15 ≤ m_l M) (hp : pc + 3 = nx) (k : xEx G M nx l (.long (if y < x then y else x) :: rest) h z kc ks Q) : xEx G M pc l (.long y :: .long x :: rest) h z kc ks Q := by
  subst hp
  intro p la e R s m args below meth c H locs cells slots mc ms ls F a1 a2 a3 a4 a5 a6 hv hR hS
  exact va_mmin_long F.1 F.2.1 (by rw [F.2.2.2.2.1]; first | exact hv.1 | exact hv.1.symm) F.2.2.2.2.2.1 (F.2.2.2.2.2.2.2.1 _ h1) (F.2.2.2.2.2.2.2.1 _ h2) (F.2.2.2.2.2.2.2.1 _ h3) (F.2.2.2.2.2.2.2.1 _ h4) (by omega) (by omega) (by omega) (by omega) (hO.d hl) (k p la e R s m args below meth c H locs cells slots mc ms ls F a1 a2 a3 a4 a5 a6 hv hR hS)
end XConts
theorem x_sub0 {l : List (Nat × Value)} : ∀ q ∈ ([] : List (Nat × Value)), q ∈ l := fun _ h => absurd h List.not_mem_nil
theorem x_sub1 {l l' : List (Nat × Value)} {x : Nat × Value} (h : x ∈ l) (k : ∀ q ∈ l', q ∈ l) : ∀ q ∈ x :: l', q ∈ l := List.forall_mem_cons.mpr ⟨h, k⟩
