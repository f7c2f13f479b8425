/-! ===== what holds between two calls ===== -/
/-- two states are the same on D -/
def sm (D : Nat → Nat → Prop) (s s' : yS) : Prop := (∀ a i, D a i → sI s' a i = sI s a i) ∧ ∀ a i, D a i → sJ s' a i = sJ s a i
theorem frM.sm {D E : Nat → Nat → Prop} {s s' : yS} (h : frM D s s') (k : ∀ a i, E a i → ¬ D a i) : sm E s s' := ⟨fun a i e => h.1 a i (k a i e), fun a i e => h.2.1 a i (k a i e)⟩
theorem sm.trans {D : Nat → Nat → Prop} {s t u : yS} (h : sm D s t) (k : sm D t u) : sm D s u := ⟨fun a i e => (k.1 a i e).trans (h.1 a i e), fun a i e => (k.2 a i e).trans (h.2 a i e)⟩
def iA (s : yS) (pc po gp gf gs : Nat) : Prop := ((pc = 3 ∧ po = 20) ∨ (pc = 20 ∧ po = 3)) ∧ sR s 0 6 = pc + 1 ∧ sR s 0 7 = po + 1 ∧ sR s 0 8 = gp + 1 ∧ sR s 0 9 = gf + 1 ∧ sR s 0 10 = gs + 1 ∧ gOK gp ∧ gOK gf ∧ gOK gs ∧ gp ≠ gf ∧ gp ≠ gs ∧ gf ≠ gs
def iK (s : yS) (pc po : Nat) : Prop := wdC s ∧ keyI s ∧ poI s pc ∧ poI s po
def iB (s : yS) (B : Nat → Nat) (nb : Nat) : Prop := byC s B nb ∧ byM s B nb
def iW (s : yS) (W : List Nat) : Prop := atC s W W.length ∧ sI s 0 3 = nI W.length ∧ atM s W W.length ∧ W.length ≤ 8192 ∧ ∀ b ∈ W, b < 256
def iF (s : yS) : Prop := sI s 139 6 = sI s 0 4 ∧ sI s 139 7 = sI s 0 5
def iP (s : yS) (pc : Nat) (T : Nat → Nat) (nt : Nat) (ps : PS) (S : List Int32) : Prop := txM s T nt ∧ polP T nt = .ok (ps, S) ∧ mkd ps S ∧ plM s ps S ∧ plC s pc ps S ∧ puC s pc ps ∧ ruC s pc (pR ps) ∧ sI s pc 0 = nI (pC ps).length ∧ sI s pc 1 = nI (pN ps).length
def iH (s : yS) (ps : PS) (S : List Int32) (x : Int32) : Prop := sI s 136 0 = nI (stQ ps S x) ∧ sI s 139 99 = x ∧ inQ ps S x ∧ (∀ k, k < 6 → sI s 206 k = sI s 137 k) ∧ okR6 ps (sI s 137)
def iS (s : yS) (g q hi : Nat) (l : List Fn) (ps : PS) (S : List Int32) : Prop := (sI s 0 hi = 0 ∧ sI s 177 q = 0 ∧ ∃ n, n ≤ 12 ∧ sI s 178 q = nI n) ∨ (sI s 0 hi = 1 ∧ sI s 177 q = 1 ∧ pgC s g l ∧ pgM s q l ∧ pgOK l ∧ vAll l = none ∧ tyD s g l ∧ tpM s q l ∧ mkC s g l ps S ∧ mkM s q l ps S)
def iR (s : yS) (ps : PS) (S : List Int32) : Prop := (sI s 124 0 = -1 ∧ sI s 139 89 = 0) ∨ (sI s 139 89 = 1 ∧ ∃ (z : MS) (h : Nat) (v : Int32), h ≤ 3 ∧ aO z < 2147483647 ∧ eC s ps S z h v ∧ sI s 124 5 = nI (stQ ps S (aX z)) ∧ mBr s ps S z ∧ sI s 139 90 = nI h ∧ sI s 139 91 = v ∧ sI s 139 96 = nI (aD z))
def iN (s : yS) (an : Nat → Int32) (na : Nat) : Prop := anC s an na ∧ anM s an na
/-! what they speak of -/
def uK (pc po a i : Nat) : Prop := a = 110 ∨ a = 96 ∨ ((a = pc + 5 ∨ a = pc + 13 ∨ a = po + 5 ∨ a = po + 13) ∧ i = 0)
def uB (a i : Nat) : Prop := (a = 0 ∧ i = 2) ∨ a = 1 ∨ (a = 139 ∧ i = 2) ∨ a = 140
def uW (a i : Nat) : Prop := (a = 0 ∧ i = 3) ∨ a = 2 ∨ (a = 139 ∧ i = 5) ∨ a = 141
def uF (a i : Nat) : Prop := (a = 0 ∧ (i = 4 ∨ i = 5)) ∨ (a = 139 ∧ (i = 6 ∨ i = 7))
def uP (pc a i : Nat) : Prop := (pc ≤ a ∧ a ≤ pc + 16) ∨ (a = 139 ∧ (i = 9 ∨ i = 19 ∨ i = 25 ∨ i = 27 ∨ i = 34 ∨ i = 41 ∨ i = 47 ∨ i = 51 ∨ i = 56)) ∨ (143 ≤ a ∧ a ≤ 163) ∨ a = 165 ∨ a = 166 ∨ a = 170 ∨ a = 171 ∨ a = 173 ∨ a = 174 ∨ a = 201 ∨ a = 202
def uH (a i : Nat) : Prop := (a = 136 ∧ i = 0) ∨ a = 137 ∨ (a = 139 ∧ i = 99) ∨ a = 206
def uG (q a i : Nat) : Prop := ((a = 177 ∨ a = 178 ∨ a = 200) ∧ i = q) ∨ ((a = 179 ∨ a = 180 ∨ a = 181 ∨ a = 182 ∨ a = 184 ∨ a = 185) ∧ 12 * q ≤ i ∧ i < 12 * q + 12) ∨ ((a = 186 ∨ a = 187 ∨ a = 193 ∨ a = 194 ∨ a = 196) ∧ 4800 * q ≤ i ∧ i < 4800 * q + 4800) ∨ (188 ≤ a ∧ a ≤ 192 ∧ 72 * q ≤ i ∧ i < 72 * q + 72)
def uS (g q hi a i : Nat) : Prop := (a = 0 ∧ i = hi) ∨ (g ≤ a ∧ a ≤ g + 17) ∨ uG q a i
def uR (a i : Nat) : Prop := a = 124 ∨ (a = 125 ∧ i = 0) ∨ a = 126 ∨ a = 129 ∨ a = 130 ∨ (a = 139 ∧ 89 ≤ i ∧ i ≤ 97) ∨ a = 205 ∨ a = 207 ∨ a = 208
def uN (a i : Nat) : Prop := (a = 123 ∧ i = 2) ∨ a = 128 ∨ (a = 139 ∧ i = 88) ∨ a = 204
section
variable {s s' : yS} {pc po gp gf gs nb nt g q hi na : Nat} {B T : Nat → Nat} {W : List Nat} {ps : PS} {S : List Int32} {x : Int32} {l : List Fn} {an : Nat → Int32}
theorem iA.fr (h : iA s pc po gp gf gs) (F : ∀ i, 6 ≤ i → i ≤ 10 → sR s' 0 i = sR s 0 i) : iA s' pc po gp gf gs := by
  obtain ⟨h1, h2, h3, h4, h5, h6, h7⟩ := h
  exact ⟨h1, (F _ (by omega) (by omega)).trans h2, (F _ (by omega) (by omega)).trans h3, (F _ (by omega) (by omega)).trans h4, (F _ (by omega) (by omega)).trans h5, (F _ (by omega) (by omega)).trans h6, h7⟩
theorem iK.fr (h : iK s pc po) (F : sm (uK pc po) s s') : iK s' pc po := by
  obtain ⟨h1, h2, ⟨h3, h4⟩, h5, h6⟩ := h
  exact ⟨fun w hw => (F.2 _ _ (by unfold uK; omega)).trans (h1 w hw), fun k hk => (F.1 _ _ (by unfold uK; omega)).trans (h2 k hk), ⟨(F.1 _ _ (by unfold uK; omega)).trans h3, (F.1 _ _ (by unfold uK; omega)).trans h4⟩, (F.1 _ _ (by unfold uK; omega)).trans h5, (F.1 _ _ (by unfold uK; omega)).trans h6⟩
theorem iB.fr (h : iB s B nb) (F : sm uB s s') : iB s' B nb := by
  obtain ⟨⟨h1, h2⟩, h3⟩ := h
  exact ⟨⟨h1.fr (fun k => F.1 _ _ (by unfold uB; omega)), (F.1 _ _ (by unfold uB; omega)).trans h2⟩, h3.fr (F.1 _ _ (by unfold uB; omega)) (fun k => F.1 _ _ (by unfold uB; omega))⟩
theorem iW.fr (h : iW s W) (F : sm uW s s') : iW s' W := by
  obtain ⟨h1, h2, ⟨h3, h4⟩, h5⟩ := h
  exact ⟨fun j hj => (F.1 _ _ (by unfold uW; omega)).trans (h1 j hj), (F.1 _ _ (by unfold uW; omega)).trans h2, ⟨(F.1 _ _ (by unfold uW; omega)).trans h3, fun j hj => (F.1 _ _ (by unfold uW; omega)).trans (h4 j hj)⟩, h5⟩
theorem iF.fr (h : iF s) (F : sm uF s s') : iF s' := ⟨((F.1 _ _ (by unfold uF; omega)).trans h.1).trans (F.1 _ _ (by unfold uF; omega)).symm, ((F.1 _ _ (by unfold uF; omega)).trans h.2).trans (F.1 _ _ (by unfold uF; omega)).symm⟩
theorem iP.fr (h : iP s pc T nt ps S) (F : sm (uP pc) s s') : iP s' pc T nt ps S := by
  obtain ⟨h1, h2, h3, h4, h5, h6, h7, h8, h9⟩ := h
  refine ⟨h1.fr (F.1 _ _ (by unfold uP; omega)) (fun i => F.1 _ _ (by unfold uP; omega)), h2, h3, h4.fr (fun a i ha => F.1 _ _ (by unfold uP; omega)) (fun a i ha => F.2 _ _ (by unfold uP; omega)), h5.fr (fun a i ha => F.1 _ _ (by unfold uP; omega)) (fun a i ha => F.2 _ _ (by unfold uP; omega)), h6.fr2 (fun a i h1 h2 => F.1 _ _ (by unfold uP; omega)), ?_, (F.1 _ _ (by unfold uP; omega)).trans h8, (F.1 _ _ (by unfold uP; omega)).trans h9⟩
  intro c hc
  rw [F.1 _ _ (by unfold uP; omega)]; exact h7 c hc
theorem iH.fr (h : iH s ps S x) (F : sm uH s s') : iH s' ps S x := by
  obtain ⟨h1, h2, h3, h4, h5⟩ := h
  exact ⟨(F.1 _ _ (by unfold uH; omega)).trans h1, (F.1 _ _ (by unfold uH; omega)).trans h2, h3, fun k hk => ((F.1 _ _ (by unfold uH; omega)).trans (h4 k hk)).trans (F.1 _ _ (by unfold uH; omega)).symm, fun k hk => by obtain ⟨n, h, e⟩ := h5 k hk; exact ⟨n, h, (F.1 _ _ (by unfold uH; omega)).trans e⟩⟩
theorem pgM.frq (hok : pgOK l) (h : pgM s q l) (F : ∀ a i, uG q a i → sI s' a i = sI s a i) : pgM s' q l := by
  have h12 := hok.2.1
  refine ⟨(F _ _ (by unfold uG; omega)).trans h.1, fun f hf => ?_⟩
  have h400 := (hok.2.2.1 f hf).2.2.2.2.2.2.2.2.1
  have h6 := (hok.2.2.1 f hf).2.2.2.2.2.2.2.2.2.1
  obtain ⟨h1, h2, h3, h4, h5, h6', h7, h8⟩ := h.2 f hf
  refine ⟨(F _ _ (by unfold uG; omega)).trans h1, (F _ _ (by unfold uG; omega)).trans h2, (F _ _ (by unfold uG; omega)).trans h3, (F _ _ (by unfold uG; omega)).trans h4, (F _ _ (by unfold uG; omega)).trans h5, (F _ _ (by unfold uG; omega)).trans h6', fun i hi => ⟨(F _ _ (by unfold uG; omega)).trans (h7 i hi).1, (F _ _ (by unfold uG; omega)).trans (h7 i hi).2⟩, fun i hi => ?_⟩
  obtain ⟨k1, k2, k3, k4, k5⟩ := h8 i hi
  exact ⟨(F _ _ (by unfold uG; omega)).trans k1, (F _ _ (by unfold uG; omega)).trans k2, (F _ _ (by unfold uG; omega)).trans k3, (F _ _ (by unfold uG; omega)).trans k4, (F _ _ (by unfold uG; omega)).trans k5⟩
theorem tyD.fr (h : tyD s g l) (F : ∀ a i, g ≤ a → a ≤ g + 17 → sI s' a i = sI s a i) : tyD s' g l := fun f hf i hi => ⟨(F _ _ (by omega) (by omega)).trans (h f hf i hi).1, (F _ _ (by omega) (by omega)).trans (h f hf i hi).2⟩
theorem tpM.fr (hok : pgOK l) (h : tpM s q l) (F : ∀ a i, uG q a i → sI s' a i = sI s a i) : tpM s' q l := fun f hf i hi => by
  have h12 := hok.2.1
  exact ⟨(F _ _ (by unfold uG; omega)).trans (h f hf i hi).1, (F _ _ (by unfold uG; omega)).trans (h f hf i hi).2⟩
theorem myC.fr {RJ : Nat → Nat → Int64} {n : Nat} (h : myC s g l RJ n) (F : ∀ i, sJ s' (g + 12) i = sJ s (g + 12) i) : myC s' g l RJ n := fun f hf i hi b => by rw [F]; exact h f hf i hi b
theorem myM.fr {RJ : Nat → Nat → Int64} {n : Nat} (hok : pgOK l) (h : myM s q l RJ n) (F : ∀ a i, uG q a i → sJ s' a i = sJ s a i) : myM s' q l RJ n := fun f hf i hi b => by
  have h12 := hok.2.1
  have h400 := (hok.2.2.1 f hf).2.2.2.2.2.2.2.2.1
  rw [F _ _ (by unfold uG; omega)]; exact h f hf i hi b
theorem mkC.fr (h : mkC s g l ps S) (F : ∀ a i, g ≤ a → a ≤ g + 17 → sI s' a i = sI s a i) (FJ : ∀ i, sJ s' (g + 12) i = sJ s (g + 12) i) : mkC s' g l ps S := by
  rcases h with h | ⟨h, h2⟩
  · exact Or.inl ((F _ _ (by omega) (by omega)).trans h)
  · exact Or.inr ⟨(F _ _ (by omega) (by omega)).trans h, h2.fr FJ⟩
theorem mkM.fr (hok : pgOK l) (h : mkM s q l ps S) (F : ∀ a i, uG q a i → sI s' a i = sI s a i) (FJ : ∀ a i, uG q a i → sJ s' a i = sJ s a i) : mkM s' q l ps S := by
  rcases h with h | ⟨h, h2⟩
  · exact Or.inl ((F _ _ (by unfold uG; omega)).trans h)
  · exact Or.inr ⟨(F _ _ (by unfold uG; omega)).trans h, h2.fr hok FJ⟩
theorem iS.fr (h : iS s g q hi l ps S) (F : sm (uS g q hi) s s') : iS s' g q hi l ps S := by
  have FG : ∀ a i, uG q a i → sI s' a i = sI s a i := fun a i h => F.1 _ _ (Or.inr (Or.inr h))
  have FJ : ∀ a i, uG q a i → sJ s' a i = sJ s a i := fun a i h => F.2 _ _ (Or.inr (Or.inr h))
  have Fg : ∀ a i, g ≤ a → a ≤ g + 17 → sI s' a i = sI s a i := fun a i h1 h2 => F.1 _ _ (Or.inr (Or.inl ⟨h1, h2⟩))
  rcases h with ⟨h1, h2, n, h3, h4⟩ | ⟨h1, h2, h3, h4, h5, h6, h7, h8, h9, h10⟩
  · exact Or.inl ⟨(F.1 _ _ (Or.inl ⟨rfl, rfl⟩)).trans h1, (FG _ _ (by unfold uG; omega)).trans h2, n, h3, (FG _ _ (by unfold uG; omega)).trans h4⟩
  · exact Or.inr ⟨(F.1 _ _ (Or.inl ⟨rfl, rfl⟩)).trans h1, (FG _ _ (by unfold uG; omega)).trans h2, h3.fr (fun a i ha => Fg _ _ (by omega) (by omega)), h4.frq h5 FG, h5, h6, h7.fr Fg, h8.fr h5 FG, h9.fr Fg (fun i => F.2 _ _ (Or.inr (Or.inl (by omega)))), h10.fr h5 FG FJ⟩
theorem eC.fr {z : MS} {h : Nat} {v : Int32} (e : eC s ps S z h v) (F : sm uR s s') : eC s' ps S z h v := ⟨e.1.fr (fun a i ha => F.1 _ _ (by unfold uR; omega)), (F.1 _ _ (by unfold uR; omega)).trans e.2.1, (F.1 _ _ (by unfold uR; omega)).trans e.2.2⟩
theorem iR.fr (h : iR s ps S) (F : sm uR s s') : iR s' ps S := by
  rcases h with ⟨h1, h2⟩ | ⟨h1, z, h, v, h2, h3, h4, h5, h6, h7, h8, h9⟩
  · exact Or.inl ⟨(F.1 _ _ (by unfold uR; omega)).trans h1, (F.1 _ _ (by unfold uR; omega)).trans h2⟩
  · exact Or.inr ⟨(F.1 _ _ (by unfold uR; omega)).trans h1, z, h, v, h2, h3, h4.fr F, (F.1 _ _ (by unfold uR; omega)).trans h5, h6.fr (fun a i ha => F.1 _ _ (by unfold uR; omega)), (F.1 _ _ (by unfold uR; omega)).trans h7, (F.1 _ _ (by unfold uR; omega)).trans h8, (F.1 _ _ (by unfold uR; omega)).trans h9⟩
theorem iN.fr (h : iN s an na) (F : sm uN s s') : iN s' an na := by
  obtain ⟨⟨h1, h2, h3⟩, h4, h5, h6⟩ := h
  exact ⟨⟨(F.1 _ _ (by unfold uN; omega)).trans h1, h2, fun i hi => (F.1 _ _ (by unfold uN; omega)).trans (h3 i hi)⟩, (F.1 _ _ (by unfold uN; omega)).trans h4, h5, fun i hi => (F.1 _ _ (by unfold uN; omega)).trans (h6 i hi)⟩
end
/-- all of it -/
def Iv (s : yS) : Prop := ∃ (pc po gp gf gs : Nat) (B : Nat → Nat) (nb : Nat) (W : List Nat) (T : Nat → Nat) (nt : Nat) (ps : PS) (S : List Int32) (x : Int32) (l0 l1 : List Fn) (an : Nat → Int32) (na : Nat), iA s pc po gp gf gs ∧ iK s pc po ∧ iB s B nb ∧ iW s W ∧ iF s ∧ iP s pc T nt ps S ∧ iH s ps S x ∧ iS s gp 0 11 l0 ps S ∧ iS s gf 1 12 l1 ps S ∧ iR s ps S ∧ iN s an na
def dJk (a i : Nat) : Prop := (a = 139 ∧ i = 0) ∨ a = 175 ∨ a = 176 ∨ a = 127 ∨ a = 138
/-- nothing of it is touched -/
theorem Iv.fr {s s' : yS} (h : Iv s) (F : frM dJk s s') : Iv s' := by
  obtain ⟨pc, po, gp, gf, gs, B, nb, W, T, nt, ps, S, x, l0, l1, an, na, hA, hK, hB, hW, hF, hP, hH, h0, h1, hR, hN⟩ := h
  have hpc := hA.1
  have h37 : (gp = 37 ∨ gp = 55 ∨ gp = 73) ∧ (gf = 37 ∨ gf = 55 ∨ gf = 73) := ⟨hA.2.2.2.2.2.2.1, hA.2.2.2.2.2.2.2.1⟩
  exact ⟨pc, po, gp, gf, gs, B, nb, W, T, nt, ps, S, x, l0, l1, an, na, hA.fr (fun i _ _ => F.2.2 _ _), hK.fr (F.sm (fun a i h => by unfold uK at h; unfold dJk; omega)), hB.fr (F.sm (fun a i h => by unfold uB at h; unfold dJk; omega)), hW.fr (F.sm (fun a i h => by unfold uW at h; unfold dJk; omega)), hF.fr (F.sm (fun a i h => by unfold uF at h; unfold dJk; omega)), hP.fr (F.sm (fun a i h => by unfold uP at h; unfold dJk; omega)), hH.fr (F.sm (fun a i h => by unfold uH at h; unfold dJk; omega)), h0.fr (F.sm (fun a i h => by unfold uS uG at h; unfold dJk; omega)), h1.fr (F.sm (fun a i h => by unfold uS uG at h; unfold dJk; omega)), hR.fr (F.sm (fun a i h => by unfold uR at h; unfold dJk; omega)), hN.fr (F.sm (fun a i h => by unfold uN at h; unfold dJk; omega))⟩
