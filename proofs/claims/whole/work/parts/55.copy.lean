/-! ===== PURE: the reference copies a program ===== -/
section
variable {s : yS} {p q : Nat} {l : List Fn}
def cpA (φ : Int32 → Int32) (N p q a : Nat) (s t : yS) (k : Nat) : Prop := ∀ j, j < k → sI t a (N * p + j) = φ (sI s a (N * q + j))
theorem cpA.at {φ : Int32 → Int32} {N a k : Nat} {t : yS} {x : Int32} (h : cpA φ N p q a s t k) (hx : x = φ (sI s a (N * q + k))) : cpA φ N p q a s (wI t a (N * p + k) x) (k + 1) := by
  intro j hj
  by_cases c : j = k
  · subst c; rw [sI_w, if_pos ⟨rfl, rfl⟩]; exact hx
  · rw [sI_w, if_neg (by omega)]; exact h j (by omega)
theorem cpA.ne {φ : Int32 → Int32} {N a b i k : Nat} {t : yS} {x : Int32} (h : cpA φ N p q a s t k) (hn : a ≠ b) : cpA φ N p q a s (wI t b i x) k := by
  intro j hj
  rw [sI_w, if_neg (by omega)]; exact h j hj
theorem cpA.fr {φ : Int32 → Int32} {N a k : Nat} {t u : yS} (h : cpA φ N p q a s t k) (hn : ∀ j, j < k → sI u a (N * p + j) = sI t a (N * p + j)) : cpA φ N p q a s u k := fun j hj => (hn j hj).trans (h j hj)
def dCp (p a i : Nat) : Prop := ((a = 177 ∨ a = 178) ∧ i = p) ∨ ((a = 179 ∨ a = 180 ∨ a = 181 ∨ a = 182 ∨ a = 184 ∨ a = 185) ∧ 12 * p ≤ i ∧ i < 12 * p + 12) ∨ ((a = 186 ∨ a = 187 ∨ a = 193 ∨ a = 194) ∧ 4800 * p ≤ i ∧ i < 4800 * p + 4800) ∨ (188 ≤ a ∧ a ≤ 192 ∧ 72 * p ≤ i ∧ i < 72 * p + 72)
def hdA (p q : Nat) (s t : yS) (k : Nat) : Prop := cpA id 12 p q 179 s t k ∧ cpA id 12 p q 180 s t k ∧ cpA id 12 p q 181 s t k ∧ cpA id 12 p q 182 s t k ∧ cpA id 12 p q 184 s t k ∧ cpA id 12 p q 185 s t k
def coA (p q : Nat) (s t : yS) (k : Nat) : Prop := cpA id 4800 p q 186 s t k ∧ cpA id 4800 p q 187 s t k ∧ cpA id 4800 p q 193 s t k ∧ cpA id 4800 p q 194 s t k
def hnA (p q : Nat) (s t : yS) (k : Nat) : Prop := cpA id 72 p q 188 s t k ∧ cpA id 72 p q 189 s t k ∧ cpA id 72 p q 190 s t k ∧ cpA (vp_nar .boolean) 72 p q 191 s t k ∧ cpA id 72 p q 192 s t k
theorem k_copyProgram {Q : yS → Prop} (hp : p < 3) (hq : q < 3) (hpq : p ≠ q)
    (H : ∀ s', frM (dCp p) s s' → (sI s' 177) p = 1 → (sI s' 178) p = (sI s 178) q → hdA p q s s' 12 → coA p q s s' 4800 → hnA p q s s' 72 → Q s') : W_X12_copyProgram s (nI q) (nI p) Q := by
  unfold W_X12_copyProgram
  rw [nI_ix (n := p) (by omega), nI_ix (n := q) (by omega)]
  have ip : vp_in (nI p) 3 := nI_inU (by omega) (by omega)
  have iq : vp_in (nI q) 3 := nI_inU (by omega) (by omega)
  refine ⟨ip, ?_⟩
  intro s2 e2
  refine ⟨iq, ip, ?_⟩
  intro s5 e5
  have F5 : frM (dCp p) s s5 := by subst e5; subst e2; exact (frM.rfl'.wI (by unfold dCp; omega)).wI (by unfold dCp; omega)
  have h5 : sI s5 177 p = 1 := by subst e5; rw [sI_w, if_neg (by omega)]; subst e2; rw [sI_w, if_pos ⟨rfl, rfl⟩]; rfl
  have f5 : sI s5 178 p = sI s 178 q := by subst e5; rw [sI_w, if_pos ⟨rfl, rfl⟩]; subst e2; rw [sI_w, if_neg (by omega)]
  clear e5 e2
  intro P21 hP21
  -- the handlers
  have L3 : ∀ s9 : yS, frM (dCp p) s s9 → sI s9 177 p = 1 → sI s9 178 p = sI s 178 q → hdA p q s s9 12 → coA p q s s9 4800 → ∀ P278 : Int32 → yS → Prop, (∀ (x10 : Int32) (s11 : yS), ((((nI 72) ≤ x10 → Q s11)
      ∧ (¬ (nI 72) ≤ x10 → vp_in (((nI 72) * nI q) + x10) 216 ∧ 
       vp_in (((nI 72) * nI p) + x10) 216 ∧ ∀ s14 : yS, s14 = wI s11 188 (ix (((nI 72) * nI p) + x10)) (sI s11 188 (ix (((nI 72) * nI q) + x10))) → 
       vp_in (((nI 72) * nI q) + x10) 216 ∧ 
       vp_in (((nI 72) * nI p) + x10) 216 ∧ ∀ s17 : yS, s17 = wI s14 189 (ix (((nI 72) * nI p) + x10)) (sI s14 189 (ix (((nI 72) * nI q) + x10))) → 
       vp_in (((nI 72) * nI q) + x10) 216 ∧ 
       vp_in (((nI 72) * nI p) + x10) 216 ∧ ∀ s20 : yS, s20 = wI s17 190 (ix (((nI 72) * nI p) + x10)) (sI s17 190 (ix (((nI 72) * nI q) + x10))) → 
       vp_in (((nI 72) * nI q) + x10) 216 ∧ 
       vp_in (((nI 72) * nI p) + x10) 216 ∧ ∀ s23 : yS, s23 = wI s20 191 (ix (((nI 72) * nI p) + x10)) (vp_nar .boolean (sI s20 191 (ix (((nI 72) * nI q) + x10)))) → 
       vp_in (((nI 72) * nI q) + x10) 216 ∧ 
       vp_in (((nI 72) * nI p) + x10) 216 ∧ ∀ s26 : yS, s26 = wI s23 192 (ix (((nI 72) * nI p) + x10)) (sI s23 192 (ix (((nI 72) * nI q) + x10))) → 
       ∀ x27 : Int32, x27 = (x10 + 1) → 
       P278 x27 s26))) → P278 x10 s11) → 
     P278 0 s9 := by
    intro s9 F9 h9 f9 d9 c9 P278 hP278
    suffices hL : ∀ (r k : Nat) (t : yS), k + r = 72 → frM (dCp p) s t → (∀ a i, ¬ (188 ≤ a ∧ a ≤ 192) → sI t a i = sI s9 a i) → hnA p q s t k → P278 (nI k) t from hL 72 0 s9 (by omega) F9 (fun _ _ _ => rfl) ⟨fun j hj => by omega, fun j hj => by omega, fun j hj => by omega, fun j hj => by omega, fun j hj => by omega⟩
    intro r
    induction r with
    | zero =>
      intro k t hk Ft nt At
      obtain rfl : k = 72 := by omega
      apply hP278
      refine ⟨fun _ => H t Ft ((nt _ _ (by omega)).trans h9) ((nt _ _ (by omega)).trans f9) ?_ ?_ At, fun hz => absurd (by decide) hz⟩
      · exact ⟨d9.1.fr (fun j _ => nt _ _ (by omega)), d9.2.1.fr (fun j _ => nt _ _ (by omega)), d9.2.2.1.fr (fun j _ => nt _ _ (by omega)), d9.2.2.2.1.fr (fun j _ => nt _ _ (by omega)), d9.2.2.2.2.1.fr (fun j _ => nt _ _ (by omega)), d9.2.2.2.2.2.fr (fun j _ => nt _ _ (by omega))⟩
      · exact ⟨c9.1.fr (fun j _ => nt _ _ (by omega)), c9.2.1.fr (fun j _ => nt _ _ (by omega)), c9.2.2.1.fr (fun j _ => nt _ _ (by omega)), c9.2.2.2.fr (fun j _ => nt _ _ (by omega))⟩
    | succ r ih =>
      intro k t hk Ft nt At
      have vq : vp_in (nI (72 * q + k)) 216 := nI_inU (by omega) (by omega)
      have vp : vp_in (nI (72 * p + k)) 216 := nI_inU (by omega) (by omega)
      apply hP278
      rw [nI_leU (by omega) (by omega), nI_mul, nI_mul, nI_addU, nI_addU, nI_ix (n := 72 * q + k) (by omega), nI_ix (n := 72 * p + k) (by omega)]
      refine ⟨fun hz => absurd hz (by omega), fun _ => ⟨vq, vp, ?_⟩⟩
      intro t1 e1
      refine ⟨vq, vp, ?_⟩
      intro t2 e2
      refine ⟨vq, vp, ?_⟩
      intro t3 e3
      refine ⟨vq, vp, ?_⟩
      intro t4 e4
      refine ⟨vq, vp, ?_⟩
      intro t5 e5 x27 e27
      subst e27; rw [nI_s]
      have G1 : frM (dCp p) s t1 := by subst e1; exact Ft.wI (by unfold dCp; omega)
      have G2 : frM (dCp p) s t2 := by subst e2; exact G1.wI (by unfold dCp; omega)
      have G3 : frM (dCp p) s t3 := by subst e3; exact G2.wI (by unfold dCp; omega)
      have G4 : frM (dCp p) s t4 := by subst e4; exact G3.wI (by unfold dCp; omega)
      have G5 : frM (dCp p) s t5 := by subst e5; exact G4.wI (by unfold dCp; omega)
      have v1 : sI t 188 (72 * q + k) = sI s 188 (72 * q + k) := Ft.1 _ _ (by unfold dCp; omega)
      have v2 : sI t1 189 (72 * q + k) = sI s 189 (72 * q + k) := G1.1 _ _ (by unfold dCp; omega)
      have v3 : sI t2 190 (72 * q + k) = sI s 190 (72 * q + k) := G2.1 _ _ (by unfold dCp; omega)
      have v4 : sI t3 191 (72 * q + k) = sI s 191 (72 * q + k) := G3.1 _ _ (by unfold dCp; omega)
      have v5 : sI t4 192 (72 * q + k) = sI s 192 (72 * q + k) := G4.1 _ _ (by unfold dCp; omega)
      refine ih (k + 1) t5 (by omega) G5 (fun a i h => ?_) ?_
      · subst e5; rw [sI_w, if_neg (by omega)]; subst e4; rw [sI_w, if_neg (by omega)]; subst e3; rw [sI_w, if_neg (by omega)]; subst e2; rw [sI_w, if_neg (by omega)]; subst e1; rw [sI_w, if_neg (by omega)]; exact nt a i h
      · rw [v1] at e1; rw [v2] at e2; rw [v3] at e3; rw [v4] at e4; rw [v5] at e5
        subst e5; subst e4; subst e3; subst e2; subst e1
        exact ⟨((((At.1.at rfl).ne (by omega)).ne (by omega)).ne (by omega)).ne (by omega), ((((At.2.1.ne (by omega)).at rfl).ne (by omega)).ne (by omega)).ne (by omega), ((((At.2.2.1.ne (by omega)).ne (by omega)).at rfl).ne (by omega)).ne (by omega), ((((At.2.2.2.1.ne (by omega)).ne (by omega)).ne (by omega)).at rfl).ne (by omega), ((((At.2.2.2.2.ne (by omega)).ne (by omega)).ne (by omega)).ne (by omega)).at rfl⟩
  -- the code
  have L2 : ∀ s7 : yS, frM (dCp p) s s7 → sI s7 177 p = 1 → sI s7 178 p = sI s 178 q → hdA p q s s7 12 → P21 (nI 12) s7 := by
    intro s7 F7 h7 f7 d7
    apply hP21
    refine ⟨fun _ => ?_, fun hz => absurd (by decide) hz⟩
    intro P167 hP167
    suffices hL : ∀ (r k : Nat) (t : yS), k + r = 4800 → frM (dCp p) s t → (∀ a i, ¬ (a = 186 ∨ a = 187 ∨ a = 193 ∨ a = 194) → sI t a i = sI s7 a i) → coA p q s t k → P167 (nI k) t from hL 4800 0 s7 (by omega) F7 (fun _ _ _ => rfl) ⟨fun j hj => by omega, fun j hj => by omega, fun j hj => by omega, fun j hj => by omega⟩
    intro r
    induction r with
    | zero =>
      intro k t hk Ft nt At
      obtain rfl : k = 4800 := by omega
      apply hP167
      refine ⟨fun _ => L3 t Ft ((nt _ _ (by omega)).trans h7) ((nt _ _ (by omega)).trans f7) ?_ At, fun hz => absurd (by decide) hz⟩
      exact ⟨d7.1.fr (fun j _ => nt _ _ (by omega)), d7.2.1.fr (fun j _ => nt _ _ (by omega)), d7.2.2.1.fr (fun j _ => nt _ _ (by omega)), d7.2.2.2.1.fr (fun j _ => nt _ _ (by omega)), d7.2.2.2.2.1.fr (fun j _ => nt _ _ (by omega)), d7.2.2.2.2.2.fr (fun j _ => nt _ _ (by omega))⟩
    | succ r ih =>
      intro k t hk Ft nt At
      have vq : vp_in (nI (4800 * q + k)) 14400 := nI_inU (by omega) (by omega)
      have vp : vp_in (nI (4800 * p + k)) 14400 := nI_inU (by omega) (by omega)
      apply hP167
      refine ⟨fun hz => absurd ((nI_leU (by omega) (by omega)).mp hz) (by omega), fun _ => ?_⟩
      rw [nI_mul, nI_mul, nI_addU, nI_addU, nI_ix (n := 4800 * q + k) (by omega), nI_ix (n := 4800 * p + k) (by omega)]
      refine ⟨vq, vp, ?_⟩
      intro t1 e1
      refine ⟨vq, vp, ?_⟩
      intro t2 e2
      refine ⟨vq, vp, ?_⟩
      intro t3 e3
      refine ⟨vq, vp, ?_⟩
      intro t4 e4 x27 e27
      subst e27; rw [nI_s]
      have G1 : frM (dCp p) s t1 := by subst e1; exact Ft.wI (by unfold dCp; omega)
      have G2 : frM (dCp p) s t2 := by subst e2; exact G1.wI (by unfold dCp; omega)
      have G3 : frM (dCp p) s t3 := by subst e3; exact G2.wI (by unfold dCp; omega)
      have G4 : frM (dCp p) s t4 := by subst e4; exact G3.wI (by unfold dCp; omega)
      have v1 : sI t 186 (4800 * q + k) = sI s 186 (4800 * q + k) := Ft.1 _ _ (by unfold dCp; omega)
      have v2 : sI t1 187 (4800 * q + k) = sI s 187 (4800 * q + k) := G1.1 _ _ (by unfold dCp; omega)
      have v3 : sI t2 193 (4800 * q + k) = sI s 193 (4800 * q + k) := G2.1 _ _ (by unfold dCp; omega)
      have v4 : sI t3 194 (4800 * q + k) = sI s 194 (4800 * q + k) := G3.1 _ _ (by unfold dCp; omega)
      refine ih (k + 1) t4 (by omega) G4 (fun a i h => ?_) ?_
      · subst e4; rw [sI_w, if_neg (by omega)]; subst e3; rw [sI_w, if_neg (by omega)]; subst e2; rw [sI_w, if_neg (by omega)]; subst e1; rw [sI_w, if_neg (by omega)]; exact nt a i h
      · rw [v1] at e1; rw [v2] at e2; rw [v3] at e3; rw [v4] at e4
        subst e4; subst e3; subst e2; subst e1
        exact ⟨(((At.1.at rfl).ne (by omega)).ne (by omega)).ne (by omega), (((At.2.1.ne (by omega)).at rfl).ne (by omega)).ne (by omega), (((At.2.2.1.ne (by omega)).ne (by omega)).at rfl).ne (by omega), (((At.2.2.2.ne (by omega)).ne (by omega)).ne (by omega)).at rfl⟩
  suffices hL : ∀ (r k : Nat) (t : yS), k + r = 12 → frM (dCp p) s t → (∀ a i, a = 177 ∨ a = 178 → sI t a i = sI s5 a i) → hdA p q s t k → P21 (nI k) t from hL 12 0 s5 (by omega) F5 (fun _ _ _ => rfl) ⟨fun j hj => by omega, fun j hj => by omega, fun j hj => by omega, fun j hj => by omega, fun j hj => by omega, fun j hj => by omega⟩
  intro r
  induction r with
  | zero =>
    intro k t hk Ft nt At
    obtain rfl : k = 12 := by omega
    exact L2 t Ft ((nt _ _ (by omega)).trans h5) ((nt _ _ (by omega)).trans f5) At
  | succ r ih =>
    intro k t hk Ft nt At
    have vq : vp_in (nI (12 * q + k)) 36 := nI_inU (by omega) (by omega)
    have vp : vp_in (nI (12 * p + k)) 36 := nI_inU (by omega) (by omega)
    apply hP21
    refine ⟨fun hz => absurd ((nI_leU (by omega) (by omega)).mp hz) (by omega), fun _ => ?_⟩
    rw [nI_mul, nI_mul, nI_addU, nI_addU, nI_ix (n := 12 * q + k) (by omega), nI_ix (n := 12 * p + k) (by omega)]
    refine ⟨vq, vp, ?_⟩
    intro t1 e1
    refine ⟨vq, vp, ?_⟩
    intro t2 e2
    refine ⟨vq, vp, ?_⟩
    intro t3 e3
    refine ⟨vq, vp, ?_⟩
    intro t4 e4
    refine ⟨vq, vp, ?_⟩
    intro t5 e5
    refine ⟨vq, vp, ?_⟩
    intro t6 e6 x27 e27
    subst e27; rw [nI_s]
    have G1 : frM (dCp p) s t1 := by subst e1; exact Ft.wI (by unfold dCp; omega)
    have G2 : frM (dCp p) s t2 := by subst e2; exact G1.wI (by unfold dCp; omega)
    have G3 : frM (dCp p) s t3 := by subst e3; exact G2.wI (by unfold dCp; omega)
    have G4 : frM (dCp p) s t4 := by subst e4; exact G3.wI (by unfold dCp; omega)
    have G5 : frM (dCp p) s t5 := by subst e5; exact G4.wI (by unfold dCp; omega)
    have G6 : frM (dCp p) s t6 := by subst e6; exact G5.wI (by unfold dCp; omega)
    have v1 : sI t 179 (12 * q + k) = sI s 179 (12 * q + k) := Ft.1 _ _ (by unfold dCp; omega)
    have v2 : sI t1 180 (12 * q + k) = sI s 180 (12 * q + k) := G1.1 _ _ (by unfold dCp; omega)
    have v3 : sI t2 181 (12 * q + k) = sI s 181 (12 * q + k) := G2.1 _ _ (by unfold dCp; omega)
    have v4 : sI t3 182 (12 * q + k) = sI s 182 (12 * q + k) := G3.1 _ _ (by unfold dCp; omega)
    have v5 : sI t4 184 (12 * q + k) = sI s 184 (12 * q + k) := G4.1 _ _ (by unfold dCp; omega)
    have v6 : sI t5 185 (12 * q + k) = sI s 185 (12 * q + k) := G5.1 _ _ (by unfold dCp; omega)
    refine ih (k + 1) t6 (by omega) G6 (fun a i h => ?_) ?_
    · subst e6; rw [sI_w, if_neg (by omega)]; subst e5; rw [sI_w, if_neg (by omega)]; subst e4; rw [sI_w, if_neg (by omega)]; subst e3; rw [sI_w, if_neg (by omega)]; subst e2; rw [sI_w, if_neg (by omega)]; subst e1; rw [sI_w, if_neg (by omega)]; exact nt a i h
    · rw [v1] at e1; rw [v2] at e2; rw [v3] at e3; rw [v4] at e4; rw [v5] at e5; rw [v6] at e6
      subst e6; subst e5; subst e4; subst e3; subst e2; subst e1
      exact ⟨(((((At.1.at rfl).ne (by omega)).ne (by omega)).ne (by omega)).ne (by omega)).ne (by omega), (((((At.2.1.ne (by omega)).at rfl).ne (by omega)).ne (by omega)).ne (by omega)).ne (by omega), (((((At.2.2.1.ne (by omega)).ne (by omega)).at rfl).ne (by omega)).ne (by omega)).ne (by omega), (((((At.2.2.2.1.ne (by omega)).ne (by omega)).ne (by omega)).at rfl).ne (by omega)).ne (by omega), (((((At.2.2.2.2.1.ne (by omega)).ne (by omega)).ne (by omega)).ne (by omega)).at rfl).ne (by omega), (((((At.2.2.2.2.2.ne (by omega)).ne (by omega)).ne (by omega)).ne (by omega)).ne (by omega)).at rfl⟩
/-- the stacks, at the reference -/
def tpM (s : yS) (q : Nat) (l : List Fn) : Prop := ∀ f, f < l.length → ∀ i, i < 400 → (sI s 193) (4800 * q + 400 * f + i) = dI (vTy l f i) ∧ (sI s 194) (4800 * q + 400 * f + i) = tI (vTy l f i)
theorem cpA.get {φ : Int32 → Int32} {N a k j : Nat} {t : yS} (h : cpA φ N p q a s t k) (hj : j < k) : sI t a (N * p + j) = φ (sI s a (N * q + j)) := h j hj
theorem nar_bI {t : Bool} : vp_nar .boolean (bI t) = bI t := by cases t <;> rfl
theorem pgM.copy {t : yS} (hok : pgOK l) (h : pgM s q l) (hf : (sI t 178) p = (sI s 178) q) (hd : hdA p q s t 12) (hc : coA p q s t 4800) (hn : hnA p q s t 72) : pgM t p l := by
  refine ⟨hf.trans h.1, fun f hfl => ?_⟩
  obtain ⟨ok1, ok2, ok3, ok4⟩ := hok
  have hfo := ok3 f hfl
  have hc400 := hfo.2.2.2.2.2.2.2.2.1
  have hh6 := hfo.2.2.2.2.2.2.2.2.2.1
  obtain ⟨q1, q2, q3, q4, q5, q6, q7, q8⟩ := h.2 f hfl
  refine ⟨(hd.1 f (by omega)).trans q1, (hd.2.1 f (by omega)).trans q2, (hd.2.2.1 f (by omega)).trans q3, (hd.2.2.2.1 f (by omega)).trans q4, (hd.2.2.2.2.1 f (by omega)).trans q5, (hd.2.2.2.2.2 f (by omega)).trans q6, fun i hi => ?_, fun i hi => ?_⟩
  · have := q7 i hi
    rw [Nat.add_assoc] at this
    rw [Nat.add_assoc]
    exact ⟨(hc.1 (400 * f + i) (by omega)).trans this.1, (hc.2.1 (400 * f + i) (by omega)).trans this.2⟩
  · have := q8 i hi
    unfold hnM at this ⊢
    rw [Nat.add_assoc] at this
    rw [Nat.add_assoc]
    refine ⟨(hn.1 (6 * f + i) (by omega)).trans this.1, (hn.2.1 (6 * f + i) (by omega)).trans this.2.1, (hn.2.2.1 (6 * f + i) (by omega)).trans this.2.2.1, ?_, (hn.2.2.2.2 (6 * f + i) (by omega)).trans this.2.2.2.2⟩
    rw [hn.2.2.2.1 (6 * f + i) (by omega), this.2.2.2.1, nar_bI]
theorem tpM.copy {t : yS} (hok : pgOK l) (h : tpM s q l) (hc : coA p q s t 4800) : tpM t p l := by
  intro f hf i hi
  have ok1 := hok.2.1
  have := h f hf i hi
  rw [Nat.add_assoc] at this
  rw [Nat.add_assoc]
  exact ⟨(hc.2.2.1 (400 * f + i) (by omega)).trans this.1, (hc.2.2.2 (400 * f + i) (by omega)).trans this.2⟩
end
