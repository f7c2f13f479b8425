def bnd {α β : Type} (x : PE α) (f : α → PE β) : PE β := match x with
  | .error e => .error e
  | .ok v => f v
theorem bnd_assoc {α β γ : Type} {x : PE α} {f : α → PE β} {g : β → PE γ} : bnd (bnd x f) g = bnd x (fun v => bnd (f v) g) := by cases x <;> rfl
section
variable {s : yS} {B : Nat → Nat} {nb : Nat}
theorem bdF_bnd {f all j : Nat} : bdF B nb f all j = bnd (bdN B nb 1 0 (if f = 0 then 0 else nI 4) j) (fun p => bnd (bdN B nb 1 p (nI 12) (j + 1)) (fun l => bnd (bdN B nb 2 0 ((1 <<< (l &&& 31)) - 1) (j + 2)) (fun b => bnd (bdN B nb 1 0 (if f = 0 then 1 else nI 2) (j + 4)) (fun r => bnd (bdN B nb 2 1 (nI 400) (j + 5)) (fun n => bnd (bdC B nb (ix l) (ix n) all (ix n) [] (j + 7)) (fun c => bnd (bdN B nb 1 0 (nI 6) c.2) (fun h => bnd (bdHs B nb (ix n) (ix h) [] (c.2 + 1)) (fun y => .ok ((ix p, ix l, ix b, ix r, c.1, y.1), y.2)))))))) ) := by
  unfold bdF
  cases bdN B nb 1 0 (if f = 0 then 0 else nI 4) j with
  | error e => rfl
  | ok p =>
    show _ = bnd (bdN B nb 1 p (nI 12) (j + 1)) _
    dsimp only
    cases bdN B nb 1 p (nI 12) (j + 1) with
    | error e => rfl
    | ok l =>
      show _ = bnd (bdN B nb 2 0 ((1 <<< (l &&& 31)) - 1) (j + 2)) _
      dsimp only
      cases bdN B nb 2 0 ((1 <<< (l &&& 31)) - 1) (j + 2) with
      | error e => rfl
      | ok b =>
        show _ = bnd (bdN B nb 1 0 (if f = 0 then 1 else nI 2) (j + 4)) _
        dsimp only
        cases bdN B nb 1 0 (if f = 0 then 1 else nI 2) (j + 4) with
        | error e => rfl
        | ok r =>
          show _ = bnd (bdN B nb 2 1 (nI 400) (j + 5)) _
          dsimp only
          cases bdN B nb 2 1 (nI 400) (j + 5) with
          | error e => rfl
          | ok n =>
            show _ = bnd (bdC B nb (ix l) (ix n) all (ix n) [] (j + 7)) _
            dsimp only
            cases bdC B nb (ix l) (ix n) all (ix n) [] (j + 7) with
            | error e => rfl
            | ok c =>
              show _ = bnd (bdN B nb 1 0 (nI 6) c.2) _
              dsimp only
              cases bdN B nb 1 0 (nI 6) c.2 with
              | error e => rfl
              | ok h =>
                show _ = bnd (bdHs B nb (ix n) (ix h) [] (c.2 + 1)) _
                dsimp only
                cases bdHs B nb (ix n) (ix h) [] (c.2 + 1) with
                | error e => rfl
                | ok y => rfl
theorem bdC_bnd {lc n all r j : Nat} {l : List (Nat × Int32)} : bdC B nb lc n all (r + 1) l j = bnd (bdI B nb lc n all j) (fun x => bdC B nb lc n all r (l ++ [x.1]) x.2) := by
  rw [bdC]
  cases bdI B nb lc n all j with
  | error e => rfl
  | ok x => rfl
theorem bdHs_bnd {n r j : Nat} {l : List Hn} : bdHs B nb n (r + 1) l j = bnd (bdH B nb n j) (fun x => bdHs B nb n r (l ++ [x.1]) x.2) := by
  rw [bdHs]
  cases bdH B nb n j with
  | error e => rfl
  | ok x => rfl
theorem bdH_bnd {n j : Nat} : bdH B nb n j = bnd (bdN B nb 2 0 (nI n - 1) j) (fun a => bnd (bdN B nb 2 (a + 1) (nI n) (j + 2)) (fun b => bnd (bdN B nb 2 0 (nI n - 1) (j + 4)) (fun c => bnd (bdN B nb 1 0 1 (j + 6)) (fun k => if k = 0 then .ok ((ix a, ix b, ix c, true, 0), j + 7) else bnd (bdN B nb 4 (-2147483648) 2147483647 (j + 7)) (fun v => .ok ((ix a, ix b, ix c, false, v), j + 11)))))) := by
  unfold bdH
  cases bdN B nb 2 0 (nI n - 1) j with
  | error e => rfl
  | ok a =>
    show _ = bnd (bdN B nb 2 (a + 1) (nI n) (j + 2)) _
    dsimp only
    cases bdN B nb 2 (a + 1) (nI n) (j + 2) with
    | error e => rfl
    | ok b =>
      show _ = bnd (bdN B nb 2 0 (nI n - 1) (j + 4)) _
      dsimp only
      cases bdN B nb 2 0 (nI n - 1) (j + 4) with
      | error e => rfl
      | ok c =>
        show _ = bnd (bdN B nb 1 0 1 (j + 6)) _
        dsimp only
        cases bdN B nb 1 0 1 (j + 6) with
        | error e => rfl
        | ok k =>
          show _ = if k = 0 then _ else _
          dsimp only
          split
          · rfl
          · cases bdN B nb 4 (-2147483648) 2147483647 (j + 7) with
            | error e => rfl
            | ok v => rfl
/-- well so far, or behind a fault -/
def rmM (s : yS) (B : Nat → Nat) (nb j : Nat) : Option (Nat × Nat) → Prop
  | none => rgM s B nb j
  | some e => rbM s e
def nxM {α : Type} (mo : Option (Nat × Nat)) (x : PE α) (v : α) (mo' : Option (Nat × Nat)) : Prop := (mo = none ∧ x = .ok v ∧ mo' = none) ∨ (∃ e, mo = none ∧ x = .error e ∧ mo' = some e) ∨ (∃ e, mo = some e ∧ mo' = some e)
def rsF {α : Type} (mo : Option (Nat × Nat)) (R x : PE α) : Prop := (mo = none → R = x) ∧ ∀ e, mo = some e → R = .error e
theorem rsF.step {α β : Type} {mo mo' : Option (Nat × Nat)} {R : PE β} {x : PE α} {f : α → PE β} {v : α} (h : rsF mo R (bnd x f)) (hn : nxM mo x v mo') : rsF mo' R (f v) := by
  rcases hn with ⟨h1, h2, h3⟩ | ⟨e, h1, h2, h3⟩ | ⟨e, h1, h2⟩
  · refine ⟨fun _ => ?_, fun e he => by rw [h3] at he; exact absurd he (by simp)⟩
    rw [h.1 h1, h2]; rfl
  · refine ⟨fun hh => by rw [h3] at hh; exact absurd hh (by simp), fun e' he => ?_⟩
    rw [h3] at he; cases he
    rw [h.1 h1, h2]; rfl
  · refine ⟨fun hh => by rw [h2] at hh; exact absurd hh (by simp), fun e' he => ?_⟩
    rw [h2] at he; cases he; exact h.2 e h1
theorem rsF.step2 {α β γ : Type} {mo mo' : Option (Nat × Nat)} {R : PE γ} {x : PE α} {f : α → PE β} {g : β → PE γ} {v : α} (h : rsF mo R (bnd (bnd x f) g)) (hn : nxM mo x v mo') : rsF mo' R (bnd (f v) g) := by
  rw [bnd_assoc] at h; exact h.step hn
theorem nxM.good {α : Type} {mo mo' : Option (Nat × Nat)} {x : PE α} {v : α} (h : nxM mo x v mo') (hm : mo' = none) : mo = none ∧ x = .ok v := by
  rcases h with ⟨h1, h2, h3⟩ | ⟨e, h1, h2, h3⟩ | ⟨e, h1, h2⟩
  · exact ⟨h1, h2⟩
  · rw [hm] at h3; exact absurd h3 (by simp)
  · rw [hm] at h2; exact absurd h2 (by simp)
theorem nxM.conv {α : Type} {mo mo' : Option (Nat × Nat)} {x y : PE α} {v : α} (h : nxM mo x v mo') (he : mo = none → x = y) : nxM mo y v mo' := by
  rcases h with ⟨h1, h2, h3⟩ | ⟨e, h1, h2, h3⟩ | ⟨e, h1, h2⟩
  · exact Or.inl ⟨h1, (he h1).symm.trans h2, h3⟩
  · exact Or.inr (Or.inl ⟨e, h1, (he h1).symm.trans h2, h3⟩)
  · exact Or.inr (Or.inr ⟨e, h1, h2⟩)
theorem rmM.fr {s' : yS} {j : Nat} {mo : Option (Nat × Nat)} (h : rmM s B nb j mo) (h1 : ∀ a i, (a = 139 ∧ (i = 2 ∨ i = 15 ∨ i = 16 ∨ i = 113)) ∨ a = 140 → sI s' a i = sI s a i) : rmM s' B nb j mo := by
  cases mo with
  | none => exact ⟨h.1.fr (h1 _ _ (by omega)) (fun i => h1 _ _ (by omega)), (h1 _ _ (by omega)).trans h.2.1, (h1 _ _ (by omega)).trans h.2.2.1, h.2.2.2.1, (h1 _ _ (by omega)).trans h.2.2.2.2⟩
  | some e => exact ⟨(h1 _ _ (by omega)).trans h.1, (h1 _ _ (by omega)).trans h.2.1, h.2.2⟩
theorem k_numAny {w j : Nat} {lo hi : Int32} {mo : Option (Nat × Nat)} {Q : Int32 → yS → Prop} (hw : w ≤ 4) (h : rmM s B nb j mo)
    (H : ∀ v s' mo', frM dNb s s' → rmM s' B nb (j + w) mo' → nxM mo (bdN B nb w lo hi j) v mo' → Q v s') : W_X12_numberNext s (nI w) lo hi Q := by
  cases mo with
  | none =>
    refine k_numberNext hw h (fun v hv s' F' g' => ?_) (fun e he v s' F' b' => ?_)
    · exact H v s' none F' g' (Or.inl ⟨rfl, hv, rfl⟩)
    · exact H v s' (some e) F' b' (Or.inr (Or.inl ⟨e, rfl, he, rfl⟩))
  | some e => exact k_numberBad hw h (fun v => H v s (some e) frM.rfl' h (Or.inr (Or.inr ⟨e, rfl, rfl⟩)))
def hnM (s : yS) (k : Nat) (h : Hn) : Prop := (sI s 188) k = nI (hF h) ∧ (sI s 189) k = nI (hT h) ∧ (sI s 190) k = nI (hG h) ∧ (sI s 191) k = bI (hA h) ∧ (sI s 192) k = hC h
def fnM (s : yS) (q f : Nat) (x : Fn) : Prop := (sI s 179) (12 * q + f) = nI (fP x) ∧ (sI s 180) (12 * q + f) = nI (fL x) ∧ (sI s 181) (12 * q + f) = nI (fB x) ∧ (sI s 182) (12 * q + f) = nI (fR x) ∧ (sI s 184) (12 * q + f) = nI (fC x).length ∧ (sI s 185) (12 * q + f) = nI (fH x).length
  ∧ (∀ (i : Nat) (h : i < (fC x).length), (sI s 186) (4800 * q + 400 * f + i) = nI (fC x)[i].1 ∧ (sI s 187) (4800 * q + 400 * f + i) = (fC x)[i].2) ∧ ∀ (i : Nat) (h : i < (fH x).length), hnM s (72 * q + 6 * f + i) (fH x)[i]
def dHd (f a i : Nat) : Prop := dNb a i ∨ ((a = 179 ∨ a = 180 ∨ a = 181 ∨ a = 182 ∨ a = 184 ∨ a = 185) ∧ i = 24 + f)
def dFu (f a i : Nat) : Prop := dHd f a i ∨ ((a = 186 ∨ a = 187) ∧ 9600 + 400 * f ≤ i ∧ i < 9600 + 400 * f + 400) ∨ (188 ≤ a ∧ a ≤ 192 ∧ 144 + 6 * f ≤ i ∧ i < 144 + 6 * f + 6)
theorem lc15 {l : Nat} (h : l ≤ 12) : nI l &&& nI 15 = nI l := by
  have : ∀ l ∈ List.range 13, nI l &&& nI 15 = nI l := by decide
  exact this l (List.mem_range.mpr (by omega))
theorem k_readFunction {f all j : Nat} {Q : yS → Prop} (hf : f < 12) (ha : 1 ≤ all) (ha2 : all ≤ 12) (h : rgM s B nb j)
    (Hok : ∀ x j', bdF B nb f all j = .ok (x, j') → ∀ s', frM (dFu f) s s' → rgM s' B nb j' → fnM s' 2 f x → Q s')
    (Herr : ∀ e, bdF B nb f all j = .error e → ∀ s', frM (dFu f) s s' → rbM s' e → Q s') : W_X12_readFunction s (nI f) (nI all) Q := by
  have hres := bdF_bnd (B := B) (nb := nb) (f := f) (all := all) (j := j)
  have hokw := fun x j' hh => bdF_ok (B := B) (nb := nb) (f := f) (x := x) (j' := j') (j := j) ha ha2 hh
  generalize bdF B nb f all j = R at hres Hok Herr hokw
  have R0 : rsF none R _ := ⟨fun _ => hres, fun e he => absurd he (by simp)⟩
  have Rend : ∀ s', (∃ x j' mo, rsF mo R (.ok (x, j')) ∧ frM (dFu f) s s' ∧ rmM s' B nb j' mo ∧ (mo = none → fnM s' 2 f x)) → Q s' := by
    rintro s' ⟨x, j', mo, hr, F', r', hx⟩
    cases mo with
    | none => exact Hok x j' (hr.1 rfl) s' F' r' (hx rfl)
    | some e => exact Herr e (hr.2 e rfl) s' F' r'
  clear Hok Herr hres
  have f0 : nI f = 0 ↔ f = 0 := nI_inj (b := 0) (by omega) (by omega)
  unfold W_X12_readFunction
  intro x1 e1
  rw [nI_addU] at e1
  subst e1
  rw [nI_ix (n := 24 + f) (by omega), f0]
  intro P22 hP22
  have hin : vp_in (nI (24 + f)) 36 := nI_inU (by omega) (by omega)
  suffices h22 : P22 (if f = 0 then 0 else nI 4) by
    by_cases c : f = 0
    · rw [if_pos c] at h22; exact ⟨fun hh => absurd c hh, fun _ => h22⟩
    · rw [if_neg c] at h22; exact ⟨fun _ => h22, fun hh => absurd hh c⟩
  apply hP22
  refine k_numAny (w := 1) (mo := none) (by omega) h (fun p s4 mo4 F4 r4 n4 => ?_)
  have R4 := R0.step n4
  refine ⟨hin, ?_⟩
  intro s6 e6
  have v6 : sI s6 179 (24 + f) = p := by subst e6; rw [sI_w, if_pos ⟨rfl, rfl⟩]
  have F6 : frM (dHd f) s s6 := by subst e6; exact (F4.mono (fun a i h => Or.inl h)).wI (Or.inr ⟨by omega, rfl⟩)
  have r6 : rmM s6 B nb (j + 1) mo4 := r4.fr (fun a i hh => by subst e6; rw [sI_w, if_neg (by omega)])
  clear e6 r4 F4
  refine ⟨hin, ?_⟩
  rw [v6]
  refine k_numAny (w := 1) (by omega) r6 (fun l s9 mo9 F9 r9 n9 => ?_)
  have R9 := R4.step n9
  refine ⟨hin, ?_⟩
  intro s11 e11
  have v11 : sI s11 180 (24 + f) = l := by subst e11; rw [sI_w, if_pos ⟨rfl, rfl⟩]
  have F11 : frM (dHd f) s s11 := by subst e11; exact (F6.trans (F9.mono (fun a i h => Or.inl h))).wI (Or.inr ⟨by omega, rfl⟩)
  have r11 : rmM s11 B nb (j + 2) mo9 := r9.fr (fun a i hh => by subst e11; rw [sI_w, if_neg (by omega)])
  have w11 : sI s11 179 (24 + f) = p := by subst e11; rw [sI_w, if_neg (by omega), F9.1 _ _ (by unfold dNb; omega)]; exact v6
  have hp : mo9 = none → p = nI (ix p) ∧ ix p ≤ 4 := fun hm => by
    have := n4.good (n9.good hm).1
    by_cases c : f = 0
    · rw [if_pos c] at this
      have := bdN_nat (lo := 0) (hi := 0) (by omega) (by omega) this.2
      exact ⟨this.1, by omega⟩
    · rw [if_neg c] at this
      have := bdN_nat (lo := 0) (hi := 4) (by omega) (by omega) this.2
      exact ⟨this.1, by omega⟩
  have hl : mo9 = none → l = nI (ix l) ∧ ix l ≤ 12 := fun hm => by
    have h1 := (n9.good hm).2
    have h2 := hp hm
    rw [h2.1] at h1
    have := bdN_nat (by omega) (by omega) h1
    exact ⟨this.1, this.2.2⟩
  clear e11 r9 F9 r6 F6 v6 R4 R0 n9 n4
  refine ⟨hin, ?_⟩
  rw [v11]
  refine k_numAny (w := 2) (by omega) r11 (fun b s14 mo14 F14 r14 n14 => ?_)
  have n14 := n14.conv (y := bdN B nb 2 0 ((1 <<< (l &&& 31)) - 1) (j + 2)) (fun hm => by have := hl hm; rw [show l &&& nI 15 = l by rw [this.1]; exact lc15 this.2])
  have R14 := R9.step n14
  refine ⟨hin, ?_⟩
  intro s16 e16
  have v16 : sI s16 181 (24 + f) = b := by subst e16; rw [sI_w, if_pos ⟨rfl, rfl⟩]
  have F16 : frM (dHd f) s s16 := by subst e16; exact (F11.trans (F14.mono (fun a i h => Or.inl h))).wI (Or.inr ⟨by omega, rfl⟩)
  have r16 : rmM s16 B nb (j + 4) mo14 := r14.fr (fun a i hh => by subst e16; rw [sI_w, if_neg (by omega)])
  have w16 : sI s16 179 (24 + f) = p ∧ sI s16 180 (24 + f) = l := by
    refine ⟨?_, ?_⟩
    · subst e16; rw [sI_w, if_neg (by omega), F14.1 _ _ (by unfold dNb; omega)]; exact w11
    · subst e16; rw [sI_w, if_neg (by omega), F14.1 _ _ (by unfold dNb; omega)]; exact v11
  have hb : mo14 = none → b = nI (ix b) := fun hm => by
    have h0 := n14.good hm
    have h2 := hl h0.1
    have h1 := h0.2
    rw [show (1 <<< (l &&& 31)) - 1 = nI (2 ^ ix l - 1) by have := shl_m1 h2.2; rw [← h2.1] at this; exact this] at h1
    have hpow : 2 ^ ix l ≤ 4096 := by
      have : 2 ^ ix l ≤ 2 ^ 12 := Nat.pow_le_pow_right (by omega) h2.2
      omega
    exact (bdN_nat (lo := 0) (by omega) (by omega) h1).1
  have hl14 : mo14 = none → (p = nI (ix p) ∧ ix p ≤ 4) ∧ l = nI (ix l) ∧ ix l ≤ 12 := fun hm => ⟨hp (n14.good hm).1, hl (n14.good hm).1⟩
  clear e16 r14 F14 r11 F11 v11 w11 R9 n14 hp hl
  intro P87 hP87
  suffices h87 : P87 (if f = 0 then 1 else nI 2) by
    by_cases c : f = 0
    · rw [if_pos c] at h87; exact ⟨fun hh => absurd c hh, fun _ => h87⟩
    · rw [if_neg c] at h87; exact ⟨fun _ => h87, fun hh => absurd hh c⟩
  apply hP87
  refine k_numAny (w := 1) (by omega) r16 (fun r s19 mo19 F19 r19 n19 => ?_)
  have R19 := R14.step n19
  refine ⟨hin, ?_⟩
  intro s21 e21
  have v21 : sI s21 182 (24 + f) = r := by subst e21; rw [sI_w, if_pos ⟨rfl, rfl⟩]
  have F21 : frM (dHd f) s s21 := by subst e21; exact (F16.trans (F19.mono (fun a i h => Or.inl h))).wI (Or.inr ⟨by omega, rfl⟩)
  have r21 : rmM s21 B nb (j + 5) mo19 := r19.fr (fun a i hh => by subst e21; rw [sI_w, if_neg (by omega)])
  have G21 : ∀ a, a = 179 ∨ a = 180 ∨ a = 181 → sI s21 a (24 + f) = sI s16 a (24 + f) := fun a ha => by subst e21; rw [sI_w, if_neg (by omega), F19.1 _ _ (by unfold dNb; omega)]
  have hr : mo19 = none → r = nI (ix r) := fun hm => by
    have := n19.good hm
    by_cases c : f = 0
    · rw [if_pos c] at this
      exact (bdN_nat (lo := 0) (hi := 1) (by omega) (by omega) this.2).1
    · rw [if_neg c] at this
      exact (bdN_nat (lo := 0) (hi := 2) (by omega) (by omega) this.2).1
  have m19 : mo19 = none → mo14 = none := fun hm => (n19.good hm).1
  clear e21 r19 F19 r16 F16 R14 n19
  refine k_numAny (w := 2) (lo := 1) (by omega) r21 (fun n s23 mo23 F23 r23 n23 => ?_)
  have R23 := R19.step n23
  refine ⟨hin, ?_⟩
  intro s25 e25
  have v25 : sI s25 184 (24 + f) = n := by subst e25; rw [sI_w, if_pos ⟨rfl, rfl⟩]
  have F25 : frM (dHd f) s s25 := by subst e25; exact (F21.trans (F23.mono (fun a i h => Or.inl h))).wI (Or.inr ⟨by omega, rfl⟩)
  have r25 : rmM s25 B nb (j + 7) mo23 := r23.fr (fun a i hh => by subst e25; rw [sI_w, if_neg (by omega)])
  have G25 : ∀ a, a = 179 ∨ a = 180 ∨ a = 181 ∨ a = 182 → sI s25 a (24 + f) = sI s21 a (24 + f) := fun a ha => by subst e25; rw [sI_w, if_neg (by omega), F23.1 _ _ (by unfold dNb; omega)]
  have hn : mo23 = none → n = nI (ix n) ∧ 1 ≤ ix n ∧ ix n ≤ 400 := fun hm => bdN_nat (lo := 1) (hi := 400) (by omega) (by omega) (n23.good hm).2
  have m23 : mo23 = none → mo19 = none := fun hm => (n23.good hm).1
  -- the head, if it is right
  have hd25 : mo23 = none → sI s25 179 (24 + f) = nI (ix p) ∧ sI s25 180 (24 + f) = nI (ix l) ∧ ix l ≤ 12 ∧ sI s25 181 (24 + f) = nI (ix b) ∧ sI s25 182 (24 + f) = nI (ix r) := fun hm => by
    have a1 := m23 hm
    have a2 := m19 a1
    have a3 := hl14 a2
    refine ⟨?_, ?_, a3.2.2, ?_, ?_⟩
    · rw [G25 _ (by omega), G21 _ (by omega), w16.1]; exact a3.1.1
    · rw [G25 _ (by omega), G21 _ (by omega), w16.2]; exact a3.2.1
    · rw [G25 _ (by omega), G21 _ (by omega), v16]; exact hb a2
    · rw [G25 _ (by omega), v21]; exact hr a1
  clear e25 r23 F23 r21 F21 R19 n23 G25 G21 v21 v16 w16 hl14 hb hr m19 m23
  intro P109 hP109
  -- the handlers
  have hP147 : ∀ (mo : Option (Nat × Nat)) (cc : List (Nat × Int32) × Nat) (x26 : Int32) (s27 : yS), rsF mo R (bnd (bdN B nb 1 0 (nI 6) cc.2) (fun h => bnd (bdHs B nb (ix n) (ix h) [] (cc.2 + 1)) (fun y => .ok ((ix p, ix l, ix b, ix r, cc.1, y.1), y.2)))) → frM (dFu f) s s27 → rmM s27 B nb cc.2 mo → (∀ a, a = 179 ∨ a = 180 ∨ a = 181 ∨ a = 182 ∨ a = 184 → sI s27 a (24 + f) = sI s25 a (24 + f)) → (mo = none → mo23 = none ∧ cc.1.length = ix n ∧ ∀ (i : Nat) (h : i < cc.1.length), sI s27 186 (9600 + 400 * f + i) = nI cc.1[i].1 ∧ sI s27 187 (9600 + 400 * f + i) = cc.1[i].2) → ∀ P147 : Prop, ((W_X12_numberNext s27 1 0 (nI 6) 
     (fun r29 s30 => vp_in (nI (24 + f)) 36 ∧ ∀ s32 : yS, s32 = wI s30 185 (24 + f) r29 → 
     ∀ P164 : Int32 → yS → Prop, (∀ (x33 : Int32) (s34 : yS), (vp_in (nI (24 + f)) 36 ∧ 
      (((sI s34 185 (24 + f)) ≤ x33 → Q s34)
      ∧ (¬ (sI s34 185 (24 + f)) ≤ x33 → ((¬ (sI s34 139 15) = 0 → Q s34)
       ∧ ((sI s34 139 15) = 0 → ∀ x36 : Int32, x36 = (((nI 144) + ((nI 6) * (nI f))) + x33) → 
        vp_in (nI (24 + f)) 36 ∧ 
        W_X12_numberNext s34 (nI 2) 0 ((sI s34 184 (24 + f)) - 1) 
        (fun r38 s39 => vp_in x36 216 ∧ ∀ s41 : yS, s41 = wI s39 188 (ix x36) r38 → 
        vp_in x36 216 ∧ 
        vp_in (nI (24 + f)) 36 ∧ 
        W_X12_numberNext s41 (nI 2) ((sI s41 188 (ix x36)) + 1) (sI s41 184 (24 + f)) 
        (fun r44 s45 => vp_in x36 216 ∧ ∀ s47 : yS, s47 = wI s45 189 (ix x36) r44 → 
        vp_in (nI (24 + f)) 36 ∧ 
        W_X12_numberNext s47 (nI 2) 0 ((sI s47 184 (24 + f)) - 1) 
        (fun r49 s50 => vp_in x36 216 ∧ ∀ s52 : yS, s52 = wI s50 190 (ix x36) r49 → 
        W_X12_numberNext s52 1 0 1 
        (fun r53 s54 => ∀ P285 : Int32 → Prop, (∀ (y55 : Int32), (vp_in x36 216 ∧ ∀ s57 : yS, s57 = wI s54 191 (ix x36) (vp_nar .boolean y55) → 
         vp_in x36 216 ∧ 
         ∀ P317 : Int32 → yS → Prop, (∀ (y59 : Int32) (s60 : yS), (vp_in x36 216 ∧ ∀ s62 : yS, s62 = wI s60 192 (ix x36) y59 → 
          ∀ x63 : Int32, x63 = (x33 + 1) → 
          P164 x63 s62) → P317 y59 s60) → 
         (((sI s57 191 (ix x36)) = 0 → W_X12_numberNext s57 (nI 4) ((-2147483648)) ((2147483647)) 
          (fun r64 s65 => P317 r64 s65))
         ∧ (¬ (sI s57 191 (ix x36)) = 0 → P317 0 s57))) → P285 y55) → 
        ((¬ r53 = 0 → P285 0)
        ∧ (r53 = 0 → P285 1))))))))))) → P164 x33 s34) → 
     P164 0 s32)) → P147) → P147 := by
    intro mo cc x26 s27 R27 F27 r27 G27 c27' P147 hP147
    apply hP147
    refine k_numAny (w := 1) (lo := 0) (by omega) r27 (fun hh s30 mo30 F30 r30 n30 => ?_)
    have R30 := R27.step n30
    refine ⟨hin, ?_⟩
    intro s32 e32
    have v32 : sI s32 185 (24 + f) = hh := by subst e32; rw [sI_w, if_pos ⟨rfl, rfl⟩]
    have F32 : frM (dFu f) s s32 := by subst e32; exact (F27.trans (F30.mono (fun a i h => Or.inl (Or.inl h)))).wI (Or.inl (Or.inr ⟨by omega, rfl⟩))
    have r32 : rmM s32 B nb (cc.2 + 1) mo30 := r30.fr (fun a i hh => by subst e32; rw [sI_w, if_neg (by omega)])
    have G32 : ∀ a i, ¬ dNb a i → ¬ (a = 185 ∧ i = 24 + f) → sI s32 a i = sI s27 a i := fun a i h1 h2 => by subst e32; rw [sI_w, if_neg h2]; exact F30.1 a i h1
    have hhn : mo30 = none → hh = nI (ix hh) ∧ ix hh ≤ 6 := fun hm => by
      have := bdN_nat (lo := 0) (hi := 6) (by omega) (by omega) (n30.good hm).2
      exact ⟨this.1, this.2.2⟩
    have m30 : mo30 = none → mo = none := fun hm => (n30.good hm).1
    clear e32 r30 F30 r27 R27 n30
    intro P164 hP164
    -- the end of a function
    have fin : ∀ (mo : Option (Nat × Nat)) (y : List Hn × Nat) (s34 : yS), rsF mo R (.ok ((ix p, ix l, ix b, ix r, cc.1, y.1), y.2)) → frM (fun a i => dNb a i ∨ (188 ≤ a ∧ a ≤ 192 ∧ 144 + 6 * f ≤ i ∧ i < 144 + 6 * f + 6)) s32 s34 → rmM s34 B nb y.2 mo → (mo = none → mo30 = none ∧ y.1.length = ix hh ∧ ∀ (i : Nat) (h : i < y.1.length), hnM s34 (144 + 6 * f + i) y.1[i]) → Q s34 := by
      intro mo' y s34 R34 F34 r34 y34
      refine Rend s34 ⟨(ix p, ix l, ix b, ix r, cc.1, y.1), y.2, mo', R34, F32.trans (F34.mono (fun a i h => h.elim (fun h => Or.inl (Or.inl h)) (fun h => Or.inr (Or.inr h)))), r34, fun hm => ?_⟩
      obtain ⟨hm30, hyl, hyv⟩ := y34 hm
      have c27 := c27' (m30 hm30)
      have hd := hd25 c27.1
      have hhv := hhn hm30
      have K : ∀ a, a = 179 ∨ a = 180 ∨ a = 181 ∨ a = 182 ∨ a = 184 → sI s34 a (24 + f) = sI s25 a (24 + f) := fun a ha => by
        rw [F34.1 _ _ (by unfold dNb; omega), G32 _ _ (by unfold dNb; omega) (by omega)]; exact G27 a ha
      refine ⟨(K _ (by omega)).trans hd.1, (K _ (by omega)).trans hd.2.1, (K _ (by omega)).trans hd.2.2.2.1, (K _ (by omega)).trans hd.2.2.2.2, ?_, ?_, fun i hi => ?_, fun i hi => ?_⟩
      · show sI s34 184 (24 + f) = nI cc.1.length
        rw [K 184 (by omega), v25, c27.2.1]; exact (hn c27.1).1
      · show sI s34 185 (24 + f) = nI y.1.length
        rw [F34.1 _ _ (by unfold dNb; omega), v32, hyl]; exact hhv.1
      · have := c27.2.2 i hi
        have hlt : i < 400 := by have h1 : cc.1.length = ix n := c27.2.1; have h2 := (hn c27.1).2.2; have h3 : i < cc.1.length := hi; omega
        refine ⟨?_, ?_⟩
        · show sI s34 186 (9600 + 400 * f + i) = _
          rw [F34.1 _ _ (by unfold dNb; omega), G32 _ _ (by unfold dNb; omega) (by omega)]; exact this.1
        · show sI s34 187 (9600 + 400 * f + i) = _
          rw [F34.1 _ _ (by unfold dNb; omega), G32 _ _ (by unfold dNb; omega) (by omega)]; exact this.2
      · exact hyv i hi
    -- behind a fault
    have bad : ∀ (e : Nat × Nat) (x33 : Int32) (s34 : yS), R = .error e → frM (fun a i => dNb a i ∨ (188 ≤ a ∧ a ≤ 192 ∧ 144 + 6 * f ≤ i ∧ i < 144 + 6 * f + 6)) s32 s34 → rbM s34 e → P164 x33 s34 := by
      intro e x33 s34 he F34 b34
      apply hP164
      have : Q s34 := fin (some e) ([], 0) s34 ⟨fun hm => absurd hm (by simp), fun e' he' => by cases he'; exact he⟩ F34 b34 (fun hm => absurd hm (by simp))
      exact ⟨hin, fun _ => this, fun _ => ⟨fun _ => this, fun hz => absurd hz (rb_pos b34).2⟩⟩
    cases hmo : mo30 with
    | some e =>
      subst hmo
      exact bad e 0 s32 (R30.2 e rfl) frM.rfl' r32
    | none =>
      subst hmo
      have hhv := hhn rfl
      have c27 := c27' (m30 rfl)
      have hnv := hn c27.1
      have RR := R30.1 rfl
      suffices hLp : ∀ (q i : Nat) (lst : List Hn) (jj : Nat) (s34 : yS), i + q = ix hh → lst.length = i → frM (fun a i => dNb a i ∨ (188 ≤ a ∧ a ≤ 192 ∧ 144 + 6 * f ≤ i ∧ i < 144 + 6 * f + 6)) s32 s34 → rgM s34 B nb jj → (∀ (k : Nat) (h : k < lst.length), hnM s34 (144 + 6 * f + k) lst[k]) → R = bnd (bdHs B nb (ix n) q lst jj) (fun y => .ok ((ix p, ix l, ix b, ix r, cc.1, y.1), y.2)) → P164 (nI i) s34 from
        hLp (ix hh) 0 [] (cc.2 + 1) s32 (by omega) rfl frM.rfl' r32 (fun k hk => by simp at hk) RR
      intro q
      induction q with
      | zero =>
        intro i lst jj s34 hi hll F34 g34 h34 RRi
        apply hP164
        have v34 : sI s34 185 (24 + f) = nI (ix hh) := by rw [F34.1 _ _ (by unfold dNb; omega), v32]; exact hhv.1
        rw [v34, nI_leU (by omega) (by omega)]
        refine ⟨hin, fun _ => ?_, fun hz => absurd (by omega) hz⟩
        exact fin none (lst, jj) s34 ⟨fun _ => RRi, fun e he => absurd he (by simp)⟩ F34 g34 (fun _ => ⟨rfl, by show lst.length = _; omega, h34⟩)
      | succ q ih =>
        intro i lst jj s34 hi hll F34 g34 h34 RRi
        rw [bdHs_bnd] at RRi
        apply hP164
        have v34 : sI s34 185 (24 + f) = nI (ix hh) := by rw [F34.1 _ _ (by unfold dNb; omega), v32]; exact hhv.1
        have z34 : sI s34 184 (24 + f) = nI (ix n) := by rw [F34.1 _ _ (by unfold dNb; omega), G32 _ _ (by unfold dNb; omega) (by omega), G27 _ (by omega), v25]; exact hnv.1
        rw [v34, nI_leU (by omega) (by omega), g34.2.1, z34]
        refine ⟨hin, fun hz => absurd hz (by omega), fun _ => ⟨fun hz => absurd rfl hz, fun _ => ?_⟩⟩
        rw [nI_mul, nI_addU, nI_addU]
        intro x36 e36
        subst e36
        rw [nI_ix (n := 144 + 6 * f + i) (by omega)]
        have hin2 : vp_in (nI (144 + 6 * f + i)) 216 := nI_inU (by omega) (by omega)
        refine ⟨hin, ?_⟩
        rw [bnd_assoc, bdH_bnd] at RRi
        have R0 : rsF none R _ := ⟨fun _ => RRi, fun e he => absurd he (by simp)⟩
        have D34 : ∀ (u : yS) (D : Nat → Nat → Prop), frM D s34 u → (∀ a i', D a i' → dNb a i' ∨ (188 ≤ a ∧ a ≤ 192 ∧ i' = 144 + 6 * f + i)) → frM (fun a i => dNb a i ∨ (188 ≤ a ∧ a ≤ 192 ∧ 144 + 6 * f ≤ i ∧ i < 144 + 6 * f + 6)) s32 u := fun u D h hd => F34.trans (h.mono (fun a i' hh => (hd a i' hh).elim Or.inl (fun h3 => Or.inr ⟨h3.1, h3.2.1, by omega, by omega⟩)))
        refine k_numAny (w := 2) (lo := 0) (mo := none) (by omega) g34 (fun va s39 mo39 F39 r39 n39 => ?_)
        have R39 := R0.step2 n39
        refine ⟨hin2, ?_⟩
        intro s41 e41
        have v41 : sI s41 188 (144 + 6 * f + i) = va := by subst e41; rw [sI_w, if_pos ⟨rfl, rfl⟩]
        have F41 : frM (fun a i' => dNb a i' ∨ (188 ≤ a ∧ a ≤ 192 ∧ i' = 144 + 6 * f + i)) s34 s41 := by subst e41; exact (F39.mono (fun a i h => Or.inl h)).wI (Or.inr ⟨by omega, by omega, rfl⟩)
        have r41 : rmM s41 B nb (jj + 2) mo39 := r39.fr (fun a i hh => by subst e41; rw [sI_w, if_neg (by omega)])
        have hva : mo39 = none → va = nI (ix va) ∧ ix va < 400 := fun hm => by
          have h1 := (n39.good hm).2
          rw [nI_p (by omega)] at h1
          have := bdN_nat (lo := 0) (by omega) (by omega) h1
          exact ⟨this.1, by omega⟩
        clear e41 r39 F39 R0 n39
        have z41 : sI s41 184 (24 + f) = nI (ix n) := by rw [F41.1 _ _ (by unfold dNb; omega)]; exact z34
        refine ⟨hin2, hin, ?_⟩
        rw [v41, z41]
        refine k_numAny (w := 2) (by omega) r41 (fun vb s45 mo45 F45 r45 n45 => ?_)
        have R45 := R39.step2 n45
        refine ⟨hin2, ?_⟩
        intro s47 e47
        have v47 : sI s47 189 (144 + 6 * f + i) = vb := by subst e47; rw [sI_w, if_pos ⟨rfl, rfl⟩]
        have v47a : sI s47 188 (144 + 6 * f + i) = va := by subst e47; rw [sI_w, if_neg (by omega), F45.1 _ _ (by unfold dNb; omega)]; exact v41
        have F47 : frM (fun a i' => dNb a i' ∨ (188 ≤ a ∧ a ≤ 192 ∧ i' = 144 + 6 * f + i)) s34 s47 := by subst e47; exact (F41.trans (F45.mono (fun a i h => Or.inl h))).wI (Or.inr ⟨by omega, by omega, rfl⟩)
        have r47 : rmM s47 B nb (jj + 4) mo45 := r45.fr (fun a i hh => by subst e47; rw [sI_w, if_neg (by omega)])
        have hvb : mo45 = none → va = nI (ix va) ∧ vb = nI (ix vb) := fun hm => by
          have h0 := n45.good hm
          have h1 := hva h0.1
          have h2 := h0.2
          rw [h1.1, nI_s] at h2
          exact ⟨h1.1, (bdN_nat (by omega) (by omega) h2).1⟩
        clear e47 r45 F45 R39 n45 hva r41
        have z47 : sI s47 184 (24 + f) = nI (ix n) := by rw [F47.1 _ _ (by unfold dNb; omega)]; exact z34
        refine ⟨hin, ?_⟩
        rw [z47]
        refine k_numAny (w := 2) (lo := 0) (by omega) r47 (fun vc s50 mo50 F50 r50 n50 => ?_)
        have R50 := R45.step2 n50
        refine ⟨hin2, ?_⟩
        intro s52 e52
        have v52 : sI s52 190 (144 + 6 * f + i) = vc := by subst e52; rw [sI_w, if_pos ⟨rfl, rfl⟩]
        have G52 : ∀ a, a = 188 ∨ a = 189 → sI s52 a (144 + 6 * f + i) = sI s47 a (144 + 6 * f + i) := fun a ha => by subst e52; rw [sI_w, if_neg (by omega), F50.1 _ _ (by unfold dNb; omega)]
        have F52 : frM (fun a i' => dNb a i' ∨ (188 ≤ a ∧ a ≤ 192 ∧ i' = 144 + 6 * f + i)) s34 s52 := by subst e52; exact (F47.trans (F50.mono (fun a i h => Or.inl h))).wI (Or.inr ⟨by omega, by omega, rfl⟩)
        have r52 : rmM s52 B nb (jj + 6) mo50 := r50.fr (fun a i hh => by subst e52; rw [sI_w, if_neg (by omega)])
        have hvc : mo50 = none → va = nI (ix va) ∧ vb = nI (ix vb) ∧ vc = nI (ix vc) := fun hm => by
          have h0 := n50.good hm
          have h1 := h0.2
          rw [nI_p (by omega)] at h1
          have h3 := hvb h0.1
          exact ⟨h3.1, h3.2, (bdN_nat (lo := 0) (by omega) (by omega) h1).1⟩
        clear e52 r50 F50 R45 n50 hvb r47
        refine k_numAny (w := 1) (lo := 0) (hi := 1) (by omega) r52 (fun vk s54 mo54 F54 r54 n54 => ?_)
        have R54 := R50.step2 n54
        have hvk : mo54 = none → (va = nI (ix va) ∧ vb = nI (ix vb) ∧ vc = nI (ix vc)) ∧ (vk = 0 ∨ vk = 1) := fun hm => by
          have h0 := n54.good hm
          have := bdN_nat (lo := 0) (hi := 1) (by omega) (by omega) h0.2
          refine ⟨hvc h0.1, ?_⟩
          by_cases c : ix vk = 0
          · left; rw [this.1, c]; rfl
          · right; rw [this.1, show ix vk = 1 by omega]; rfl
        have F54' : frM (fun a i' => dNb a i' ∨ (188 ≤ a ∧ a ≤ 192 ∧ i' = 144 + 6 * f + i)) s34 s54 := F52.trans (F54.mono (fun a i h => Or.inl h))
        have G54 : ∀ a, a = 188 ∨ a = 189 ∨ a = 190 → sI s54 a (144 + 6 * f + i) = sI s52 a (144 + 6 * f + i) := fun a ha => F54.1 _ _ (by unfold dNb; omega)
        clear R50 n54 hvc r52
        intro P285 hP285
        have go : ∀ bo : Bool, (mo54 = none → (vk = 0 ↔ bo = true)) → P285 (bI bo) := by
          intro bo hbo
          apply hP285
          refine ⟨hin2, ?_⟩
          have hnb : vp_nar .boolean (bI bo) = bI bo := by cases bo <;> rfl
          rw [hnb]
          intro s57 e57
          have v57 : sI s57 191 (144 + 6 * f + i) = bI bo := by subst e57; rw [sI_w, if_pos ⟨rfl, rfl⟩]
          have F57 : frM (fun a i' => dNb a i' ∨ (188 ≤ a ∧ a ≤ 192 ∧ i' = 144 + 6 * f + i)) s34 s57 := by subst e57; exact F54'.wI (Or.inr ⟨by omega, by omega, rfl⟩)
          have G57 : ∀ a, a = 188 ∨ a = 189 ∨ a = 190 → sI s57 a (144 + 6 * f + i) = sI s54 a (144 + 6 * f + i) := fun a ha => by subst e57; rw [sI_w, if_neg (by omega)]
          have r57 : rmM s57 B nb (jj + 7) mo54 := r54.fr (fun a i hh => by subst e57; rw [sI_w, if_neg (by omega)])
          clear e57
          refine ⟨hin2, ?_⟩
          rw [v57]
          intro P317 hP317
          -- to the next handler
          have nxt : ∀ (y59 : Int32) (jn : Nat) (mo : Option (Nat × Nat)) (s60 : yS), frM dNb s57 s60 → rmM s60 B nb jn mo → rsF mo R (bnd (.ok ((ix va, ix vb, ix vc, bo, y59), jn)) (fun x => bnd (bdHs B nb (ix n) q (lst ++ [x.1]) x.2) (fun y => .ok ((ix p, ix l, ix b, ix r, cc.1, y.1), y.2)))) → (mo = none → mo54 = none) → P317 y59 s60 := by
            intro y59 jn mo s60 F60 r60 R60 hm60
            apply hP317
            refine ⟨hin2, ?_⟩
            intro s62 e62 x63 e63
            have F62 : frM (fun a i' => dNb a i' ∨ (188 ≤ a ∧ a ≤ 192 ∧ i' = 144 + 6 * f + i)) s34 s62 := by subst e62; exact (F57.trans (F60.mono (fun a i h => Or.inl h))).wI (Or.inr ⟨by omega, by omega, rfl⟩)
            have r62 : rmM s62 B nb jn mo := r60.fr (fun a i hh => by subst e62; rw [sI_w, if_neg (by omega)])
            subst e63; rw [nI_s]
            cases hmo : mo with
            | some e =>
              subst hmo
              exact bad e _ s62 (R60.2 e rfl) (D34 s62 _ F62 (fun a i' h => h)) r62
            | none =>
              subst hmo
              have hm54 := hm60 rfl
              have hv3 := (hvk hm54).1
              refine ih (i + 1) (lst ++ [(ix va, ix vb, ix vc, bo, y59)]) jn s62 (by omega) (by rw [List.length_append, hll]; rfl) (D34 s62 _ F62 (fun a i' h => h)) r62 (fun k hk => ?_) (R60.1 rfl)
              by_cases ck : k = i
              · subst ck
                rw [List.getElem_append_right (by omega)]
                simp only [hll, Nat.sub_self, List.getElem_cons_zero]
                have K : ∀ a, a = 188 ∨ a = 189 ∨ a = 190 ∨ a = 191 → sI s62 a (144 + 6 * f + k) = sI s57 a (144 + 6 * f + k) := fun a ha => by subst e62; rw [sI_w, if_neg (by omega)]; exact F60.1 _ _ (by unfold dNb; omega)
                refine ⟨?_, ?_, ?_, ?_, ?_⟩
                · rw [K _ (by omega), G57 _ (by omega), G54 _ (by omega), G52 _ (by omega), v47a]; exact hv3.1
                · rw [K _ (by omega), G57 _ (by omega), G54 _ (by omega), G52 _ (by omega), v47]; exact hv3.2.1
                · rw [K _ (by omega), G57 _ (by omega), G54 _ (by omega), v52]; exact hv3.2.2
                · rw [K _ (by omega), v57]; rfl
                · subst e62; rw [sI_w, if_pos ⟨rfl, rfl⟩]; rfl
              · have hk' : k < lst.length := by rw [List.length_append] at hk; simp at hk; omega
                rw [List.getElem_append_left hk']
                have := h34 k hk'
                have K : ∀ a, 188 ≤ a → a ≤ 192 → sI s62 a (144 + 6 * f + k) = sI s34 a (144 + 6 * f + k) := fun a h1 h2 => F62.1 _ _ (by unfold dNb; omega)
                exact ⟨(K _ (by omega) (by omega)).trans this.1, (K _ (by omega) (by omega)).trans this.2.1, (K _ (by omega) (by omega)).trans this.2.2.1, (K _ (by omega) (by omega)).trans this.2.2.2.1, (K _ (by omega) (by omega)).trans this.2.2.2.2⟩
          cases bo with
          | true =>
            refine ⟨fun hz => absurd hz (by decide), fun _ => ?_⟩
            refine nxt 0 (jj + 7) mo54 s57 frM.rfl' r57 ⟨fun hm => ?_, R54.2⟩ (fun hm => hm)
            have := R54.1 hm
            rw [if_pos ((hbo hm).mpr rfl)] at this; exact this
          | false =>
            refine ⟨fun _ => ?_, fun hz => absurd rfl hz⟩
            have R54' : rsF mo54 R (bnd (bnd (bdN B nb 4 (-2147483648) 2147483647 (jj + 7)) (fun v => .ok ((ix va, ix vb, ix vc, false, v), jj + 11))) (fun x => bnd (bdHs B nb (ix n) q (lst ++ [x.1]) x.2) (fun y => .ok ((ix p, ix l, ix b, ix r, cc.1, y.1), y.2)))) := ⟨fun hm => by
              have := R54.1 hm
              rw [if_neg (fun h0 => absurd ((hbo hm).mp h0) (by decide))] at this; exact this, R54.2⟩
            refine k_numAny (w := 4) (by omega) r57 (fun v s65 mo65 F65 r65 n65 => ?_)
            exact nxt v (jj + 11) mo65 s65 F65 r65 (R54'.step2 n65) (fun hm => (n65.good hm).1)
        refine ⟨fun hne => go false (fun hm => ⟨fun h0 => absurd h0 hne, fun hh => absurd hh (by decide)⟩), fun he => go true (fun hm => ⟨fun _ => rfl, fun _ => he⟩)⟩
  -- the instructions
  have badI : ∀ (e : Nat × Nat) (x26 : Int32) (s27 : yS), R = .error e → frM (dFu f) s s27 → rbM s27 e → (∀ a, a = 179 ∨ a = 180 ∨ a = 181 ∨ a = 182 ∨ a = 184 → sI s27 a (24 + f) = sI s25 a (24 + f)) → P109 x26 s27 := by
    intro e x26 s27 he F27 b27 G27
    apply hP109
    refine ⟨hin, ?_⟩
    intro P147 h147
    have : P147 := hP147 (some e) ([], 0) x26 s27 ⟨fun hm => absurd hm (by simp), fun e' he' => by cases he'; exact he⟩ F27 b27 G27 (fun hm => absurd hm (by simp)) P147 h147
    exact ⟨fun _ => this, fun _ => ⟨fun _ => this, fun hz => absurd hz (rb_pos b27).2⟩⟩
  cases hmo : mo23 with
  | some e =>
    subst hmo
    exact badI e 0 s25 (R23.2 e rfl) (F25.mono (fun a i h => Or.inl h)) r25 (fun _ _ => rfl)
  | none =>
    subst hmo
    have hnv := hn rfl
    have hd := hd25 rfl
    have RR := R23.1 rfl
    suffices hLp : ∀ (q i : Nat) (lst : List (Nat × Int32)) (jj : Nat) (s27 : yS), i + q = ix n → lst.length = i → frM (dFu f) s s27 → rgM s27 B nb jj → (∀ a, a = 179 ∨ a = 180 ∨ a = 181 ∨ a = 182 ∨ a = 184 → sI s27 a (24 + f) = sI s25 a (24 + f)) → (∀ (k : Nat) (h : k < lst.length), sI s27 186 (9600 + 400 * f + k) = nI lst[k].1 ∧ sI s27 187 (9600 + 400 * f + k) = lst[k].2) → R = bnd (bdC B nb (ix l) (ix n) all q lst jj) (fun c => bnd (bdN B nb 1 0 (nI 6) c.2) (fun h => bnd (bdHs B nb (ix n) (ix h) [] (c.2 + 1)) (fun y => .ok ((ix p, ix l, ix b, ix r, c.1, y.1), y.2)))) → P109 (nI i) s27 from
      hLp (ix n) 0 [] (j + 7) s25 (by omega) rfl (F25.mono (fun a i h => Or.inl h)) r25 (fun _ _ => rfl) (fun k hk => by simp at hk) RR
    intro q
    induction q with
    | zero =>
      intro i lst jj s27 hi hll F27 g27 G27 c27 RRi
      apply hP109
      refine ⟨hin, ?_⟩
      intro P147 h147
      have : P147 := hP147 none (lst, jj) 0 s27 ⟨fun _ => RRi, fun e he => absurd he (by simp)⟩ F27 g27 G27 (fun _ => ⟨rfl, by show lst.length = _; omega, c27⟩) P147 h147
      rw [G27 184 (by omega), v25, hnv.1, nI_leU (by omega) (by omega)]
      exact ⟨fun _ => this, fun hz => absurd (by omega) hz⟩
    | succ q ih =>
      intro i lst jj s27 hi hll F27 g27 G27 c27 RRi
      rw [bdC_bnd, bnd_assoc] at RRi
      apply hP109
      refine ⟨hin, ?_⟩
      intro P147 h147
      have z27 : sI s27 184 (24 + f) = nI (ix n) := by rw [G27 184 (by omega), v25]; exact hnv.1
      rw [z27, nI_leU (by omega) (by omega), g27.2.1]
      refine ⟨fun hz => absurd hz (by omega), fun _ => ⟨fun hz => absurd rfl hz, fun _ => ⟨hin, ?_⟩⟩⟩
      refine k_readInstruction hf (by omega) hd.2.2.1 g27 (by rw [G27 180 (by omega)]; exact hd.2.1) hnv.2.2 (fun x j' hx s67 F67 g67 o67 p67 => ?_) (fun e he s67 F67 b67 => ?_)
      · intro x68 e68; subst e68; rw [nI_s]
        rw [hx] at RRi
        have F67' : frM (dFu f) s s67 := F27.trans (F67.mono (fun a k h => h.elim (fun h => Or.inl (Or.inl h)) (fun h => Or.inr (Or.inl ⟨h.1, by omega, by omega⟩))))
        refine ih (i + 1) (lst ++ [x]) j' s67 (by omega) (by rw [List.length_append, hll]; rfl) F67' g67 (fun a ha => by rw [F67.1 _ _ (by unfold dIn dNb; omega)]; exact G27 a ha) (fun k hk => ?_) RRi
        by_cases ck : k = i
        · subst ck
          rw [List.getElem_append_right (by omega)]
          simp only [hll, Nat.sub_self, List.getElem_cons_zero]
          exact ⟨o67, p67⟩
        · have hk' : k < lst.length := by rw [List.length_append] at hk; simp at hk; omega
          rw [List.getElem_append_left hk', F67.1 _ _ (by unfold dIn dNb; omega), F67.1 _ _ (by unfold dIn dNb; omega)]
          exact c27 k hk'
      · intro x68 e68
        rw [he] at RRi
        exact badI e x68 s67 RRi (F27.trans (F67.mono (fun a k h => h.elim (fun h => Or.inl (Or.inl h)) (fun h => Or.inr (Or.inl ⟨h.1, by omega, by omega⟩))))) b67 (fun a ha => by rw [F67.1 _ _ (by unfold dIn dNb; omega)]; exact G27 a ha)
end
