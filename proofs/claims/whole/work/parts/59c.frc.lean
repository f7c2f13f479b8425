/-! ===== PURE: the other one forges ===== -/
noncomputable def ndB (ps : PS) (S : List Int32) (l : List Fn) (f i : Nat) : Bool := @decide (nds ps S l f i) (Classical.propDecidable _)
theorem ndB_iff {ps : PS} {S : List Int32} {l : List Fn} {f i : Nat} : ndB ps S l f i = true ↔ nds ps S l f i := by
  unfold ndB
  exact @decide_eq_true_iff _ (Classical.propDecidable _)
theorem ndB_of {ps : PS} {S : List Int32} {l : List Fn} {f i : Nat} {r : Bool} (h : r = true ↔ nds ps S l f i) : r = ndB ps S l f i := by
  rw [← ndB_iff] at h
  cases r <;> cases hn : ndB ps S l f i <;> simp [hn] at h ⊢
theorem ndB_26 {ps : PS} {S : List Int32} {l : List Fn} {f i : Nat} (hf : f < l.length) (h : ndB ps S l f i = true) : opA l[f] i = 26 := by
  have := (ndB_iff.mp h).1
  rw [fnA_at hf] at this; exact this
/-- whom jumps aim at, in a forged code -/
theorem fcd_any {nd : Nat → Bool} {p : Nat × Int32 → Bool} (hp : ∀ v, p (29, v) = false) : ∀ (c : List (Nat × Int32)) (i : Nat), (fcd nd c i).any p = c.any (fun y => p (insN nd y))
  | [], i => rfl
  | y :: c, i => by
    rw [fcd, List.any_append, fcd_any hp c (i + 1), List.any_cons]
    congr 1
    unfold blk
    split
    · rw [List.any_cons, hp, Bool.false_or, List.any_cons, List.any_nil, Bool.or_false]
    · rw [List.any_cons, List.any_nil, Bool.or_false]
def jmA (nd : Nat → Bool) (k : Nat) (y : Nat × Int32) : Bool := decide (17 < y.1 ∧ y.1 < 21 ∧ (insN nd y).2 = nI k)
theorem aimL_fr {nd : Nat → Bool} {x : Fn} {hs : List Hn} {k : Nat} : aimL (fC (frF nd x)) hs k = ((fC x).any (jmA nd k) || hs.any (fun h => decide (hG h = k))) := by
  unfold aimL
  congr 1
  exact fcd_any (fun v => by simp) (fC x) 0
section
variable {s : yS} {g g2 p n : Nat} {l : List Fn} {ps : PS} {S : List Int32} {f i : Nat}
/-- what forging reads -/
def srC (s : yS) (g p : Nat) (l : List Fn) (ps : PS) (S : List Int32) : Prop := gOK g ∧ (p = 3 ∨ p = 20) ∧ pgC s g l ∧ plC s p ps S ∧ ruC s p (pR ps) ∧ myC s g l (RJs ps S) (nn ps S)
def dFo (g2 a i : Nat) : Prop := a = 122 ∨ (a = g2 ∧ (i = 0 ∨ i = 13)) ∨ (g2 + 1 ≤ a ∧ a ≤ g2 + 17 ∧ a ≠ g2 + 9 ∧ a ≠ g2 + 10 ∧ a ≠ g2 + 12)
theorem srC.fr {s' : yS} (h : srC s g p l ps S) (hg2 : gOK g2) (hne : g ≠ g2) (F : frM (dFo g2) s s') : srC s' g p l ps S := by
  obtain ⟨h1, h2, h3, h4, h5, h6⟩ := h
  have hgv : g = 37 ∨ g = 55 ∨ g = 73 := h1
  have hgv2 : g2 = 37 ∨ g2 = 55 ∨ g2 = 73 := hg2
  refine ⟨h1, h2, h3.fr (fun a i ha => F.1 a i (by unfold dFo; omega)), h4.fr (fun a i ha => F.1 a i (by unfold dFo; omega)) (fun a i ha => F.2.1 a i (by unfold dFo; omega)), fun c hc => by rw [F.1 _ _ (by unfold dFo; omega)]; exact h5 c hc, fun f hf i hi b => by rw [F.2.1 _ _ (by unfold dFo; omega)]; exact h6 f hf i hi b⟩
theorem c_move {Q : Int32 → yS → Prop} (hok : pgOK l) (hm : mkd ps S) (hs : srC s g p l ps S) (hf : f < l.length)
    (H : ∀ s', frM (fun a _ => a = 122) s s' → (∀ i, i ≤ (fC l[f]).length → sI s' 122 i = nI (mv (ndB ps S l f) i)) → Q (nI (gcn (ndB ps S l f) (fC l[f]).length)) s') : W_X0_move s g p (nI f) Q := by
  have h4 := (hok.2.2.1 f hf).2.2.2.2.2.2.2.2.1
  have h12 := hok.2.1
  have hgv : g = 37 ∨ g = 55 ∨ g = 73 := hs.1
  unfold W_X0_move
  rw [nI_mul]
  have hin : vp_in (nI f) 12 := nI_inU (by omega) (by omega)
  intro P6 hP6
  rw [nI_ix (n := f) (by omega)] at hP6
  have srt : ∀ {t : yS}, frM (fun a _ => a = 122) s t → srC t g p l ps S := fun Ft => by
    obtain ⟨h1, h2, h3, h5, h6, h7⟩ := hs
    exact ⟨h1, h2, h3.fr (fun a i ha => Ft.1 a i (by omega)), h5.fr (fun a i ha => Ft.1 a i (by omega)) (fun a i ha => Ft.2.1 a i (by omega)), fun c hc => by rw [Ft.1 _ _ (by omega)]; exact h6 c hc, fun f hf i hi b => by rw [Ft.2.1 _ _ (by omega)]; exact h7 f hf i hi b⟩
  generalize hnd : ndB ps S l f = nd at *
  suffices hL : ∀ (r i : Nat) (t : yS), i + r = (fC l[f]).length → frM (fun a _ => a = 122) s t → (∀ j, j < i → sI t 122 j = nI (mv nd j)) → P6 (nI (gcn nd i)) (nI i) t from hL _ 0 s (Nat.zero_add _) frM.rfl' (fun j hj => by omega)
  intro r
  induction r with
  | zero =>
    intro i t hi Ft mt
    obtain rfl : i = (fC l[f]).length := by omega
    have st := srt Ft
    have hsz := (st.2.2.1.2 f hf).2.2.2.2.1
    apply hP6
    rw [hsz, nI_ix (n := (fC l[f]).length) (by omega), nI_addU]
    refine ⟨hin, fun _ => ⟨hin, hin, nI_inU (by omega) (by omega), ?_⟩, fun hz => absurd ((nI_leU (by omega) (by omega)).mpr (Nat.le_refl _)) hz⟩
    intro s8 e8
    refine H s8 (by subst e8; exact Ft.wI rfl) (fun j hj => ?_)
    subst e8
    by_cases c : j = (fC l[f]).length
    · subst c; rw [sI_w, if_pos ⟨rfl, rfl⟩]; rfl
    · rw [sI_w, if_neg (by omega)]; exact mt j (by omega)
  | succ r ih =>
    intro i t hi Ft mt
    have hil : i < (fC l[f]).length := by omega
    have st := srt Ft
    have hsz := (st.2.2.1.2 f hf).2.2.2.2.1
    apply hP6
    rw [hsz]
    refine ⟨hin, fun hz => absurd ((nI_leU (by omega) (by omega)).mp hz) (by omega), fun _ => ⟨nI_inU (by omega) (by omega), ?_⟩⟩
    rw [nI_ix (n := i) (by omega), nI_addU, nI_addU]
    intro s10 e10
    have F10 : frM (fun a _ => a = 122) s s10 := by subst e10; exact Ft.wI rfl
    have m10 : ∀ j, j < i + 1 → sI s10 122 j = nI (mv nd j) := fun j hj => by
      subst e10
      by_cases c : j = i
      · subst c; rw [sI_w, if_pos ⟨rfl, rfl⟩]; rfl
      · rw [sI_w, if_neg (by omega)]; exact mt j (by omega)
    have s10c := srt F10
    refine c_needs hok hm s10c.2.2.1 s10c.2.2.2.1 s10c.2.2.2.2.1 s10c.2.2.2.2.2 hf hil (fun r hr => ?_)
    have hr := ndB_of hr
    rw [hnd] at hr
    intro P53 hP53
    have nx : ∀ y : Nat, y = (if nd i = true then 1 else 0) → P53 (nI y) := fun y hy => by
      apply hP53
      intro x13 e13 x14 e14
      rw [nI_addU] at e13
      rw [nI_s] at e14
      subst e13; subst e14
      have e : gcn nd (i + 1) = gcn nd i + y := by rw [gcn, hy]
      rw [← e]
      exact ih (i + 1) s10 (by omega) F10 m10
    rw [← hr] at nx
    cases r with
    | false => exact ⟨fun _ => nx 0 rfl, fun hz => absurd rfl hz⟩
    | true => exact ⟨fun hz => absurd hz (by decide), fun _ => nx 1 rfl⟩
theorem c_setSize2 {n : Nat} {Q : yS → Prop} (hg2 : gOK g2) (hf : f < 12) (hn : n ≤ 400) (H : ∀ s', frM (fun a i => (a = g2 + 5 ∧ i = f) ∨ (a = g2 + 11 ∧ f * 400 ≤ i ∧ i < f * 400 + 400)) s s' → (sI s' (g2 + 5)) f = nI n → (∀ i, i < n → (sI s' (g2 + 11)) (f * 400 + i) = 0) → Q s') : W_X5_setSize s g2 (nI f) (nI n) Q := by
  unfold W_X5_setSize
  rw [nI_ix (n := f) (by omega), nI_mul]
  refine ⟨nI_inU (by omega) (by omega), ?_⟩
  intro s2 e2 P9 hP9
  suffices hL : ∀ (r k : Nat) (t : yS), k + r = n → frM (fun a i => (a = g2 + 5 ∧ i = f) ∨ (a = g2 + 11 ∧ f * 400 ≤ i ∧ i < f * 400 + 400)) s t → sI t (g2 + 5) f = nI n → (∀ i, i < k → sI t (g2 + 11) (f * 400 + i) = 0) → P9 (nI k) t from
    hL n 0 s2 (Nat.zero_add _) (by subst e2; exact frM.rfl'.wI (by omega)) (by subst e2; rw [sI_w, if_pos ⟨rfl, rfl⟩]) (fun i hi => by omega)
  intro r
  induction r with
  | zero =>
    intro k t hk Ft st at'
    apply hP9
    exact ⟨fun _ => H t Ft st (fun i hi => at' i (by omega)), fun hz => absurd ((nI_leU (by omega) (by omega)).mpr (by omega)) hz⟩
  | succ r ih =>
    intro k t hk Ft st at'
    apply hP9
    refine ⟨fun hz => absurd ((nI_leU (by omega) (by omega)).mp hz) (by omega), fun _ => ?_⟩
    rw [nI_addU, nI_ix (n := f * 400 + k) (by omega)]
    refine ⟨nI_inU (by omega) (by omega), ?_⟩
    intro s6 e6 x7 e7
    subst e7; rw [nI_s]
    refine ih (k + 1) s6 (by omega) (by subst e6; exact Ft.wI (by omega)) (by subst e6; rw [sI_w, if_neg (by omega)]; exact st) (fun i hi => ?_)
    subst e6
    by_cases c : i = k
    · subst c; rw [sI_w, if_pos ⟨rfl, rfl⟩]; rfl
    · rw [sI_w, if_neg (by omega)]; exact at' i (by omega)
def dHeF (g2 f a i : Nat) : Prop := ((g2 + 1 ≤ a ∧ a ≤ g2 + 6) ∧ i = f) ∨ (a = g2 + 11 ∧ f * 400 ≤ i ∧ i < f * 400 + 400)
theorem c_copyHead {nd : Nat → Bool} {Q : yS → Prop} (hok : pgOK l) (hs : srC s g p l ps S) (hg2 : gOK g2) (hne : g ≠ g2) (hf : f < l.length) (hmv : ∀ i, i ≤ (fC l[f]).length → sI s 122 i = nI (mv nd i)) (h4 : mv nd (fC l[f]).length ≤ 400)
    (H : ∀ s', frM (dHeF g2 f) s s' → (sI s' (g2 + 1)) f = nI (fP l[f]) → (sI s' (g2 + 2)) f = nI (fL l[f]) → (sI s' (g2 + 3)) f = nI (fB l[f]) → (sI s' (g2 + 4)) f = nI (fR l[f]) → (sI s' (g2 + 5)) f = nI (mv nd (fC l[f]).length) → (sI s' (g2 + 6)) f = nI (fH l[f]).length → (∀ i, i < mv nd (fC l[f]).length → (sI s' (g2 + 11)) (f * 400 + i) = 0) → Q s') : W_X0_copyHead s g g2 (nI f) Q := by
  have h400 := (hok.2.2.1 f hf).2.2.2.2.2.2.2.2.1
  have h12 := hok.2.1
  have hgv : g = 37 ∨ g = 55 ∨ g = 73 := hs.1
  have hgv2 : g2 = 37 ∨ g2 = 55 ∨ g2 = 73 := hg2
  obtain ⟨q1, q2, q3, q4, q5, q6, q7⟩ := hs.2.2.1.2 f hf
  have hin : vp_in (nI f) 12 := nI_inU (by omega) (by omega)
  unfold W_X0_copyHead
  rw [nI_ix (n := f) (by omega), q1]
  refine ⟨hin, hin, ?_⟩
  intro s3 e3
  have n3 : ∀ a i, a ≠ g2 + 1 → sI s3 a i = sI s a i := fun a i h => by subst e3; rw [sI_w, if_neg (by omega)]
  rw [n3 (g + 2) _ (by omega), q2]
  refine ⟨hin, hin, ?_⟩
  intro s6 e6
  have n6 : ∀ a i, a ≠ g2 + 1 → a ≠ g2 + 2 → sI s6 a i = sI s a i := fun a i h h2 => by subst e6; rw [sI_w, if_neg (by omega)]; exact n3 a i h
  rw [n6 (g + 3) _ (by omega) (by omega), q3]
  refine ⟨hin, hin, ?_⟩
  intro s9 e9
  have n9 : ∀ a i, a ≠ g2 + 1 → a ≠ g2 + 2 → a ≠ g2 + 3 → sI s9 a i = sI s a i := fun a i h h2 h3 => by subst e9; rw [sI_w, if_neg (by omega)]; exact n6 a i h h2
  rw [n9 (g + 4) _ (by omega) (by omega) (by omega), q4]
  refine ⟨hin, hin, ?_⟩
  intro s12 e12
  have n12 : ∀ a i, a ≠ g2 + 1 → a ≠ g2 + 2 → a ≠ g2 + 3 → a ≠ g2 + 4 → sI s12 a i = sI s a i := fun a i h h2 h3 h4 => by subst e12; rw [sI_w, if_neg (by omega)]; exact n9 a i h h2 h3
  rw [n12 (g + 5) _ (by omega) (by omega) (by omega) (by omega), q5, nI_ix (n := (fC l[f]).length) (by omega), n12 122 _ (by omega) (by omega) (by omega) (by omega), hmv _ (Nat.le_refl _)]
  refine ⟨hin, nI_inU (by omega) (by omega), ?_⟩
  refine c_setSize2 hg2 (by omega) h4 (fun s15 F15 z15 a15 => ?_)
  refine ⟨hin, hin, ?_⟩
  rw [F15.1 (g + 6) _ (by omega), n12 (g + 6) _ (by omega) (by omega) (by omega) (by omega), q6]
  intro s18 e18
  refine H s18 ?_ ?_ ?_ ?_ ?_ ?_ ?_ (fun i hi => ?_)
  · have F12 : frM (dHeF g2 f) s s12 := by
      subst e12; subst e9; subst e6; subst e3
      exact (((frM.rfl'.wI (by unfold dHeF; omega)).wI (by unfold dHeF; omega)).wI (by unfold dHeF; omega)).wI (by unfold dHeF; omega)
    have F15' : frM (dHeF g2 f) s12 s15 := F15.mono (fun a i h => by unfold dHeF; omega)
    subst e18
    exact (F12.trans F15').wI (by unfold dHeF; omega)
  · subst e18; rw [sI_w, if_neg (by omega), F15.1 _ _ (by omega)]; subst e12; rw [sI_w, if_neg (by omega)]; subst e9; rw [sI_w, if_neg (by omega)]; subst e6; rw [sI_w, if_neg (by omega)]; subst e3; rw [sI_w, if_pos ⟨rfl, rfl⟩]
  · subst e18; rw [sI_w, if_neg (by omega), F15.1 _ _ (by omega)]; subst e12; rw [sI_w, if_neg (by omega)]; subst e9; rw [sI_w, if_neg (by omega)]; subst e6; rw [sI_w, if_pos ⟨rfl, rfl⟩]
  · subst e18; rw [sI_w, if_neg (by omega), F15.1 _ _ (by omega)]; subst e12; rw [sI_w, if_neg (by omega)]; subst e9; rw [sI_w, if_pos ⟨rfl, rfl⟩]
  · subst e18; rw [sI_w, if_neg (by omega), F15.1 _ _ (by omega)]; subst e12; rw [sI_w, if_pos ⟨rfl, rfl⟩]
  · subst e18; rw [sI_w, if_neg (by omega)]; exact z15
  · subst e18; rw [sI_w, if_pos ⟨rfl, rfl⟩]
  · subst e18; rw [sI_w, if_neg (by omega)]; exact a15 i hi
end
