section
variable {s : yS} {g g2 p n : Nat} {l : List Fn} {ps : PS} {S : List Int32} {f i : Nat} {nd : Nat → Bool}
def dChF (g2 f a i : Nat) : Prop := (g2 + 13 ≤ a ∧ a ≤ g2 + 17 ∧ f * 6 ≤ i ∧ i < f * 6 + 6) ∨ (a = g2 + 11 ∧ f * 400 ≤ i ∧ i < f * 400 + 400)
set_option maxHeartbeats 1000000 in
theorem c_copyHandlers {J : Nat → Bool} {Q : yS → Prop} (hok : pgOK l) (hs : srC s g p l ps S) (hg2 : gOK g2) (hne : g ≠ g2) (hf : f < l.length) (hmv : ∀ i, i ≤ (fC l[f]).length → sI s 122 i = nI (mv nd i)) (h4 : mv nd (fC l[f]).length ≤ 400) (haz : ∀ i, i < mv nd (fC l[f]).length → (sI s (g2 + 11)) (f * 400 + i) = bI (J i))
    (H : ∀ s', frM (dChF g2 f) s s' → (∀ (j : Nat) (hj : j < (fH l[f]).length), hnC s' g2 (f * 6 + j) (hnN nd (fH l[f])[j])) → (∀ i, i < mv nd (fC l[f]).length → (sI s' (g2 + 11)) (f * 400 + i) = bI (J i || (fH l[f]).any (fun h => decide (mv nd (hG h) = i)))) → Q s') : W_X0_copyHandlers s g g2 (nI f) Q := by
  have hfo := hok.2.2.1 f hf
  have h400 := hfo.2.2.2.2.2.2.2.2.1
  have h6 := hfo.2.2.2.2.2.2.2.2.2.1
  have hho := hfo.2.2.2.2.2.2.2.2.2.2.2
  have h12 := hok.2.1
  have hgv : g = 37 ∨ g = 55 ∨ g = 73 := hs.1
  have hgv2 : g2 = 37 ∨ g2 = 55 ∨ g2 = 73 := hg2
  have hin : vp_in (nI f) 12 := nI_inU (by omega) (by omega)
  unfold W_X0_copyHandlers
  rw [nI_mul, nI_mul]
  intro P6 hP6 x26 e26
  subst e26
  rw [nI_ix (n := f) (by omega)] at hP6
  have pgt : ∀ {t : yS}, frM (dChF g2 f) s t → pgC t g l := fun Ft => hs.2.2.1.fr (fun a i ha => Ft.1 a i (by unfold dChF; omega))
  have mvt : ∀ {t : yS}, frM (dChF g2 f) s t → ∀ i, i ≤ (fC l[f]).length → sI t 122 i = nI (mv nd i) := fun Ft i hi => (Ft.1 _ _ (by unfold dChF; omega)).trans (hmv i hi)
  suffices hL : ∀ (r k N : Nat) (t : yS), N = f * 6 + k → k + r = (fH l[f]).length → frM (dChF g2 f) s t → (∀ (j : Nat) (hj : j < (fH l[f]).length), j < k → hnC t g2 (f * 6 + j) (hnN nd (fH l[f])[j])) → (∀ i, i < mv nd (fC l[f]).length → (sI t (g2 + 11)) (f * 400 + i) = bI (J i || ((fH l[f]).take k).any (fun h => decide (mv nd (hG h) = i)))) → P6 (nI N) t from
    hL _ 0 (f * 6) s (by omega) (Nat.zero_add _) frM.rfl' (fun j hj h0 => by omega) (fun i hi => by rw [List.take_zero, List.any_nil, Bool.or_false]; exact haz i hi)
  intro r
  induction r with
  | zero =>
    intro k N t hN hk Ft ht at'
    subst hN
    obtain rfl : k = (fH l[f]).length := by omega
    apply hP6
    rw [((pgt Ft).2 f hf).2.2.2.2.2.1, nI_addU]
    refine ⟨hin, fun _ => H t Ft (fun j hj => ht j hj hj) (fun i hi => ?_), fun hz => absurd ((nI_leU (by omega) (by omega)).mpr (Nat.le_refl _)) hz⟩
    have := at' i hi
    rw [List.take_length] at this; exact this
  | succ r ih =>
    intro k N t hN hk Ft ht at'
    subst hN
    have hkl : k < (fH l[f]).length := by omega
    have hh := ((pgt Ft).2 f hf).2.2.2.2.2.2.2.1 k hkl
    have hhk := hho _ (List.getElem_mem hkl)
    obtain ⟨b1, b2, b3, _⟩ := hhk
    have m1 := mvt Ft (hF (fH l[f])[k]) (by omega)
    have m2 := mvt Ft (hT (fH l[f])[k]) (by omega)
    have m3 := mvt Ft (hG (fH l[f])[k]) (by omega)
    have ml := mv_lt (nd := nd) b3
    have in72 : vp_in (nI (f * 6 + k)) 72 := nI_inU (by omega) (by omega)
    apply hP6
    rw [((pgt Ft).2 f hf).2.2.2.2.2.1, nI_addU]
    refine ⟨hin, fun hz => absurd ((nI_leU (by omega) (by omega)).mp hz) (by omega), fun _ => ?_⟩
    rw [nI_ix (n := f * 6 + k) (by omega), hh.1, nI_ix (n := hF (fH l[f])[k]) (by omega), m1]
    refine ⟨in72, nI_inU (by omega) (by omega), in72, ?_⟩
    intro s7 e7
    have n7 : ∀ a i, a ≠ g2 + 13 → sI s7 a i = sI t a i := fun a i h => by subst e7; rw [sI_w, if_neg (by omega)]
    rw [n7 (g + 14) _ (by omega), hh.2.1, nI_ix (n := hT (fH l[f])[k]) (by omega), n7 122 _ (by omega), m2]
    refine ⟨in72, nI_inU (by omega) (by omega), in72, ?_⟩
    intro s11 e11
    have n11 : ∀ a i, a ≠ g2 + 13 → a ≠ g2 + 14 → sI s11 a i = sI t a i := fun a i h h2 => by subst e11; rw [sI_w, if_neg (by omega)]; exact n7 a i h
    rw [n11 (g + 15) _ (by omega) (by omega), hh.2.2.1, nI_ix (n := hG (fH l[f])[k]) (by omega), n11 122 _ (by omega) (by omega), m3]
    refine ⟨in72, nI_inU (by omega) (by omega), in72, ?_⟩
    intro s15 e15
    have n15 : ∀ a i, a ≠ g2 + 13 → a ≠ g2 + 14 → a ≠ g2 + 15 → sI s15 a i = sI t a i := fun a i h h2 h3 => by subst e15; rw [sI_w, if_neg (by omega)]; exact n11 a i h h2
    rw [n15 (g + 16) _ (by omega) (by omega) (by omega), hh.2.2.2.1, nar_bI]
    refine ⟨in72, in72, ?_⟩
    intro s18 e18
    have n18 : ∀ a i, a ≠ g2 + 13 → a ≠ g2 + 14 → a ≠ g2 + 15 → a ≠ g2 + 16 → sI s18 a i = sI t a i := fun a i h h2 h3 h4 => by subst e18; rw [sI_w, if_neg (by omega)]; exact n15 a i h h2 h3
    rw [n18 (g + 17) _ (by omega) (by omega) (by omega) (by omega), hh.2.2.2.2]
    refine ⟨in72, in72, ?_⟩
    intro s21 e21
    have F21 : frM (dChF g2 f) s s21 := by
      subst e21; subst e18; subst e15; subst e11; subst e7
      exact ((((Ft.wI (by unfold dChF; omega)).wI (by unfold dChF; omega)).wI (by unfold dChF; omega)).wI (by unfold dChF; omega)).wI (by unfold dChF; omega)
    have n21 : ∀ a i, a ≠ g2 + 13 → a ≠ g2 + 14 → a ≠ g2 + 15 → a ≠ g2 + 16 → a ≠ g2 + 17 → sI s21 a i = sI t a i := fun a i h h2 h3 h4 h5 => by subst e21; rw [sI_w, if_neg (by omega)]; exact n18 a i h h2 h3 h4
    have k21 : hnC s21 g2 (f * 6 + k) (hnN nd (fH l[f])[k]) := by
      refine ⟨?_, ?_, ?_, ?_, ?_⟩
      · subst e21; rw [sI_w, if_neg (by omega)]; subst e18; rw [sI_w, if_neg (by omega)]; subst e15; rw [sI_w, if_neg (by omega)]; subst e11; rw [sI_w, if_neg (by omega)]; subst e7; rw [sI_w, if_pos ⟨rfl, rfl⟩]; rfl
      · subst e21; rw [sI_w, if_neg (by omega)]; subst e18; rw [sI_w, if_neg (by omega)]; subst e15; rw [sI_w, if_neg (by omega)]; subst e11; rw [sI_w, if_pos ⟨rfl, rfl⟩]; rfl
      · subst e21; rw [sI_w, if_neg (by omega)]; subst e18; rw [sI_w, if_neg (by omega)]; subst e15; rw [sI_w, if_pos ⟨rfl, rfl⟩]; rfl
      · subst e21; rw [sI_w, if_neg (by omega)]; subst e18; rw [sI_w, if_pos ⟨rfl, rfl⟩]; rfl
      · subst e21; rw [sI_w, if_pos ⟨rfl, rfl⟩]; rfl
    have j21 : ∀ (j : Nat) (hj : j < (fH l[f]).length), j < k → hnC s21 g2 (f * 6 + j) (hnN nd (fH l[f])[j]) := fun j hj hjk => by
      obtain ⟨c1, c2, c3, c4, c5⟩ := ht j hj hjk
      refine ⟨?_, ?_, ?_, ?_, ?_⟩
      · subst e21; rw [sI_w, if_neg (by omega)]; subst e18; rw [sI_w, if_neg (by omega)]; subst e15; rw [sI_w, if_neg (by omega)]; subst e11; rw [sI_w, if_neg (by omega)]; subst e7; rw [sI_w, if_neg (by omega)]; exact c1
      · subst e21; rw [sI_w, if_neg (by omega)]; subst e18; rw [sI_w, if_neg (by omega)]; subst e15; rw [sI_w, if_neg (by omega)]; subst e11; rw [sI_w, if_neg (by omega)]; subst e7; rw [sI_w, if_neg (by omega)]; exact c2
      · subst e21; rw [sI_w, if_neg (by omega)]; subst e18; rw [sI_w, if_neg (by omega)]; subst e15; rw [sI_w, if_neg (by omega)]; subst e11; rw [sI_w, if_neg (by omega)]; subst e7; rw [sI_w, if_neg (by omega)]; exact c3
      · subst e21; rw [sI_w, if_neg (by omega)]; subst e18; rw [sI_w, if_neg (by omega)]; subst e15; rw [sI_w, if_neg (by omega)]; subst e11; rw [sI_w, if_neg (by omega)]; subst e7; rw [sI_w, if_neg (by omega)]; exact c4
      · subst e21; rw [sI_w, if_neg (by omega)]; subst e18; rw [sI_w, if_neg (by omega)]; subst e15; rw [sI_w, if_neg (by omega)]; subst e11; rw [sI_w, if_neg (by omega)]; subst e7; rw [sI_w, if_neg (by omega)]; exact c5
    clear e21 e18 e15 e11 e7
    have t21 : sI s21 (g2 + 15) (f * 6 + k) = nI (mv nd (hG (fH l[f])[k])) := k21.2.2.1
    rw [t21, nI_addU, nI_ix (n := f * 400 + mv nd (hG (fH l[f])[k])) (by omega)]
    refine ⟨in72, nI_inU (by omega) (by omega), ?_⟩
    intro s24 e24 x25 e25
    subst e25; rw [nI_s]
    have h24 : ∀ {j : Nat} {h : Hn}, hnC s21 g2 j h → hnC s24 g2 j h := fun hc => by
      subst e24
      exact ⟨(sI_w.trans (if_neg (by omega))).trans hc.1, (sI_w.trans (if_neg (by omega))).trans hc.2.1, (sI_w.trans (if_neg (by omega))).trans hc.2.2.1, (sI_w.trans (if_neg (by omega))).trans hc.2.2.2.1, (sI_w.trans (if_neg (by omega))).trans hc.2.2.2.2⟩
    refine ih (k + 1) _ s24 (by omega) (by omega) (by subst e24; exact F21.wI (by unfold dChF; omega)) (fun j hj hjk => ?_) (fun i hi => ?_)
    · by_cases c : j = k
      · subst c; exact h24 k21
      · exact h24 (j21 j hj (by omega))
    · rw [any_take hkl, ← Bool.or_assoc]
      subst e24
      by_cases c : i = mv nd (hG (fH l[f])[k])
      · subst c; rw [sI_w, if_pos ⟨rfl, rfl⟩, decide_eq_true rfl, Bool.or_true]; rfl
      · rw [sI_w, if_neg (by omega), n21 _ _ (by omega) (by omega) (by omega) (by omega) (by omega), at' i hi, decide_eq_false (by omega), Bool.or_false]
/-- guards in a program -/
def hsG (l : List Fn) : Prop := ∃ f, ∃ hf : f < l.length, ∃ i, i < (fC l[f]).length ∧ opA l[f] i = 29
theorem c_hasGuard {Q : Int32 → Prop} (hok : pgOK l) (hp : pgC s g l) (H1 : hsG l → Q 1) (H0 : ¬ hsG l → Q 0) : W_X5_hasGuard s g Q := by
  have h12 := hok.2.1
  unfold W_X5_hasGuard
  intro P2 hP2
  rw [hp.1] at hP2
  suffices hL : ∀ (r f : Nat), f + r = l.length → (∀ g, (hg : g < l.length) → g < f → ∀ i, i < (fC l[g]).length → ¬ opA l[g] i = 29) → P2 (nI f) from hL _ 0 (Nat.zero_add _) (fun g hg h0 => by omega)
  intro r
  induction r with
  | zero =>
    intro f hf hn
    apply hP2
    refine ⟨fun _ => H0 ?_, fun hz => absurd ((nI_leU (by omega) (by omega)).mpr (by omega)) hz⟩
    rintro ⟨g, hg, i, hi, ho⟩
    exact hn g hg (by omega) i hi ho
  | succ r ih =>
    intro f hf hn
    have hfl : f < l.length := by omega
    have h4 := (hok.2.2.1 f hfl).2.2.2.2.2.2.2.2.1
    have hin : vp_in (nI f) 12 := nI_inU (by omega) (by omega)
    apply hP2
    refine ⟨fun hz => absurd ((nI_leU (by omega) (by omega)).mp hz) (by omega), fun _ => ?_⟩
    intro P12 hP12
    rw [nI_ix (n := f) (by omega), (hp.2 f hfl).2.2.2.2.1, nI_mul] at hP12
    suffices hI : ∀ (r i : Nat), i + r = (fC l[f]).length → (∀ j, j < i → ¬ opA l[f] j = 29) → P12 (nI i) from hI _ 0 (Nat.zero_add _) (fun j hj => by omega)
    intro r2
    induction r2 with
    | zero =>
      intro i hi hni
      apply hP12
      refine ⟨hin, fun _ => ?_, fun hz => absurd ((nI_leU (by omega) (by omega)).mpr (by omega)) hz⟩
      intro x4 e4
      subst e4; rw [nI_s]
      refine ih (f + 1) (by omega) (fun g hg hgf => ?_)
      by_cases c : g = f
      · subst c; exact fun j hj => hni j (by omega)
      · exact hn g hg (by omega)
    | succ r2 ih2 =>
      intro i hi hni
      have hil : i < (fC l[f]).length := by omega
      have hco := ((hp.2 f hfl).2.2.2.2.2.2.1 i hil).1
      have o29 : (fC l[f])[i].1 ≤ 29 := ((hok.2.2.1 f hfl).2.2.2.2.2.2.2.2.2.2.1 _ (List.getElem_mem hil)).1
      apply hP12
      refine ⟨hin, fun hz => absurd ((nI_leU (by omega) (by omega)).mp hz) (by omega), fun _ => ?_⟩
      rw [nI_addU, nI_ix (n := f * 400 + i) (by omega), hco, nI_inj (by omega) (by omega), ← opA_at hil]
      refine ⟨nI_inU (by omega) (by omega), fun hne => ?_, fun h29 => H1 ⟨f, hfl, i, hil, h29⟩⟩
      intro x6 e6
      subst e6; rw [nI_s]
      refine ih2 (i + 1) (by omega) (fun j hj => ?_)
      by_cases c : j = i
      · subst c; exact hne
      · exact hni j (by omega)
end
section
variable {s : yS} {g g2 p n : Nat} {l : List Fn} {ps : PS} {S : List Int32} {f i : Nat}
/-- there is room -/
def fitB (ps : PS) (S : List Int32) (l : List Fn) : Prop := (∀ f, (hf : f < l.length) → mv (ndB ps S l f) (fC l[f]).length ≤ 400) ∧ 4 + (sumF l + 2 * gsum (ndB ps S l) l l.length) ≤ 8192
theorem fnC.fr2 {s' : yS} {x : Fn} (h : fnC s g2 f x) (h1 : ∀ a i, g2 + 1 ≤ a → a ≤ g2 + 17 → (a ≤ g2 + 6 → i = f) → ((a = g2 + 7 ∨ a = g2 + 8 ∨ a = g2 + 11) → f * 400 ≤ i ∧ i < f * 400 + (fC x).length) → (g2 + 13 ≤ a → f * 6 ≤ i ∧ i < f * 6 + (fH x).length) → a ≠ g2 + 9 → a ≠ g2 + 10 → a ≠ g2 + 12 → sI s' a i = sI s a i) : fnC s' g2 f x := by
  obtain ⟨q1, q2, q3, q4, q5, q6, q7, q8, q9⟩ := h
  have e : ∀ a, g2 + 1 ≤ a → a ≤ g2 + 6 → sI s' a f = sI s a f := fun a x y => h1 a f x (by omega) (fun _ => rfl) (fun h => by omega) (fun h => by omega) (by omega) (by omega) (by omega)
  have eh : ∀ i, i < (fH x).length → ∀ a, g2 + 13 ≤ a → a ≤ g2 + 17 → sI s' a (f * 6 + i) = sI s a (f * 6 + i) := fun i hi a hx hy => h1 a _ (by omega) (by omega) (fun h => by omega) (fun h => by omega) (fun _ => by omega) (by omega) (by omega) (by omega)
  refine ⟨(e _ (by omega) (by omega)).trans q1, (e _ (by omega) (by omega)).trans q2, (e _ (by omega) (by omega)).trans q3, (e _ (by omega) (by omega)).trans q4, (e _ (by omega) (by omega)).trans q5, (e _ (by omega) (by omega)).trans q6, fun i hi => ⟨?_, ?_⟩, fun i hi => ⟨?_, ?_, ?_, ?_, ?_⟩, fun i hi => ?_⟩
  · exact (h1 _ _ (by omega) (by omega) (fun h => by omega) (fun _ => by omega) (fun h => by omega) (by omega) (by omega) (by omega)).trans (q7 i hi).1
  · exact (h1 _ _ (by omega) (by omega) (fun h => by omega) (fun _ => by omega) (fun h => by omega) (by omega) (by omega) (by omega)).trans (q7 i hi).2
  · exact (eh i hi _ (by omega) (by omega)).trans (q8 i hi).1
  · exact (eh i hi _ (by omega) (by omega)).trans (q8 i hi).2.1
  · exact (eh i hi _ (by omega) (by omega)).trans (q8 i hi).2.2.1
  · exact (eh i hi _ (by omega) (by omega)).trans (q8 i hi).2.2.2.1
  · exact (eh i hi _ (by omega) (by omega)).trans (q8 i hi).2.2.2.2
  · exact (h1 _ _ (by omega) (by omega) (fun h => by omega) (fun _ => by omega) (fun h => by omega) (by omega) (by omega) (by omega)).trans (q9 i hi)
set_option maxHeartbeats 1000000 in
theorem c_forge {Q : Int32 → yS → Prop} (hok : pgOK l) (hm : mkd ps S) (hs : srC s g p l ps S) (hg2 : gOK g2) (hne : g ≠ g2)
    (H1 : fitB ps S l → ∀ s', frM (dFo g2) s s' → pgC s' g2 (mixP (ndB ps S l) l.length l) → sI s' g2 13 = 0 → Q (nI (gsum (ndB ps S l) l l.length)) s')
    (H0 : ¬ fitB ps S l → ∀ s', frM (dFo g2) s s' → Q (-2) s') : W_X0_forge s g p g2 Q := by
  have h12 := hok.2.1
  have hgv : g = 37 ∨ g = 55 ∨ g = 73 := hs.1
  have hgv2 : g2 = 37 ∨ g2 = 55 ∨ g2 = 73 := hg2
  unfold W_X0_forge W_X5_empty
  intro s1' e1' s1 e1 s2 e2
  have g0 : sI s1 g 0 = nI l.length := by subst e1; rw [sI_w, if_neg (by omega)]; subst e1'; rw [sI_w, if_neg (by omega)]; exact hs.2.2.1.1
  rw [g0] at e2
  have F2 : frM (dFo g2) s s2 := by subst e2; subst e1; subst e1'; exact ((frM.rfl'.wI (by unfold dFo; omega)).wI (by unfold dFo; omega)).wI (by unfold dFo; omega)
  have z2 : sI s2 g2 13 = 0 := by subst e2; rw [sI_w, if_neg (by omega)]; subst e1; rw [sI_w, if_pos ⟨rfl, rfl⟩]
  have f2 : sI s2 g2 0 = nI l.length := by subst e2; rw [sI_w, if_pos ⟨rfl, rfl⟩]
  clear e2 e1 e1' g0
  generalize hnd : ndB ps S l = nd at *
  have hmvn : ∀ f, mv (nd f) = mv (ndB ps S l f) := fun f => by rw [hnd]
  intro P18 hP18
  suffices hL : ∀ (r f : Nat) (t : yS), f + r = l.length → frM (dFo g2) s t → sI t g2 13 = 0 → sI t g2 0 = nI l.length → (∀ k, (hk : k < l.length) → k < f → mv (nd k) (fC l[k]).length ≤ 400 ∧ fnC t g2 k (frF (nd k) l[k])) → P18 (nI (gsum nd l f)) (nI f) t from
    hL _ 0 s2 (Nat.zero_add _) F2 z2 f2 (fun k hk h0 => by omega)
  intro r
  induction r with
  | zero =>
    intro f t hf Ft zt ft kt
    obtain rfl : f = l.length := by omega
    have st := hs.fr hg2 hne Ft
    have pt : pgC t g2 (mixP nd l.length l) := by
      refine ⟨by rw [mix_len]; exact ft, fun k hk => ?_⟩
      have hk' : k < l.length := by rw [mix_len] at hk; exact hk
      rw [mix_at hk', if_pos hk']
      exact (kt k hk' hk').2
    have wk : wkOK (mixP nd l.length l) := by
      refine ⟨by rw [mix_len]; exact h12, fun k hk => ?_⟩
      have hk' : k < l.length := by rw [mix_len] at hk; exact hk
      rw [mix_at hk', if_pos hk']
      have hfo := frF_ok (nd := nd k) (hok.2.2.1 k hk') (kt k hk' hk').1 (fun i hi hn => by rw [← hnd] at hn; exact ndB_26 hk' hn)
      exact ⟨hfo.2.2.2.2.2.2.2.2.1, hfo.2.2.2.2.2.2.2.2.2.1, fun y hy => (hfo.2.2.2.2.2.2.2.2.2.2.1 y hy).1⟩
    apply hP18
    rw [st.2.2.1.1]
    refine ⟨fun _ => ?_, fun hz => absurd ((nI_leU (by omega) (by omega)).mpr (Nat.le_refl _)) hz⟩
    refine c_byteLength pt wk ?_
    have hsum := mix_sum (nd := nd) (l := l) l.length (Nat.le_refl _)
    rw [hsum]
    have hl8 := hok.2.2.2
    have hgs : ∀ k, k ≤ l.length → gsum nd l k ≤ 400 * k := by
      intro k
      induction k with
      | zero => intro _; exact Nat.le_refl _
      | succ k ihk =>
        intro hk
        rw [gsum, if_pos (by omega), getD_at (by omega)]
        have h1 := gcn_le (nd := nd k) (i := (fC (l[k]'(by omega))).length)
        have h2 := (hok.2.2.1 k (by omega)).2.2.2.2.2.2.2.2.1
        have := ihk (by omega)
        omega
    have hg4 := hgs l.length (Nat.le_refl _)
    have hsf : 4 + sumF l ≤ 8192 := hl8
    rw [nI_leU (by omega) (by omega)]
    refine ⟨fun hle => H1 ⟨fun k hk => ?_, ?_⟩ t Ft pt zt, fun hgt => H0 (fun hfit => hgt ?_) t Ft⟩
    · have := (kt k hk hk).1; rw [hnd]; exact this
    · rw [hnd]; exact hle
    · have := hfit.2; rw [hnd] at this; exact this
  | succ r ih =>
    intro f t hf Ft zt ft kt
    have hfl : f < l.length := by omega
    have st := hs.fr hg2 hne Ft
    have h400 := (hok.2.2.1 f hfl).2.2.2.2.2.2.2.2.1
    have hin : vp_in (nI f) 12 := nI_inU (by omega) (by omega)
    apply hP18
    rw [st.2.2.1.1]
    refine ⟨fun hz => absurd ((nI_leU (by omega) (by omega)).mp hz) (by omega), fun _ => ?_⟩
    refine c_move hok hm st hfl (fun s8 F8 m8 => ?_)
    rw [hnd] at m8 ⊢
    intro x9 e9
    rw [nI_addU] at e9
    have hgs : gsum nd l f + gcn (nd f) (fC l[f]).length = gsum nd l (f + 1) := by rw [gsum, if_pos hfl, getD_at hfl]
    rw [hgs] at e9
    subst e9
    have F8' : frM (dFo g2) s s8 := Ft.trans (F8.mono (fun a i h => by unfold dFo; omega))
    have s8c := hs.fr hg2 hne F8'
    have hgl := gcn_le (nd := nd f) (i := (fC l[f]).length)
    rw [nI_ix (n := f) (by omega), (s8c.2.2.1.2 f hfl).2.2.2.2.1, nI_addU, nI_leU (by omega) (by omega)]
    refine ⟨hin, fun hle => ?_, fun hgt => H0 (fun hfit => hgt ?_) s8 F8'⟩
    · have h4 : mv (nd f) (fC l[f]).length ≤ 400 := hle
      refine c_copyHead hok s8c hg2 hne hfl m8 h4 (fun s11 F11 v1 v2 v3 v4 v5 v6 z11 => ?_)
      have F11' : frM (dFo g2) s s11 := F8'.trans (F11.mono (fun a i h => by unfold dHeF at h; unfold dFo; omega))
      have s11c := hs.fr hg2 hne F11'
      have m11 : ∀ i, i ≤ (fC l[f]).length → sI s11 122 i = nI (mv (nd f) i) := fun i hi => (F11.1 _ _ (by unfold dHeF; omega)).trans (m8 i hi)
      refine c_copyCode hok s11c hg2 hne hfl m11 h4 z11 (fun s12 F12 c12 a12 => ?_)
      have F12' : frM (dFo g2) s s12 := F11'.trans (F12.mono (fun a i h => by unfold dCoF at h; unfold dFo; omega))
      have s12c := hs.fr hg2 hne F12'
      have m12 : ∀ i, i ≤ (fC l[f]).length → sI s12 122 i = nI (mv (nd f) i) := fun i hi => (F12.1 _ _ (by unfold dCoF; omega)).trans (m11 i hi)
      refine c_copyHandlers hok s12c hg2 hne hfl m12 h4 a12 (fun s13 F13 h13 a13 => ?_)
      have F13' : frM (dFo g2) s s13 := F12'.trans (F13.mono (fun a i h => by unfold dChF at h; unfold dFo; omega))
      intro x14 e14
      subst e14; rw [nI_s]
      have h6 := (hok.2.2.1 f hfl).2.2.2.2.2.2.2.2.2.1
      refine ih (f + 1) s13 (by omega) F13' ?_ ?_ (fun k hk hkf => ?_)
      · rw [F13.1 _ _ (by unfold dChF; omega), F12.1 _ _ (by unfold dCoF; omega), F11.1 _ _ (by unfold dHeF; omega), F8.1 _ _ (by omega)]; exact zt
      · rw [F13.1 _ _ (by unfold dChF; omega), F12.1 _ _ (by unfold dCoF; omega), F11.1 _ _ (by unfold dHeF; omega), F8.1 _ _ (by omega)]; exact ft
      · by_cases c : k = f
        · subst c
          refine ⟨h4, ?_⟩
          have n1 : ∀ a, g2 + 1 ≤ a → a ≤ g2 + 6 → sI s13 a k = sI s11 a k := fun a h1 h2 => by rw [F13.1 _ _ (by unfold dChF; omega), F12.1 _ _ (by unfold dCoF; omega)]
          refine ⟨(n1 _ (by omega) (by omega)).trans v1, (n1 _ (by omega) (by omega)).trans v2, (n1 _ (by omega) (by omega)).trans v3, (n1 _ (by omega) (by omega)).trans v4, ?_, ?_, fun i hi => ?_, fun i hi => ?_, fun i hi => ?_⟩
          · rw [frF_len]; exact (n1 _ (by omega) (by omega)).trans v5
          · show _ = nI ((fH l[k]).map (hnN (nd k))).length
            rw [List.length_map]; exact (n1 _ (by omega) (by omega)).trans v6
          · have hi' := hi
            rw [frF_len] at hi'
            rw [← opA_at hi, ← orA_at hi, F13.1 _ _ (by unfold dChF; omega), F13.1 _ _ (by unfold dChF; omega)]
            exact c12 i hi'
          · have hi' : i < (fH l[k]).length := by
              have hi : i < ((fH l[k]).map (hnN (nd k))).length := hi
              rw [List.length_map] at hi; exact hi
            have : (fH (frF (nd k) l[k]))[i] = hnN (nd k) (fH l[k])[i] := List.getElem_map (hnN (nd k))
            rw [this]; exact h13 i hi'
          · rw [frF_len] at hi
            rw [a13 i hi, aimL_fr]
            congr 1
            congr 1
            show _ = ((fH l[k]).map (hnN (nd k))).any (fun h => decide (hG h = i))
            rw [List.any_map]
            rfl
        · obtain ⟨k4, kf⟩ := kt k hk (by omega)
          refine ⟨k4, kf.fr2 (fun a i b1 b2 b3 b4 b5 b6 b7 b8 => ?_)⟩
          have hl4 : (fC (frF (nd k) l[k])).length ≤ 400 := by rw [frF_len]; exact k4
          have hl6 : (fH (frF (nd k) l[k])).length ≤ 6 := by
            show ((fH l[k]).map (hnN (nd k))).length ≤ 6
            rw [List.length_map]; exact (hok.2.2.1 k hk).2.2.2.2.2.2.2.2.2.1
          rw [F13.1 _ _ (by unfold dChF; omega), F12.1 _ _ (by unfold dCoF; omega), F11.1 _ _ (by unfold dHeF; omega), F8.1 _ _ (by omega)]
    · have := hfit.1 f hfl
      rw [hnd] at this; exact this
end
