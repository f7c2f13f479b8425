section
variable {s : yS} {g g2 p n : Nat} {l : List Fn} {ps : PS} {S : List Int32} {f i : Nat} {nd : Nat → Bool}
def dCoF (g2 f a i : Nat) : Prop := (a = g2 + 7 ∨ a = g2 + 8 ∨ a = g2 + 11) ∧ f * 400 ≤ i ∧ i < f * 400 + 400
theorem any_take {α : Type} {c : List α} {q : α → Bool} {i : Nat} (h : i < c.length) : (c.take (i + 1)).any q = ((c.take i).any q || q c[i]) := by
  rw [List.take_succ_eq_append_getElem h, List.any_append, List.any_cons, List.any_nil, Bool.or_false]
set_option maxHeartbeats 1000000 in
theorem c_copyCode {Q : yS → Prop} (hok : pgOK l) (hs : srC s g p l ps S) (hg2 : gOK g2) (hne : g ≠ g2) (hf : f < l.length) (hmv : ∀ i, i ≤ (fC l[f]).length → sI s 122 i = nI (mv nd i)) (h4 : mv nd (fC l[f]).length ≤ 400) (haz : ∀ i, i < mv nd (fC l[f]).length → (sI s (g2 + 11)) (f * 400 + i) = 0)
    (H : ∀ s', frM (dCoF g2 f) s s' → (∀ j, j < mv nd (fC l[f]).length → (sI s' (g2 + 7)) (f * 400 + j) = nI (opA (frF nd l[f]) j) ∧ (sI s' (g2 + 8)) (f * 400 + j) = orA (frF nd l[f]) j) → (∀ i, i < mv nd (fC l[f]).length → (sI s' (g2 + 11)) (f * 400 + i) = bI ((fC l[f]).any (jmA nd i))) → Q s') : W_X0_copyCode s g g2 (nI f) Q := by
  have hfo := hok.2.2.1 f hf
  have h400 := hfo.2.2.2.2.2.2.2.2.1
  have h12 := hok.2.1
  have hgv : g = 37 ∨ g = 55 ∨ g = 73 := hs.1
  have hgv2 : g2 = 37 ∨ g2 = 55 ∨ g2 = 73 := hg2
  have hin : vp_in (nI f) 12 := nI_inU (by omega) (by omega)
  have ne8 : ¬ 122 = g2 + 8 := by omega
  unfold W_X0_copyCode
  rw [nI_mul]
  intro x1 e1
  subst e1
  intro P10 hP10
  rw [nI_ix (n := f) (by omega)] at hP10
  have pgt : ∀ {t : yS}, frM (dCoF g2 f) s t → pgC t g l := fun Ft => hs.2.2.1.fr (fun a i ha => Ft.1 a i (by unfold dCoF; omega))
  have mvt : ∀ {t : yS}, frM (dCoF g2 f) s t → ∀ i, i ≤ (fC l[f]).length → sI t 122 i = nI (mv nd i) := fun Ft i hi => (Ft.1 _ _ (by unfold dCoF; omega)).trans (hmv i hi)
  suffices hL : ∀ (r i : Nat) (t : yS), i + r = (fC l[f]).length → frM (dCoF g2 f) s t → (∀ j, j < mv nd i → (sI t (g2 + 7)) (f * 400 + j) = nI (opA (frF nd l[f]) j) ∧ (sI t (g2 + 8)) (f * 400 + j) = orA (frF nd l[f]) j) → (∀ k, k < mv nd (fC l[f]).length → (sI t (g2 + 11)) (f * 400 + k) = bI (((fC l[f]).take i).any (jmA nd k))) → P10 (nI i) t from
    hL _ 0 s (Nat.zero_add _) frM.rfl' (fun j hj => by rw [mv_0] at hj; omega) (fun k hk => haz k hk)
  intro r
  induction r with
  | zero =>
    intro i t hi Ft ct at'
    obtain rfl : i = (fC l[f]).length := by omega
    apply hP10
    rw [((pgt Ft).2 f hf).2.2.2.2.1]
    refine ⟨hin, fun _ => H t Ft ct (fun k hk => ?_), fun hz => absurd ((nI_leU (by omega) (by omega)).mpr (Nat.le_refl _)) hz⟩
    have := at' k hk
    rw [List.take_length] at this; exact this
  | succ r ih =>
    intro i t hi Ft ct at'
    have hil : i < (fC l[f]).length := by omega
    have hco := ((pgt Ft).2 f hf).2.2.2.2.2.2.1 i hil
    rw [← opA_at hil, ← orA_at hil] at hco
    have hio := hfo.2.2.2.2.2.2.2.2.2.2.1 _ (List.getElem_mem hil)
    have o29 : opA l[f] i ≤ 29 := by rw [opA_at hil]; exact hio.1
    have oJ : 17 < opA l[f] i ∧ opA l[f] i < 21 → ∃ k, k < (fC l[f]).length ∧ orA l[f] i = nI k := fun h => by rw [opA_at hil] at h; rw [orA_at hil]; exact hio.2.2.1 h
    have m1 := mvt Ft i (by omega)
    have m2 := mvt Ft (i + 1) (by omega)
    have ms := mv_s (nd := nd) (i := i)
    have mg := mv_ge (nd := nd) (i := i + 1)
    have ml := mv_le (nd := nd) (i := i + 1) (j := (fC l[f]).length) (by omega)
    have hin1 : vp_in (nI (f * 400 + i)) 4800 := nI_inU (by omega) (by omega)
    have hin2 : vp_in (nI (i + 1)) 401 := nI_inU (by omega) (by omega)
    have hin3 : vp_in (nI i) 401 := nI_inU (by omega) (by omega)
    apply hP10
    rw [((pgt Ft).2 f hf).2.2.2.2.1]
    refine ⟨hin, fun hz => absurd ((nI_leU (by omega) (by omega)).mp hz) (by omega), fun _ => ?_⟩
    rw [nI_addU, nI_ix (n := f * 400 + i) (by omega), hco.1, hco.2]
    refine ⟨hin1, ?_⟩
    intro x6 e6
    subst e6
    refine ⟨hin1, ?_⟩
    intro x8 e8
    subst e8
    rw [nI_s, nI_ix (n := i + 1) (by omega), nI_ix (n := i) (by omega), m1, m2, nI_addU, nI_p (by omega), show f * 400 + mv nd (i + 1) - 1 = f * 400 + (mv nd (i + 1) - 1) by omega]
    refine ⟨hin2, ?_⟩
    intro x10 e10
    subst e10
    refine ⟨hin2, hin3, ?_⟩
    obtain ⟨fo1, fo2⟩ := frF_op (nd := nd) (x := l[f]) hil
    have hinx : vp_in (nI (f * 400 + (mv nd (i + 1) - 1))) 4800 := nI_inU (by omega) (by omega)
    intro P104 hP104
    -- behind the guard
    have main : ∀ t2 : yS, frM (dCoF g2 f) s t2 → (∀ j, j < mv nd (i + 1) - 1 → (sI t2 (g2 + 7)) (f * 400 + j) = nI (opA (frF nd l[f]) j) ∧ (sI t2 (g2 + 8)) (f * 400 + j) = orA (frF nd l[f]) j) → (∀ k, k < mv nd (fC l[f]).length → (sI t2 (g2 + 11)) (f * 400 + k) = bI (((fC l[f]).take i).any (jmA nd k))) → P104 t2 := by
      intro t2 F2 c2 a2
      apply hP104
      rw [nI_ix (n := f * 400 + (mv nd (i + 1) - 1)) (by omega)]
      refine ⟨hinx, ?_⟩
      intro s15 e15
      refine ⟨hinx, ?_⟩
      intro s17 e17
      have F17 : frM (dCoF g2 f) s s17 := by subst e17; subst e15; exact (F2.wI (by unfold dCoF; omega)).wI (by unfold dCoF; omega)
      have c17 : ∀ j, j < mv nd (i + 1) - 1 → (sI s17 (g2 + 7)) (f * 400 + j) = nI (opA (frF nd l[f]) j) ∧ (sI s17 (g2 + 8)) (f * 400 + j) = orA (frF nd l[f]) j := fun j hj => by
        subst e17; subst e15
        rw [sI_w, if_neg (by omega), sI_w, if_neg (by omega), sI_w, if_neg (by omega), sI_w, if_neg (by omega)]; exact c2 j hj
      have d17 : (sI s17 (g2 + 7)) (f * 400 + (mv nd (i + 1) - 1)) = nI (opA l[f] i) ∧ (sI s17 (g2 + 8)) (f * 400 + (mv nd (i + 1) - 1)) = orA l[f] i := by
        subst e17; subst e15
        exact ⟨by rw [sI_w, if_neg (by omega), sI_w, if_pos ⟨rfl, rfl⟩], by rw [sI_w, if_pos ⟨rfl, rfl⟩]⟩
      have a17 : ∀ k, k < mv nd (fC l[f]).length → (sI s17 (g2 + 11)) (f * 400 + k) = bI (((fC l[f]).take i).any (jmA nd k)) := fun k hk => by
        subst e17; subst e15; rw [sI_w, if_neg (by omega), sI_w, if_neg (by omega)]; exact a2 k hk
      clear e17 e15
      have nx : ∀ s19 : yS, frM (dCoF g2 f) s s19 → (∀ j, j < mv nd (i + 1) → (sI s19 (g2 + 7)) (f * 400 + j) = nI (opA (frF nd l[f]) j) ∧ (sI s19 (g2 + 8)) (f * 400 + j) = orA (frF nd l[f]) j) → (∀ k, k < mv nd (fC l[f]).length → (sI s19 (g2 + 11)) (f * 400 + k) = bI (((fC l[f]).take (i + 1)).any (jmA nd k))) → ∀ x20 : Int32, x20 = nI (i + 1) → P10 x20 s19 := by
        intro s19 F19 c19 a19 x20 e20
        subst e20
        exact ih (i + 1) s19 (by omega) F19 c19 a19
      unfold W_X5_isJump
      have hcx : ∀ k, k ≤ 29 → (nI (opA l[f] i) = nI k ↔ opA l[f] i = k) := fun k hk => nI_inj (by omega) (by omega)
      rw [hcx 18 (by omega), hcx 19 (by omega), hcx 20 (by omega)]
      have no : ¬ (17 < opA l[f] i ∧ opA l[f] i < 21) → ∀ x20 : Int32, x20 = nI (i + 1) → P10 x20 s17 := by
        intro hn
        refine nx s17 F17 (fun j hj => ?_) (fun k hk => ?_)
        · by_cases c : j = mv nd (i + 1) - 1
          · subst c; rw [fo1, fo2, if_neg hn]; exact d17
          · exact c17 j (by omega)
        · rw [a17 k hk, any_take hil]
          have : jmA nd k (fC l[f])[i] = false := by
            unfold jmA; apply decide_eq_false
            rw [opA_at hil] at hn
            rintro ⟨h1, h2, _⟩; exact hn ⟨h1, h2⟩
          rw [this, Bool.or_false]
      have yes : (17 < opA l[f] i ∧ opA l[f] i < 21) → vp_in (orA l[f] i) 401 ∧ vp_in (nI (f * 400 + (mv nd (i + 1) - 1))) 4800 ∧ ∀ s23 : yS, s23 = wI s17 (g2 + 8) (f * 400 + (mv nd (i + 1) - 1)) (sI s17 122 (ix (orA l[f] i))) → vp_in (orA l[f] i) 401 ∧ vp_in (nI (f * 400) + (sI s23 122 (ix (orA l[f] i)))) 4800 ∧ ∀ s26 : yS, s26 = wI s23 (g2 + 11) (ix (nI (f * 400) + (sI s23 122 (ix (orA l[f] i))))) (vp_nar .boolean 1) → ∀ x20 : Int32, x20 = nI (i + 1) → P10 x20 s26 := by
        intro hj
        obtain ⟨k, hk, ek⟩ := oJ hj
        have mk := mvt F17 k (by omega)
        have mkl := mv_lt (nd := nd) hk
        rw [ek, nI_ix (by omega), mk]
        have hk4 : vp_in (nI k) 401 := nI_inU (by omega) (by omega)
        refine ⟨hk4, hinx, ?_⟩
        intro s23 e23
        have mk23 : sI s23 122 k = nI (mv nd k) := by
          rw [e23, sI_w, if_neg (fun hh => ne8 hh.1)]; exact mk
        rw [mk23, nI_addU, nI_ix (n := f * 400 + mv nd k) (by omega)]
        refine ⟨hk4, nI_inU (by omega) (by omega), ?_⟩
        intro s26 e26
        refine nx s26 (by subst e26; subst e23; exact (F17.wI (by unfold dCoF; omega)).wI (by unfold dCoF; omega)) (fun j hj2 => ?_) (fun k2 hk2 => ?_)
        · subst e26; subst e23
          rw [sI_w, if_neg (by omega), sI_w, if_neg (by omega), sI_w, if_neg (by omega)]
          by_cases c : j = mv nd (i + 1) - 1
          · subst c
            rw [sI_w, if_pos ⟨rfl, rfl⟩, fo1, fo2, if_pos hj, ek, nI_ix (by omega)]
            exact ⟨d17.1, rfl⟩
          · rw [sI_w, if_neg (by omega)]; exact c17 j (by omega)
        · rw [any_take hil]
          have hjm : jmA nd k2 (fC l[f])[i] = decide (mv nd k = k2) := by
            unfold jmA insN
            rw [opA_at hil] at hj
            rw [orA_at hil] at ek
            rw [if_pos hj, ek, nI_ix (by omega)]
            apply decide_eq_decide.mpr
            rw [nI_inj (by omega) (by omega)]
            exact ⟨fun h => h.2.2, fun h => ⟨hj.1, hj.2, h⟩⟩
          rw [hjm]
          subst e26; subst e23
          by_cases c : k2 = mv nd k
          · subst c; rw [sI_w, if_pos ⟨rfl, rfl⟩, decide_eq_true rfl, Bool.or_true]; rfl
          · rw [sI_w, if_neg (by omega), sI_w, if_neg (by omega), a17 k2 hk2, decide_eq_false (by omega), Bool.or_false]
      have yes2 : (17 < opA l[f] i ∧ opA l[f] i < 21) → ∀ P160 : yS → Prop, (∀ (s19 : yS), (∀ x20 : Int32, x20 = nI (i + 1) → P10 x20 s19) → P160 s19) → vp_in (orA l[f] i) 401 ∧ vp_in (nI (f * 400 + (mv nd (i + 1) - 1))) 4800 ∧ ∀ s23 : yS, s23 = wI s17 (g2 + 8) (f * 400 + (mv nd (i + 1) - 1)) (sI s17 122 (ix (orA l[f] i))) → vp_in (orA l[f] i) 401 ∧ vp_in (nI (f * 400) + (sI s23 122 (ix (orA l[f] i)))) 4800 ∧ ∀ s26 : yS, s26 = wI s23 (g2 + 11) (ix (nI (f * 400) + (sI s23 122 (ix (orA l[f] i))))) (vp_nar .boolean 1) → P160 s26 := by
        intro hj P160 hP160
        obtain ⟨y1, y2, y3⟩ := yes hj
        refine ⟨y1, y2, fun s23 e23 => ?_⟩
        obtain ⟨y4, y5, y6⟩ := y3 s23 e23
        exact ⟨y4, y5, fun s26 e26 => hP160 _ (y6 s26 e26)⟩
      refine ⟨fun h P160 hP160 => ⟨fun hz => absurd hz (by decide), fun _ => yes2 (by omega) P160 hP160⟩, fun n18 => ⟨fun h P160 hP160 => ⟨fun hz => absurd hz (by decide), fun _ => yes2 (by omega) P160 hP160⟩, fun n19 => ⟨fun n20 P160 hP160 => ⟨fun _ => hP160 _ (no (by omega)), fun hz => absurd rfl hz⟩, fun h P160 hP160 => ⟨fun hz => absurd hz (by decide), fun _ => yes2 (by omega) P160 hP160⟩⟩⟩⟩
    cases hn : nd i with
    | false =>
      rw [hn, if_neg (by decide)] at ms
      rw [nI_sub (by omega), nI_inj (by omega) (by omega)]
      refine ⟨fun _ => main t Ft (fun j hj => ct j (by omega)) at', fun hz => absurd hz (by omega)⟩
    | true =>
      rw [hn, if_pos rfl] at ms
      obtain ⟨fg1, fg2⟩ := frF_gd (nd := nd) (x := l[f]) hil hn
      have hing : vp_in (nI (f * 400 + mv nd i)) 4800 := nI_inU (by omega) (by omega)
      rw [nI_sub (by omega), nI_inj (by omega) (by omega), nI_p (by omega), show f * 400 + (mv nd (i + 1) - 1) - 1 = f * 400 + mv nd i by omega, nI_ix (n := f * 400 + mv nd i) (by omega)]
      refine ⟨fun hz => absurd (by omega) hz, fun _ => ⟨hing, ?_⟩⟩
      intro s28 e28
      refine ⟨hing, ?_⟩
      intro s30 e30
      refine main s30 (by subst e30; subst e28; exact (Ft.wI (by unfold dCoF; omega)).wI (by unfold dCoF; omega)) (fun j hj => ?_) (fun k hk => ?_)
      · subst e30; subst e28
        by_cases c : j = mv nd i
        · subst c
          rw [sI_w, if_neg (by omega), sI_w, if_pos ⟨rfl, rfl⟩, sI_w, if_pos ⟨rfl, rfl⟩, fg1, fg2]
          exact ⟨rfl, rfl⟩
        · rw [sI_w, if_neg (by omega), sI_w, if_neg (by omega), sI_w, if_neg (by omega), sI_w, if_neg (by omega)]
          exact ct j (by omega)
      · subst e30; subst e28
        rw [sI_w, if_neg (by omega), sI_w, if_neg (by omega)]; exact at' k hk
end
