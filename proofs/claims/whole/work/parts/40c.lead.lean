theorem srt_le {α : Type} {f : α → Nat} {n : Nat} : ∀ {l : List α}, l.Pairwise (fun a b => f a ≤ f b) → ∀ (i : Nat) (h : i < l.length), (f l[i] < n ↔ i < l.countP (fun a => decide (f a < n)))
  | [], _, i, h => by simp at h
  | a :: l, hs, i, h => by
    rw [List.pairwise_cons] at hs
    by_cases ha : f a < n
    · rw [List.countP_cons_of_pos (by simpa using ha)]
      cases i with
      | zero => exact ⟨fun _ => by omega, fun _ => ha⟩
      | succ i =>
        have := srt_le (f := f) (n := n) hs.2 i (by simp at h; omega)
        rw [show (a :: l)[i + 1] = l[i]'(by simp at h; omega) from rfl, this]; omega
    · have e0 : l.countP (fun a => decide (f a < n)) = 0 := by
        rw [List.countP_eq_zero]
        intro x hx; have := hs.1 x hx; simp; omega
      rw [List.countP_cons_of_neg (by simpa using ha), e0]
      cases i with
      | zero => exact ⟨fun hh => absurd hh ha, fun hh => by omega⟩
      | succ i =>
        have := srt_le (f := f) (n := n) hs.2 i (by simp at h; omega)
        rw [show (a :: l)[i + 1] = l[i]'(by simp at h; omega) from rfl, this, e0]; omega
def lowV (ps : PS) (c i : Nat) : Nat → Int32 := fun d => Int32.ofInt (low ps c i d)
/-- one node as a set -/
def one (n : Nat) : Int32 := 1 <<< (nI n &&& 31)
theorem one_bt {n t : Nat} (h : n < 32) : bt (one n) t = decide (t = n) := bt_one h
section
variable {s : yS} {p : Nat}
def smC (s : yS) (p : Nat) : Prop := (p = 3 ∨ p = 20) ∧ sR s 103 0 = p + 1
theorem smC.kd {s : yS} {p : Nat} (h : smC s p) : kd p = some (7, 0) := by
  rcases h.1 with rfl | rfl <;> rfl
theorem c_lead {ps : PS} {c n : Nat} {v : Nat → Int32} {Q : Int32 → Prop} (hm : smC s p) (hp : poC s p ps) (hwf : wfI ps) (hl : lenP ps) (hres : resOK ps) (hc : c < 16) (hn : n < (pN ps).length) (hv : vCl s 104 v) (H : Q (stepP ps c v (one n))) : W_X7_lead s (nI ((pC ps).length + n)) (nI c) Q := by
  have l1 := hl.1
  have l2 := hl.2.1
  have l3 := hl.2.2.1
  have l4 := hl.2.2.2
  have hA := hp.2.2.2.2.1 n (by omega)
  have hB := hp.2.2.2.2.1 (n + 1) (by omega)
  have hsrt := hwf.2.2.2.2.2.2.2.2.2.1
  have cA := srt_le (f := wO) (n := n) hsrt
  have cB := srt_le (f := wO) (n := n + 1) hsrt
  have hAle : (pW ps).countP (fun w => decide (wO w < n)) ≤ (pW ps).length := List.countP_le_length
  have hBle : (pW ps).countP (fun w => decide (wO w < n + 1)) ≤ (pW ps).length := List.countP_le_length
  have hAB : (pW ps).countP (fun w => decide (wO w < n)) ≤ (pW ps).countP (fun w => decide (wO w < n + 1)) := by
    apply List.countP_mono_left
    intro w _ hw; simp at hw ⊢; omega
  generalize (pW ps).countP (fun w => decide (wO w < n)) = A at *
  generalize (pW ps).countP (fun w => decide (wO w < n + 1)) = B at *
  unfold W_X7_lead
  refine ⟨p, hm.2, hm.kd, nI_inU (by omega) (by omega), ?_⟩
  intro P13 hP13 x14 e14
  rw [nI_ix (n := (pC ps).length + n) (by omega), hA] at e14
  subst e14
  suffices hL : ∀ (r i : Nat) (x : Int32), i + r = B → A ≤ i → (∀ t, bt x t = true ↔ ∃ (k : Nat) (hk : k < (pW ps).length), A ≤ k ∧ k < i ∧ wGo ps c v (pW ps)[k] = true ∧ t = tgt ps (pW ps)[k]) → P13 x (nI ((pR ps).length + i)) from
    hL (B - A) A 0 (by omega) (by omega) (fun t => by rw [bt_0]; exact ⟨fun hh => absurd hh (by decide), fun ⟨k, _, h1, h2, _⟩ => by omega⟩)
  intro r
  induction r with
  | zero =>
    intro i x hi hAi hx
    apply hP13
    refine ⟨p, hm.2, hm.kd, ?_⟩
    rw [nI_s, nI_ix (n := (pC ps).length + n + 1) (by omega), Nat.add_assoc, hB, nI_leU (by omega) (by omega)]
    refine ⟨nI_inU (by omega) (by omega), fun _ => ?_, fun hh => absurd (by omega) hh⟩
    have e : x = stepP ps c v (one n) := by
      apply bt_ext
      intro t ht
      rw [Bool.eq_iff_iff, hx t, stepP_bt hres hl]
      constructor
      · rintro ⟨k, hk, h1, h2, h3, h4⟩
        refine ⟨_, List.getElem_mem hk, ?_, h3, h4⟩
        rw [one_bt (by omega), decide_eq_true_iff]
        have a1 : ¬ wO (pW ps)[k] < n := fun hh => by have := (cA k hk).mp hh; omega
        have a2 := (cB k hk).mpr (by omega)
        omega
      · rintro ⟨w, hw, h1, h3, h4⟩
        obtain ⟨k, hk, e⟩ := List.getElem_of_mem hw
        rw [one_bt (by omega), decide_eq_true_iff] at h1
        subst e
        have a1 : ¬ k < A := fun hh => by have := (cA k hk).mpr hh; omega
        have a2 := (cB k hk).mp (by omega)
        exact ⟨k, hk, by omega, by omega, h3, h4⟩
    rw [e]; exact H
  | succ r ih =>
    intro i x hi hAi hx
    have hil : i < (pW ps).length := by omega
    have hql : (pR ps).length + i < (qL ps).length := by rw [qL_len]; omega
    have hqw := qL_gW hql rfl hil
    apply hP13
    refine ⟨p, hm.2, hm.kd, ?_⟩
    rw [nI_s, nI_ix (n := (pC ps).length + n + 1) (by omega), Nat.add_assoc (pC ps).length n 1, hB, nI_leU (by omega) (by omega)]
    refine ⟨nI_inU (by omega) (by omega), fun hh => absurd hh (by omega), fun _ => ⟨p, hm.2, hm.kd, ?_⟩⟩
    refine c_holds hp hwf hl hres hc hv hql (fun g h1 h2 => ⟨_, mem_lkW hil (by rw [hqw] at h1; exact h1) (by rw [hqw] at h2; exact h2)⟩) ?_
    rw [hqw]
    dsimp only
    have hgo : (decide (wCl (pW ps)[i] = -1 ∨ wCl (pW ps)[i] = (c : Int)) && qHold ps c v (wF (pW ps)[i]) (wM (pW ps)[i])) = wGo ps c v (pW ps)[i] := rfl
    rw [hgo]
    intro P61 hP61
    have nxt : ∀ y : Int32, (∀ t, bt y t = true ↔ bt x t = true ∨ (wGo ps c v (pW ps)[i] = true ∧ t = tgt ps (pW ps)[i])) → P61 y := by
      intro y hy
      apply hP61
      intro x10 e10; subst e10; rw [nI_s]
      refine ih (i + 1) y (by omega) (by omega) (fun t => ?_)
      rw [hy t, hx t]
      constructor
      · rintro (⟨k, hk, h1, h2, h3⟩ | h3)
        · exact ⟨k, hk, h1, by omega, h3⟩
        · exact ⟨i, hil, by omega, by omega, h3⟩
      · rintro ⟨k, hk, h1, h2, h3⟩
        by_cases ck : k = i
        · subst ck; exact Or.inr h3
        · exact Or.inl ⟨k, hk, h1, by omega, h3⟩
    cases hw : wGo ps c v (pW ps)[i]
    · refine ⟨fun _ => nxt x (fun t => ?_), fun hz => absurd rfl hz⟩
      rw [hw]; simp
    · refine ⟨fun hz => absurd hz (by decide), fun _ => ⟨p, hm.2, hm.kd, nI_inU (by omega) (by omega), ?_⟩⟩
      intro x13 e13
      have hto := hp.2.2.2.2.2.2.2.1 i hil hil
      rw [nI_ix (n := (pR ps).length + i) (by omega), hto] at e13
      have htg := res_tgt hres hil
      refine nxt x13 (fun t => ?_)
      subst e13
      have e2 : (pN ps).idxOf (wN (pW ps)[i]) = tgt ps (pW ps)[i] := rfl
      rw [e2, bt_or, bt_one (by omega), Bool.or_eq_true, decide_eq_true_iff, hw]; simp
/-- where nodes lead, for all letters -/
def ndC (s : yS) (ps : PS) : Prop := ∀ c i n, c < 16 → i < nLet ps c → n < (pN ps).length → sI s 105 (n * 512 + (offs ps c + i)) = stepP ps c (lowV ps c i) (one n)
theorem let_of {ps : PS} {a : Nat} (h : a < offs ps 16) : ∃ c i, c < 16 ∧ i < nLet ps c ∧ a = offs ps c + i := by
  have : ∀ m, a < offs ps m → ∃ c i, c < m ∧ i < nLet ps c ∧ a = offs ps c + i := by
    intro m
    induction m with
    | zero => intro h; exact absurd h (Nat.not_lt_zero _)
    | succ m ih =>
      intro h
      by_cases c : a < offs ps m
      · obtain ⟨c', i, h1, h2, h3⟩ := ih c; exact ⟨c', i, by omega, h2, h3⟩
      · have : offs ps (m + 1) = offs ps m + nLet ps m := rfl
        exact ⟨m, a - offs ps m, by omega, by omega, by omega⟩
  exact this 16 h
def dNd (a i : Nat) : Prop := a = 104 ∨ a = 105
theorem ltF.fr {s' : yS} {ps : PS} (h : ltF s p ps) (h1 : ∀ a i, (a = p + 11 ∨ a = p + 12 ∨ a = p + 13) → sI s' a i = sI s a i) : ltF s' p ps :=
  ⟨h.1, ⟨fun c hc => (h1 _ _ (by omega)).trans (h.2.1.1 c hc), fun c k hk hh => ⟨(h1 _ _ (by omega)).trans (h.2.1.2 c k hk hh).1, fun i hi => (h1 _ _ (by omega)).trans ((h.2.1.2 c k hk hh).2 i hi)⟩⟩, (h1 _ _ (by omega)).trans h.2.2⟩
theorem c_leadNodes {ps : PS} {Q : yS → Prop} (hm : smC s p) (hp : poC s p ps) (hlt : ltF s p ps) (hwf : wfI ps) (hl : lenP ps) (hres : resOK ps) (hL : sI s 103 1 = nI (offs ps 16)) (H : ∀ s', frM dNd s s' → ndC s' ps → Q s') : W_X7_leadNodes s Q := by
  have hp3 := hm.1
  have l1 := hl.1
  have l3 := hl.2.2.1
  have ho := hlt.1
  unfold W_X7_leadNodes
  intro P2 hP2
  suffices hA : ∀ (r a : Nat) (s2 : yS), a + r = offs ps 16 → frM dNd s s2 → (∀ c i n, c < 16 → i < nLet ps c → offs ps c + i < a → n < (pN ps).length → sI s2 105 (n * 512 + (offs ps c + i)) = stepP ps c (lowV ps c i) (one n)) → P2 (nI a) s2 from
    hA (offs ps 16) 0 s (by omega) frM.rfl' (fun c i n _ _ h _ => by omega)
  intro r
  induction r with
  | zero =>
    intro a s2 ha F2 h2
    apply hP2
    rw [F2.1 _ _ (by unfold dNd; omega), hL, nI_leU (by omega) (by omega)]
    refine ⟨fun _ => H s2 F2 (fun c i n hc hi hn => h2 c i n hc hi ?_ hn), fun hh => absurd (by omega) hh⟩
    have h3 : offs ps (c + 1) ≤ offs ps 16 := offs_mono ps (by omega)
    have h4 : offs ps (c + 1) = offs ps c + nLet ps c := rfl
    omega
  | succ r ih =>
    intro a s2 ha F2 h2
    obtain ⟨c, i, hc, hi, hai⟩ := let_of (ps := ps) (a := a) (by omega)
    have hm2 : smC s2 p := ⟨hp3, (F2.2.2 _ _).trans hm.2⟩
    apply hP2
    rw [F2.1 _ _ (by unfold dNd; omega), hL, nI_leU (by omega) (by omega)]
    refine ⟨fun hh => absurd hh (by omega), fun _ => ⟨p, hm2.2, hm2.kd, ?_⟩⟩
    have lt2 := hlt.fr (s' := s2) (fun a i _ => F2.1 _ _ (by unfold dNd; omega))
    rw [hai]
    refine c_callAt lt2 hc hi ?_
    intro P24 hP24
    suffices hK : ∀ (u k : Nat) (s6 : yS), k + u = 9 → frM dNd s s6 → (∀ x, sI s6 105 x = sI s2 105 x) → (∀ d, d < k → sI s6 104 d = lowV ps c i d) → P24 (nI k) s6 from
      hK 9 0 s2 (by omega) F2 (fun _ => rfl) (fun d hd => by omega)
    intro u
    induction u with
    | zero =>
      intro k s6 hk F6 f6 v6
      have hk9 : k = 9 := by omega
      subst hk9
      apply hP24
      refine ⟨fun _ => ?_, fun hh => absurd (by decide) hh⟩
      intro P56 hP56
      suffices hN : ∀ (q n : Nat) (s8 : yS), n + q = (pN ps).length → frM dNd s s8 → (∀ d, d < 9 → sI s8 104 d = lowV ps c i d) → (∀ c' i' n', c' < 16 → i' < nLet ps c' → offs ps c' + i' < a → n' < (pN ps).length → sI s8 105 (n' * 512 + (offs ps c' + i')) = stepP ps c' (lowV ps c' i') (one n')) → (∀ n', n' < n → sI s8 105 (n' * 512 + (offs ps c + i)) = stepP ps c (lowV ps c i) (one n')) → P56 (nI n) s8 from
        hN (pN ps).length 0 s6 (by omega) F6 v6 (fun c' i' n' h3 h4 h5 h6 => by rw [f6]; exact h2 c' i' n' h3 h4 h5 h6) (fun n' hn' => by omega)
      intro q
      induction q with
      | zero =>
        intro n s8 hn F8 v8 g8 k8
        have hm8 : smC s8 p := ⟨hp3, (F8.2.2 _ _).trans hm.2⟩
        have p8 : poC s8 p ps := hp.fr (fun a i ha => F8.1 _ _ (by unfold dNd; omega))
        apply hP56
        refine ⟨p, hm8.2, hm8.kd, ?_⟩
        rw [p8.2.1, nI_leU (by omega) (by omega)]
        refine ⟨fun _ => ?_, fun hh => absurd (by omega) hh⟩
        intro x10 e10; subst e10
        rw [nI_s, ← hai]
        refine ih (a + 1) s8 (by omega) F8 (fun c' i' n' h3 h4 h5 h6 => ?_)
        by_cases ce : offs ps c' + i' = a
        · have hcc : c' = c := by
            by_cases c1 : c' < c
            · have h7 : offs ps (c' + 1) ≤ offs ps c := offs_mono ps (by omega)
              have h8 : offs ps (c' + 1) = offs ps c' + nLet ps c' := rfl
              omega
            · by_cases c2 : c < c'
              · have h7 : offs ps (c + 1) ≤ offs ps c' := offs_mono ps (by omega)
                have h8 : offs ps (c + 1) = offs ps c + nLet ps c := rfl
                omega
              · omega
          subst hcc
          have hii : i' = i := by omega
          subst hii
          exact k8 n' (by omega)
        · exact g8 c' i' n' h3 h4 (by omega) h6
      | succ q ihq =>
        intro n s8 hn F8 v8 g8 k8
        have hm8 : smC s8 p := ⟨hp3, (F8.2.2 _ _).trans hm.2⟩
        have p8 : poC s8 p ps := hp.fr (fun a i ha => F8.1 _ _ (by unfold dNd; omega))
        apply hP56
        refine ⟨p, hm8.2, hm8.kd, ?_⟩
        rw [p8.2.1, nI_leU (by omega) (by omega)]
        refine ⟨fun hh => absurd hh (by omega), fun _ => ⟨p, hm8.2, hm8.kd, ?_⟩⟩
        rw [p8.1, nI_addU]
        refine c_lead hm8 p8 hwf hl hres hc (by omega) v8 ?_
        rw [nI_mul, nI_addU, nI_ix (n := n * 512 + (offs ps c + i)) (by omega)]
        refine ⟨nI_inU (by omega) (by omega), ?_⟩
        intro s14 e14 x15 e15
        subst e15; rw [nI_s]
        refine ihq (n + 1) s14 (by omega) (by subst e14; exact F8.wI (Or.inr rfl)) (fun d hd => by subst e14; rw [sI_w, if_neg (by omega)]; exact v8 d hd) (fun c' i' n' h3 h4 h5 h6 => ?_) (fun n' hn' => ?_)
        · subst e14
          have h7 : offs ps (c' + 1) ≤ offs ps 16 := offs_mono ps (by omega)
          have h8 : offs ps (c' + 1) = offs ps c' + nLet ps c' := rfl
          rw [sI_w, if_neg (by omega)]; exact g8 c' i' n' h3 h4 h5 h6
        · subst e14
          by_cases cn : n' = n
          · subst cn; rw [sI_w, if_pos ⟨rfl, rfl⟩]
          · rw [sI_w, if_neg (by omega)]; exact k8 n' (by omega)
    | succ u ihu =>
      intro k s6 hk F6 f6 v6
      have hm6 : smC s6 p := ⟨hp3, (F6.2.2 _ _).trans hm.2⟩
      have lt6 := hlt.fr (s' := s6) (fun a i _ => F6.1 _ _ (by unfold dNd; omega))
      apply hP24
      rw [nI_leU (by omega) (by omega)]
      refine ⟨fun hh => absurd hh (by omega), fun _ => ⟨p, hm6.2, hm6.kd, ?_⟩⟩
      refine c_leastAt lt6 hwf hres hc hi (by omega) ?_
      rw [nI_ix (n := k) (by omega)]
      refine ⟨nI_inU (by omega) (by omega), ?_⟩
      intro s19 e19 x20 e20
      subst e20; rw [nI_s]
      refine ihu (k + 1) s19 (by omega) (by subst e19; exact F6.wI (Or.inl rfl)) (fun x => by subst e19; rw [sI_w, if_neg (by omega)]; exact f6 x) (fun d hd => ?_)
      subst e19
      by_cases cd : d = k
      · subst cd; rw [sI_w, if_pos ⟨rfl, rfl⟩]; rfl
      · rw [sI_w, if_neg (by omega)]; exact v6 d (by omega)
theorem c_leadSet {ps : PS} {c i : Nat} {x : Int32} {Q : Int32 → Prop} (hm : smC s p) (hp : poC s p ps) (hwf : wfI ps) (hl : lenP ps) (hres : resOK ps) (ho : offs ps 16 ≤ 512) (hn : ndC s ps) (hc : c < 16) (hi : i < nLet ps c) (H : Q (stepP ps c (lowV ps c i) x)) : W_X7_leadSet s x (nI (offs ps c + i)) Q := by
  have l3 := hl.2.2.1
  have ha : offs ps c + i < 512 := by
    have h7 : offs ps (c + 1) ≤ offs ps 16 := offs_mono ps (by omega)
    have h8 : offs ps (c + 1) = offs ps c + nLet ps c := rfl
    omega
  unfold W_X7_leadSet
  intro P5 hP5
  suffices hL : ∀ (r n : Nat) (y : Int32), n + r = (pN ps).length → (∀ t, bt y t = true ↔ ∃ n', n' < n ∧ bt x n' = true ∧ bt (stepP ps c (lowV ps c i) (one n')) t = true) → P5 y (nI n) from
    hL (pN ps).length 0 0 (by omega) (fun t => by rw [bt_0]; exact ⟨fun hh => absurd hh (by decide), fun ⟨n', h1, _⟩ => by omega⟩)
  intro r
  induction r with
  | zero =>
    intro n y hnr hy
    apply hP5
    refine ⟨p, hm.2, hm.kd, ?_⟩
    rw [hp.2.1, nI_leU (by omega) (by omega)]
    refine ⟨fun _ => ?_, fun hh => absurd (by omega) hh⟩
    have e : y = stepP ps c (lowV ps c i) x := by
      apply bt_ext
      intro t ht
      rw [Bool.eq_iff_iff, hy t, stepP_bt hres hl]
      constructor
      · rintro ⟨n', h1, h2, h3⟩
        rw [stepP_bt hres hl] at h3
        obtain ⟨w, hw, h4, h5, h6⟩ := h3
        rw [one_bt (by omega), decide_eq_true_iff] at h4
        exact ⟨w, hw, by rw [h4]; exact h2, h5, h6⟩
      · rintro ⟨w, hw, h4, h5, h6⟩
        have hwo := (hwf.2.2.2.2.2.2.1 w hw).1
        refine ⟨wO w, by omega, h4, ?_⟩
        rw [stepP_bt hres hl]
        exact ⟨w, hw, by rw [one_bt (by omega)]; simp, h5, h6⟩
    rw [e]; exact H
  | succ r ih =>
    intro n y hnr hy
    apply hP5
    refine ⟨p, hm.2, hm.kd, ?_⟩
    rw [hp.2.1, nI_leU (by omega) (by omega), bit_at (by omega)]
    refine ⟨fun hh => absurd hh (by omega), fun _ => ?_⟩
    intro P43 hP43
    have nxt : ∀ z : Int32, (∀ t, bt z t = true ↔ bt y t = true ∨ (bt x n = true ∧ bt (stepP ps c (lowV ps c i) (one n)) t = true)) → P43 z := by
      intro z hz
      apply hP43
      intro x5 e5; subst e5; rw [nI_s]
      refine ih (n + 1) z (by omega) (fun t => ?_)
      rw [hz t, hy t]
      constructor
      · rintro (⟨n', h1, h2⟩ | h2)
        · exact ⟨n', by omega, h2⟩
        · exact ⟨n, by omega, h2⟩
      · rintro ⟨n', h1, h2⟩
        by_cases cn : n' = n
        · subst cn; exact Or.inr h2
        · exact Or.inl ⟨n', by omega, h2⟩
    cases hb : bt x n
    · exact ⟨fun _ => nxt y (fun t => by rw [hb]; simp), fun hz => absurd hz (by decide)⟩
    · refine ⟨fun hz => absurd rfl hz, fun _ => ?_⟩
      rw [nI_mul, nI_addU, nI_ix (n := n * 512 + (offs ps c + i)) (by omega), hn c i n hc hi (by omega)]
      refine ⟨nI_inU (by omega) (by omega), ?_⟩
      intro x7 e7; subst e7
      exact nxt _ (fun t => by rw [bt_or, Bool.or_eq_true, hb]; simp)
end
