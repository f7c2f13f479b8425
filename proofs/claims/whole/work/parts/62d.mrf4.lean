section
variable {s : yS} {l : List Fn} {r : Fr} {fs : List Fr} {R : List (Nat × Nat)} {q n : Nat}
theorem k_enter {K : Nat} {v : Int32} {Q : yS → Prop} (hK : K < 40) (h111 : sI s 139 111 = nI K)
    (H : ∀ s', frM (fun a i => (a = 139 ∧ i = 111) ∨ ((a = 211 ∨ a = 212 ∨ a = 213) ∧ i = K) ∨ (a = 214 ∧ 12 * K ≤ i ∧ i < 12 * K + 12)) s s' → sI s' 139 111 = nI (K + 1) → sI s' 211 K = v → sI s' 212 K = 0 → sI s' 213 K = 0 → (∀ j, j < 12 → sI s' 214 (12 * K + j) = 0) → Q s') : W_X12_enter s v Q := by
  have inK : vp_in (nI K) 40 := nI_inU (by omega) (by omega)
  unfold W_X12_enter
  rw [h111, nI_ix (n := K) (by omega)]
  refine ⟨inK, ?_⟩
  intro s2 e2
  have h2 : sI s2 139 111 = nI K := by subst e2; rw [sI_w, if_neg (by omega)]; exact h111
  rw [h2, nI_ix (n := K) (by omega)]
  refine ⟨inK, ?_⟩
  intro s4 e4
  have h4 : sI s4 139 111 = nI K := by subst e4; rw [sI_w, if_neg (by omega)]; exact h2
  rw [h4, nI_ix (n := K) (by omega)]
  refine ⟨inK, ?_⟩
  intro s6 e6
  have h6 : sI s6 139 111 = nI K := by subst e6; rw [sI_w, if_neg (by omega)]; exact h4
  have a6 : sI s6 211 K = v := by subst e6; rw [sI_w, if_neg (by omega)]; subst e4; rw [sI_w, if_neg (by omega)]; subst e2; rw [sI_w, if_pos ⟨rfl, rfl⟩]
  have b6 : sI s6 212 K = 0 := by subst e6; rw [sI_w, if_neg (by omega)]; subst e4; rw [sI_w, if_pos ⟨rfl, rfl⟩]
  have c6 : sI s6 213 K = 0 := by subst e6; rw [sI_w, if_pos ⟨rfl, rfl⟩]
  have F6 : frM (fun a i => (a = 139 ∧ i = 111) ∨ ((a = 211 ∨ a = 212 ∨ a = 213) ∧ i = K) ∨ (a = 214 ∧ 12 * K ≤ i ∧ i < 12 * K + 12)) s s6 := by
    subst e6; subst e4; subst e2
    exact ((frM.rfl'.wI (by omega)).wI (by omega)).wI (by omega)
  clear e6 e4 e2
  intro P32 hP32
  suffices hL : ∀ (d k : Nat) (t : yS), k + d = 12 → frM (fun a i => a = 214 ∧ 12 * K ≤ i ∧ i < 12 * K + 12) s6 t → (∀ j, j < k → sI t 214 (12 * K + j) = 0) → P32 (nI k) t from
    hL 12 0 s6 (by omega) frM.rfl' (fun j hj => absurd hj (Nat.not_lt_zero _))
  intro d
  induction d with
  | zero =>
    intro k t hk Ft ht
    obtain rfl : k = 12 := by omega
    apply hP32
    refine ⟨fun _ => ?_, fun hz => absurd (by decide) hz⟩
    rw [Ft.1 139 _ (by omega), h6, nI_s]
    intro s9 e9
    have n9 : ∀ a i, ¬ (a = 139 ∧ i = 111) → sI s9 a i = sI t a i := fun a i h => by subst e9; rw [sI_w, if_neg h]
    refine H s9 ?_ (by subst e9; rw [sI_w, if_pos ⟨rfl, rfl⟩]) ?_ ?_ ?_ (fun j hj => ?_)
    · subst e9; exact (F6.trans (Ft.mono (fun a i h => by omega))).wI (by omega)
    · rw [n9 _ _ (by omega), Ft.1 _ _ (by omega)]; exact a6
    · rw [n9 _ _ (by omega), Ft.1 _ _ (by omega)]; exact b6
    · rw [n9 _ _ (by omega), Ft.1 _ _ (by omega)]; exact c6
    · rw [n9 _ _ (by omega)]; exact ht j hj
  | succ d ih =>
    intro k t hk Ft ht
    apply hP32
    refine ⟨fun hz => absurd ((nI_leU (by omega) (by omega)).mp hz) (by omega), fun _ => ?_⟩
    rw [Ft.1 139 _ (by omega), h6, nI_mul, nI_addU, nI_ix (n := 12 * K + k) (by omega)]
    refine ⟨nI_inU (by omega) (by omega), ?_⟩
    intro s11 e11 x12 e12
    subst e12; rw [nI_s]
    refine ih (k + 1) s11 (by omega) (by subst e11; exact Ft.wI (by omega)) (fun j hj => ?_)
    subst e11; rw [sI_w]
    by_cases c : j = k
    · subst c; rw [if_pos ⟨rfl, rfl⟩]
    · rw [if_neg (by omega)]; exact ht j (by omega)
set_option maxHeartbeats 1000000 in
theorem k_callIn {c : Nat} {Q : yS → Prop} (hok : pgOK l) (hq : q ≤ 1) (h112 : sI s 139 112 = nI q) (hp : pgM s q l) (hF : mFs s (r :: fs)) (h111 : sI s 139 111 = nI (fs.length + 1)) (hK : fs.length < 40) (hw : okW l n r) (hcs : okCs l n (jF r) fs) (hc : c < l.length) (hn : fP (fnA l c) ≤ (jS r).length)
    (H1 : ¬ fs.length + 1 = 40 → ∀ s', frM dSm s s' → mFs s' ((c, 0, [], (fun j => if j < fP (fnA l c) then tpV (jS r) (fP (fnA l c) - 1 - j) else 0)) :: (jF r, jP r, (jS r).drop (fP (fnA l c)), jL r) :: fs) → sI s' 139 111 = nI (fs.length + 2) → Q s')
    (H0 : fs.length + 1 = 40 → raM s (rsd l (nI 4) (r :: fs)) (nI 4) Q) : W_X12_callIn s (nI c) Q := by
  have h12 := hok.2.1
  have hpar := (hp.2 _ hc).1
  have hfc := fnA_at hc
  rw [hfc] at hn H1
  have hP4 := (hok.2.2.1 c hc).1
  obtain ⟨⟨f1, f2, f3, f4, f5, f6⟩, fw⟩ := id hF
  unfold W_X12_callIn
  rw [h111, nI_inj (by omega) (by omega)]
  refine ⟨fun n40 => ?_, fun h40 => k_raiseR hok hq frM.rfl' h112 hp hF h111 hw hcs (by omega) (H0 h40)⟩
  have H1 := H1 n40
  rw [h112, nI_mul, nI_addU, nI_ix (n := 12 * q + c) (by omega), hpar]
  refine ⟨nI_inU (by omega) (by omega), ?_⟩
  intro x2 e2
  subst e2
  refine k_enter (K := fs.length + 1) (by omega) h111 (fun s3 F3 a3 b3 p3 t3 l3 => ?_)
  intro P39 hP39 x15 e15
  subst e15
  generalize hm : fP l[c] = m at *
  suffices hL : ∀ (k : Nat) (x : Int32) (t : yS), k ≤ m → x = nI k - 1 → frM (fun a i => (a = 213 ∧ i = fs.length) ∨ (a = 214 ∧ 12 * (fs.length + 1) ≤ i ∧ i < 12 * (fs.length + 1) + 12)) s3 t → sI t 213 fs.length = nI ((jS r).length - (m - k)) → (∀ j, j < 12 → sI t 214 (12 * (fs.length + 1) + j) = if k ≤ j ∧ j < m then tpV (jS r) (m - 1 - j) else 0) → P39 x t from
    hL m _ s3 (Nat.le_refl _) rfl frM.rfl' (by rw [F3.1 _ _ (by omega), f3, Nat.sub_self, Nat.sub_zero]) (fun j hj => by rw [if_neg (by omega)]; exact l3 j hj)
  intro k
  induction k with
  | zero =>
    intro x t hk ex Ft h213 h214
    subst ex
    apply hP39
    refine ⟨fun _ => ?_, fun hz => absurd (by decide) hz⟩
    rw [Nat.sub_zero] at h213
    have kp : ∀ a i, ¬ ((a = 139 ∧ i = 111) ∨ ((a = 211 ∨ a = 212 ∨ a = 213) ∧ i = fs.length + 1) ∨ (a = 213 ∧ i = fs.length) ∨ (a = 214 ∧ 12 * (fs.length + 1) ≤ i)) → sI t a i = sI s a i := fun a i h => by rw [Ft.1 _ _ (by omega), F3.1 _ _ (by omega)]
    refine H1 t ((F3.mono (fun a i h => by unfold dSm; omega)).trans (Ft.mono (fun a i h => by unfold dSm; omega))) ⟨⟨?_, ?_, ?_, ?_, ?_, fun j hj => ?_⟩, ⟨?_, ?_, ?_, ?_, ?_, fun j hj => ?_⟩, ?_⟩ ?_
    · show sI t 211 (fs.length + 1) = nI c
      rw [Ft.1 _ _ (by omega)]; exact b3
    · show sI t 212 (fs.length + 1) = nI 0
      rw [Ft.1 _ _ (by omega)]; exact p3
    · show sI t 213 (fs.length + 1) = nI 0
      rw [Ft.1 _ _ (by omega)]; exact t3
    · exact Nat.zero_le _
    · exact fun i hi => absurd hi (Nat.not_lt_zero _)
    · show sI t 214 (12 * (fs.length + 1) + j) = if j < m then tpV (jS r) (m - 1 - j) else 0
      rw [h214 j hj]
      by_cases cj : j < m
      · rw [if_pos ⟨Nat.zero_le _, cj⟩, if_pos cj]
      · rw [if_neg (fun h => cj h.2), if_neg cj]
    · exact (kp _ _ (by omega)).trans f1
    · exact (kp _ _ (by omega)).trans f2
    · show sI t 213 fs.length = nI ((jS r).drop m).length
      rw [List.length_drop]; exact h213
    · show ((jS r).drop m).length ≤ 16
      rw [List.length_drop]; omega
    · exact (f5.drop m).fr (fun i _ _ => kp _ _ (by omega))
    · exact (kp _ _ (by omega)).trans (f6 j hj)
    · exact fw.fr (fun a i ha => kp _ _ (by omega))
    · rw [Ft.1 _ _ (by omega)]; exact a3
  | succ k ih =>
    intro x t hk ex Ft h213 h214
    rw [nI_p (by omega), Nat.add_sub_cancel] at ex
    subst ex
    apply hP39
    refine ⟨fun hz => absurd hz (by rw [nI_0U, nI_ltU (by omega) (by omega)]; omega), fun _ => ?_⟩
    have a4 : sI t 139 111 = nI (fs.length + 1 + 1) := (Ft.1 _ _ (by omega)).trans a3
    rw [a4, show nI (fs.length + 1 + 1) - nI 2 = nI fs.length by rw [nI_sub (by omega)]; congr 1]
    intro x6 e6
    subst e6
    have inK : vp_in (nI fs.length) 40 := nI_inU (by omega) (by omega)
    refine ⟨inK, inK, ?_⟩
    rw [nI_ix (n := fs.length) (by omega), h213, nI_p (by omega)]
    intro s9 e9
    have n9 : ∀ a i, ¬ (a = 213 ∧ i = fs.length) → sI s9 a i = sI t a i := fun a i h => by subst e9; rw [sI_w, if_neg h]
    have b9 : sI s9 213 fs.length = nI ((jS r).length - (m - (k + 1)) - 1) := by subst e9; rw [sI_w, if_pos ⟨rfl, rfl⟩]
    have v9 : sI s9 215 (16 * fs.length + ((jS r).length - (m - (k + 1)) - 1)) = tpV (jS r) (m - 1 - k) := by
      have := f5 (m - 1 - k) (by omega)
      rw [n9 _ _ (by omega), Ft.1 _ _ (by omega), F3.1 _ _ (by omega), show (jS r).length - (m - (k + 1)) - 1 = (jS r).length - 1 - (m - 1 - k) by omega]
      exact this
    refine ⟨inK, ?_⟩
    rw [b9, nI_mul, nI_addU, nI_ix (n := 16 * fs.length + ((jS r).length - (m - (k + 1)) - 1)) (by omega), v9, n9 139 _ (by omega), a4, nI_p (by omega), Nat.add_sub_cancel, nI_mul, nI_addU, nI_ix (n := 12 * (fs.length + 1) + k) (by omega)]
    refine ⟨nI_inU (by omega) (by omega), nI_inU (by omega) (by omega), ?_⟩
    intro s13 e13 x14 e14
    have n13 : ∀ a i, ¬ (a = 214 ∧ i = 12 * (fs.length + 1) + k) → sI s13 a i = sI s9 a i := fun a i h => by subst e13; rw [sI_w, if_neg h]
    refine ih x14 s13 (by omega) (by rw [e14, Int32.sub_eq_add_neg]) ?_ ?_ (fun j hj => ?_)
    · subst e13; subst e9; exact (Ft.wI (by omega)).wI (by omega)
    · rw [n13 _ _ (by omega), b9]; congr 1; omega
    · by_cases cj : j = k
      · subst cj; subst e13; rw [sI_w, if_pos ⟨rfl, rfl⟩, if_pos (by omega)]
      · rw [n13 _ _ (by omega), n9 _ _ (by omega), h214 j hj]
        by_cases c2 : k + 1 ≤ j ∧ j < m
        · rw [if_pos c2, if_pos (by omega)]
        · rw [if_neg c2, if_neg (by omega)]
end
