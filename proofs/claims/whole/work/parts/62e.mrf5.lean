/-- answers, at the reference -/
def anM (s : yS) (an : Nat → Int32) (na : Nat) : Prop := sI s 139 88 = nI na ∧ na ≤ 256 ∧ ∀ i, i < na → sI s 204 i = an i
section
variable {s : yS} {l : List Fn} {r : Fr} {fs : List Fr} {R : List (Nat × Nat)} {q n : Nat} {ps : PS} {S : List Int32}
/-- what lies under, or 0 -/
theorem k_argM {c k : Nat} {P : Int32 → Prop} (hc : c < 16) (hk : k < 3) (hK : fs.length < 40) (f4 : (jS r).length ≤ 16) (ht : mTp s fs.length (jS r)) (hn : c % 4 ≤ (jS r).length) (H : P (arg c (jS r) k)) : (nI (c % 4) ≤ nI k → P 0) ∧ (¬ nI (c % 4) ≤ nI k → W_X12_under s ((nI (c % 4) - 1) - nI k) (fun r => P r)) := by
  rw [nI_leU (by omega) (by omega)]
  unfold arg at H
  refine ⟨fun hle => by rw [if_neg (by omega)] at H; exact H, fun hlt => ?_⟩
  rw [if_pos (by omega)] at H
  rw [nI_p (by omega), nI_sub (by omega)]
  exact k_under hK f4 ht (by omega) H
set_option maxHeartbeats 1000000 in
theorem k_callOut {c out na : Nat} {an : Nat → Int32} {Q : yS → Prop} (hc : c < 16) (hF : mFs s (r :: fs)) (h111 : sI s 139 111 = nI (fs.length + 1)) (hK : fs.length < 40) (ho : out < 2147483000) (h3 : sI s 139 93 = nI out) (hna : anM s an na) (hn : c % 4 ≤ (jS r).length) (h16 : ((jS r).drop (c % 4)).length < 16)
    (H : ∀ s', frM (fun a i => dSm a i ∨ (a = 139 ∧ i = 93) ∨ a = 207) s s' → sI s' 139 93 = nI (out + 1) → (∀ i, sI s' 207 i = if out < 256 then trN (sI s 207) out c (jS r) (ans an na out) i else sI s 207 i) → mFs s' ((jF r, jP r + 1, (false, ans an na out) :: (jS r).drop (c % 4), jL r) :: fs) → sI s' 139 111 = nI (fs.length + 1) → Q s') : W_X12_callOut s (nI c) Q := by
  have ht := hF.tp h111
  obtain ⟨⟨f1, f2, f3, f4, f5, f6⟩, fw⟩ := id hF
  have dr0 : (jS r).drop 0 = jS r := List.drop_zero
  unfold W_X12_callOut
  rw [h3, hna.1]
  intro P38 hP38
  rw [nI_mod (by omega) (by omega)] at hP38
  have main : P38 (ans an na out) := by
    apply hP38
    intro P125 hP125
    -- behind the trace
    have fin : ∀ t : yS, frM (fun a i => a = 207) s t → (∀ i, sI t 207 i = if out < 256 then trN (sI s 207) out c (jS r) (ans an na out) i else sI s 207 i) → P125 t := by
      intro t Ft tt
      apply hP125
      rw [Ft.1 139 _ (by omega), h3, nI_s]
      intro s3 e3
      have F3 : frM (fun a i => (a = 139 ∧ i = 93) ∨ a = 207) s s3 := by subst e3; exact (Ft.mono (fun a i h => Or.inr h)).wI (by omega)
      have o3 : sI s3 139 93 = nI (out + 1) := by subst e3; rw [sI_w, if_pos ⟨rfl, rfl⟩]
      have t3 : ∀ i, sI s3 207 i = sI t 207 i := fun i => by subst e3; rw [sI_w, if_neg (by omega)]
      clear e3
      intro P137 hP137
      suffices hL : ∀ (d k : Nat) (u : yS), k + d = c % 4 → frM (fun a i => a = 213 ∧ i = fs.length) s3 u → mTp u fs.length ((jS r).drop k) → P137 (nI k) u from
        hL (c % 4) 0 s3 (Nat.zero_add _) frM.rfl' (by rw [dr0]; exact ⟨(F3.1 _ _ (by omega)).trans ht.1, (F3.1 _ _ (by omega)).trans ht.2.1, ht.2.2.fr (fun i _ _ => F3.1 _ _ (by omega))⟩)
      intro d
      induction d with
      | zero =>
        intro k u hk Fu tu
        obtain rfl : k = c % 4 := by omega
        apply hP137
        refine ⟨fun _ => ?_, fun hz => absurd ((nI_leU (by omega) (by omega)).mpr (Nat.le_refl _)) hz⟩
        refine k_push1 (y := (false, ans an na out)) hK h16 tu (fun s6 F6 t6 => ?_)
        have kp : ∀ a i, ¬ ((a = 213 ∧ i = fs.length) ∨ (a = 215 ∧ 16 * fs.length ≤ i) ∨ (a = 139 ∧ i = 93) ∨ a = 207) → sI s6 a i = sI s a i := fun a i h => by rw [F6.1 _ _ (by omega), Fu.1 _ _ (by omega), F3.1 _ _ (by omega)]
        have h2 : sI s6 212 fs.length = nI (jP r) := (kp _ _ (by omega)).trans f2
        refine k_goOn hK t6.1 h2 (fun s' F' p' => ?_)
        have hfin := hF.stk (s' := s') (st' := (false, ans an na out) :: (jS r).drop (c % 4)) (pl' := jP r + 1) (fun a i h _ => by rw [F'.1 _ _ (by omega), kp _ _ (by omega)]) ⟨(F'.1 _ _ (by omega)).trans t6.1, (F'.1 _ _ (by omega)).trans t6.2.1, t6.2.2.fr (fun i _ _ => F'.1 _ _ (by omega))⟩ p' (by rw [List.length_cons]; omega)
        refine H s' ?_ ?_ (fun i => ?_) hfin.1 hfin.2
        · exact (((F3.mono (fun a i h => Or.inr h)).trans (Fu.mono (fun a i h => by unfold dSm; omega))).trans (F6.mono (fun a i h => by unfold dSm; omega))).trans (F'.mono (fun a i h => by unfold dSm; omega))
        · rw [F'.1 _ _ (by omega), F6.1 _ _ (by omega), Fu.1 _ _ (by omega)]; exact o3
        · rw [F'.1 _ _ (by omega), F6.1 _ _ (by omega), Fu.1 _ _ (by omega), t3]; exact tt i
      | succ d ih =>
        intro k u hk Fu tu
        apply hP137
        refine ⟨fun hz => absurd ((nI_leU (by omega) (by omega)).mp hz) (by omega), fun _ => ?_⟩
        refine k_pop1 (d := k) (e := k + 1) (st := jS r) rfl hK f4 tu (by omega) (fun s9 F9 t9 => ?_)
        intro x10 e10
        subst e10; rw [nI_s]
        exact ih (k + 1) s9 (by omega) (Fu.trans F9) t9
    rw [nI_leU (by omega) (by omega)]
    refine ⟨fun hge => fin s frM.rfl' (fun i => by rw [if_neg (by omega)]), fun hlt => ?_⟩
    rw [nI_mul, nI_ix (n := 5 * out) (by omega)]
    refine ⟨nI_inU (by omega) (by omega), ?_⟩
    intro s12 e12
    intro P63 hP63
    suffices hL : ∀ (q k : Nat) (t : yS), k + q = 3 → frM (fun a i => a = 207) s t → (∀ i, sI t 207 i = if i = 5 * out then nI c else if i = 5 * out + 1 ∧ 0 < k then arg c (jS r) 0 else if i = 5 * out + 2 ∧ 1 < k then arg c (jS r) 1 else if i = 5 * out + 3 ∧ 2 < k then arg c (jS r) 2 else sI s 207 i) → P63 (nI k) t from by
      refine hL 3 0 s12 (by omega) (by subst e12; exact frM.rfl'.wI rfl) (fun i => ?_)
      subst e12
      rw [sI_w]
      by_cases c1 : i = 5 * out
      · rw [if_pos c1, if_pos ⟨rfl, by omega⟩]
      · rw [if_neg c1, if_neg (fun h => c1 (by omega)), if_neg (by omega), if_neg (by omega), if_neg (by omega)]
    intro q
    induction q with
    | zero =>
      intro k t hk Ft tt
      obtain rfl : k = 3 := by omega
      apply hP63
      refine ⟨fun _ => ?_, fun hz => absurd (by decide) hz⟩
      rw [Ft.1 139 _ (by omega), h3, nI_mul, nI_addU, nI_ix (n := 5 * out + 4) (by omega)]
      refine ⟨nI_inU (by omega) (by omega), ?_⟩
      intro s15 e15
      refine fin s15 (by subst e15; exact Ft.wI rfl) (fun i => ?_)
      rw [if_pos (show out < 256 by omega)]
      unfold trN
      subst e15
      rw [sI_w]
      by_cases c5 : i = 5 * out + 4
      · rw [if_pos ⟨rfl, by omega⟩, if_neg (by omega), if_neg (by omega), if_neg (by omega), if_neg (by omega), if_pos c5]
      rw [if_neg (fun h => c5 (by omega)), tt i]
      by_cases c1 : i = 5 * out
      · rw [if_pos c1, if_pos c1]
      rw [if_neg c1, if_neg c1]
      by_cases c2 : i = 5 * out + 1
      · rw [if_pos ⟨c2, by omega⟩, if_pos c2]
      rw [if_neg (fun h => c2 h.1), if_neg c2]
      by_cases c3 : i = 5 * out + 2
      · rw [if_pos ⟨c3, by omega⟩, if_pos c3]
      rw [if_neg (fun h => c3 h.1), if_neg c3]
      by_cases c4 : i = 5 * out + 3
      · rw [if_pos ⟨c4, by omega⟩, if_pos c4]
      rw [if_neg (fun h => c4 h.1), if_neg c4, if_neg c5]
    | succ q ih =>
      intro k t hk Ft tt
      apply hP63
      refine ⟨fun hz => absurd ((nI_leU (by omega) (by omega)).mp hz) (by omega), fun _ => ?_⟩
      intro P104 hP104
      refine k_argM (r := r) (fs := fs) hc (by omega) hK f4 ⟨(Ft.1 _ _ (by omega)).trans ht.1, (Ft.1 _ _ (by omega)).trans ht.2.1, ht.2.2.fr (fun i _ _ => Ft.1 _ _ (by omega))⟩ hn ?_
      apply hP104
      rw [Ft.1 139 _ (by omega), h3, show (1 : Int32) = nI 1 from rfl, nI_mul, nI_addU, nI_addU, nI_ix (n := 5 * out + 1 + k) (by omega)]
      refine ⟨nI_inU (by omega) (by omega), ?_⟩
      intro s18 e18 x19 e19
      subst e19; rw [nI_addU]
      refine ih (k + 1) s18 (by omega) (by subst e18; exact Ft.wI rfl) (fun i => ?_)
      subst e18
      rw [sI_w]
      by_cases c0 : i = 5 * out + 1 + k
      · rw [if_pos ⟨rfl, c0⟩, if_neg (by omega)]
        rcases (show k = 0 ∨ k = 1 ∨ k = 2 by omega) with h | h | h
        · subst h; rw [if_pos ⟨by omega, by omega⟩]
        · subst h; rw [if_neg (by omega), if_pos ⟨by omega, by omega⟩]
        · subst h; rw [if_neg (by omega), if_neg (by omega), if_pos ⟨by omega, by omega⟩]
      rw [if_neg (fun h => c0 h.2), tt i]
      by_cases c1 : i = 5 * out
      · rw [if_pos c1, if_pos c1]
      rw [if_neg c1, if_neg c1]
      by_cases c2 : i = 5 * out + 1 ∧ 0 < k
      · rw [if_pos c2, if_pos ⟨c2.1, by omega⟩]
      rw [if_neg c2, if_neg (show ¬ (i = 5 * out + 1 ∧ 0 < k + 1) by omega)]
      by_cases c3 : i = 5 * out + 2 ∧ 1 < k
      · rw [if_pos c3, if_pos ⟨c3.1, by omega⟩]
      rw [if_neg c3, if_neg (show ¬ (i = 5 * out + 2 ∧ 1 < k + 1) by omega)]
      by_cases c4 : i = 5 * out + 3 ∧ 2 < k
      · rw [if_pos c4, if_pos ⟨c4.1, by omega⟩]
      rw [if_neg c4, if_neg (show ¬ (i = 5 * out + 3 ∧ 2 < k + 1) by omega)]
  rw [nI_leU (by have := hna.2.1; omega) (by omega), nI_leU (by omega) (by omega)]
  have hna2 := hna.2.1
  refine ⟨fun hle => ?_, fun hlt => ⟨fun hz => by omega, fun _ => ?_⟩⟩
  · have : ans an na out = 0 := by unfold ans; rw [if_neg (by omega)]
    rw [← this]; exact main
  · rw [nI_ix (n := out) (by omega), hna.2.2 out (by omega)]
    have : ans an na out = an out := by unfold ans; rw [if_pos (by omega)]
    rw [this] at main
    exact ⟨nI_inU (by omega) (by omega), main⟩
/-- coming back -/
theorem k_comeBack {Q : yS → Prop} (hok : pgOK l) (hq : q ≤ 1) (h112 : sI s 139 112 = nI q) (hp : pgM s q l) (hF : mFs s (r :: fs)) (h111 : sI s 139 111 = nI (fs.length + 1)) (hK : fs.length < 40) (hf : jF r < l.length) (hn : ¬ fR (fnA l (jF r)) = 0 → 1 ≤ (jS r).length) (h16 : ∀ q2 fs2, fs = q2 :: fs2 → ¬ fR (fnA l (jF r)) = 0 → (jS q2).length < 16)
    (H0 : fs = [] → ∀ s', frM (fun a i => dSm a i ∨ (a = 139 ∧ (i = 90 ∨ i = 91))) s s' → sI s' 139 90 = 0 → sI s' 139 91 = (if fR (fnA l (jF r)) = 0 then 0 else tpV (jS r) 0) → sI s' 139 111 = 0 → Q s')
    (H1 : ∀ q2 fs2, fs = q2 :: fs2 → ∀ s', frM dSm s s' → mFs s' ((jF q2, jP q2 + 1, (if fR (fnA l (jF r)) = 0 then jS q2 else (rTy (fnA l (jF r)), tpV (jS r) 0) :: jS q2), jL q2) :: fs2) → sI s' 139 111 = nI fs.length → Q s') : W_X12_comeBack s Q := by
  have h12 := hok.2.1
  have hfn := fnA_at hf
  rw [hfn] at hn h16 H0 H1
  have ht := hF.tp h111
  obtain ⟨⟨f1, f2, f3, f4, f5, f6⟩, fw⟩ := id hF
  have dr0 : (jS r).drop 0 = jS r := List.drop_zero
  have inK : vp_in (nI fs.length) 40 := nI_inU (by omega) (by omega)
  have hR3 : fR l[jF r] ≤ 2 := (hok.2.2.1 _ hf).2.2.2.2.2.1
  unfold W_X12_comeBack
  rw [h111, nI_p (by omega), Nat.add_sub_cancel, nI_ix (n := fs.length) (by omega), f1, h112, nI_mul, nI_addU, nI_ix (n := 12 * q + jF r) (by omega), (hp.2 _ hf).2.2.2.1]
  refine ⟨inK, nI_inU (by omega) (by omega), ?_⟩
  intro x3 e3
  subst e3
  have c0 : nI (fR l[jF r]) ≤ 0 ↔ fR l[jF r] = 0 := by rw [nI_0U, nI_leU (by omega) (by omega)]; omega
  intro P37 hP37
  rw [c0] at hP37 ⊢
  have main : ∀ (y : Int32) (t : yS), frM (fun a i => a = 213 ∧ i = fs.length) s t → (y = if fR l[jF r] = 0 then 0 else tpV (jS r) 0) → P37 y t := by
    intro y t Ft ey
    apply hP37
    have a1 : sI t 139 111 = nI (fs.length + 1) := (Ft.1 _ _ (by omega)).trans h111
    rw [a1, nI_p (by omega), Nat.add_sub_cancel, show (1 : Int32) = nI 1 from rfl, nI_inj (by omega) (by omega)]
    refine ⟨fun hne => ?_, fun heq => ?_⟩
    · cases fs with
      | nil => exact absurd rfl hne
      | cons q2 fs2 =>
        rw [List.length_cons] at *
        intro s6 e6 P72 hP72
        have n6 : ∀ a i, ¬ (a = 139 ∧ i = 111) → sI s6 a i = sI t a i := fun a i h => by subst e6; rw [sI_w, if_neg h]
        have F6 : frM (fun a i => (a = 139 ∧ i = 111) ∨ (a = 213 ∧ i = fs2.length + 1)) s s6 := by subst e6; exact (Ft.mono (fun a i h => Or.inr h)).wI (Or.inl ⟨rfl, rfl⟩)
        have hF6 : mFs s6 (q2 :: fs2) := fw.fr (fun a i ha => F6.1 _ _ (by rw [List.length_cons] at ha; omega))
        have h6 : sI s6 139 111 = nI (fs2.length + 1) := by subst e6; rw [sI_w, if_pos ⟨rfl, rfl⟩]
        have t6 := hF6.tp h6
        have q16 := hF6.1.2.2.2.1
        have F6s : frM dSm s s6 := F6.mono (fun a i h => by unfold dSm; omega)
        refine ⟨fun hR0 => ?_, fun hR1 => ?_⟩
        · apply hP72
          refine k_go1 (s0 := s6) (by omega) hF6 frM.rfl' t6 q16 (fun s' F' c' n' => ?_)
          refine H1 q2 fs2 rfl s' (F6s.trans F') ?_ n'
          rw [if_pos hR0]; exact c'
        · have q16' := h16 q2 fs2 rfl hR1
          rw [if_neg hR1] at ey
          rw [ey]
          refine k_push1 (y := (rTy l[jF r], tpV (jS r) 0)) (by omega) q16' t6 (fun s7 F7 t7 => ?_)
          apply hP72
          refine k_go1 (s0 := s6) (by omega) hF6 (F7.mono (fun a i h => by omega)) t7 (by rw [List.length_cons]; omega) (fun s' F' c' n' => ?_)
          refine H1 q2 fs2 rfl s' (F6s.trans F') ?_ n'
          rw [if_neg hR1]; exact c'
    · have : fs = [] := List.length_eq_zero_iff.mp (by omega)
      subst this
      unfold W_X12_end
      intro u1 e1 u2 e2 u3 e3
      refine H0 rfl u3 ?_ ?_ ?_ ?_
      · have q1 : frM (fun a i => dSm a i ∨ (a = 139 ∧ (i = 90 ∨ i = 91))) s t := Ft.mono (fun a i h => by unfold dSm; omega)
        subst e3; subst e2; subst e1
        exact ((q1.wI (by omega)).wI (by omega)).wI (by unfold dSm; omega)
      · subst e3; rw [sI_w, if_neg (by omega)]; subst e2; rw [sI_w, if_neg (by omega)]; subst e1; rw [sI_w, if_pos ⟨rfl, rfl⟩]
      · subst e3; rw [sI_w, if_neg (by omega)]; subst e2; rw [sI_w, if_pos ⟨rfl, rfl⟩]; exact ey
      · subst e3; rw [sI_w, if_pos ⟨rfl, rfl⟩]
  refine ⟨fun hR0 => main _ _ frM.rfl' (by rw [if_pos hR0]), fun hR1 => ?_⟩
  have hl1 := hn hR1
  exact k_pop1 (d := 0) (e := 1) (st := jS r) rfl hK f4 (by rw [dr0]; exact ht) (by omega) (fun s2 F2 t2 => main _ _ F2 (by rw [if_neg hR1]))
end
