section
variable {s : yS} {g : Nat} {l : List Fn} {R : List (Nat × Nat)} {r : Fr} {fs : List Fr}
theorem cvt_0 {t : Bool} : cvt R (t, 0) = 0 := by
  unfold cvt
  cases t with
  | false => rfl
  | true =>
    rw [if_pos rfl]
    show nI ((rwF R (ix 0)).1 * 512 + (rwF R (ix 0)).2) = 0
    rw [show ix 0 = 0 from rfl]
    have : rwF R 0 = (0, 0) := by unfold rwF; rw [if_pos rfl]
    rw [this]; rfl
/-- a frame is made: b where the arguments lie -/
theorem c_enterIn {c np b K D : Nat} {w : List Vl} {Q : yS → Prop} (hg : gOK g) (hK : K < 40) (hc : c < 12) (hnp : np ≤ 4) (hb : b + np ≤ 640) (hw : np ≤ w.length) (hD : D ≤ 40) (h17 : sI s 123 17 = nI b) (h7 : sI s 124 7 = nI D) (h14 : sI s 123 14 + 1 = nI K) (hvs : ∀ j, j < np → sI s 131 (b + j) = cvt R (w.getD (np - 1 - j) v0)) (hty : ∀ j, j < np → (w.getD (np - 1 - j) v0).1 = rbit (fnA l c) j)
    (H : ∀ s', frM (fun a i => (a = 123 ∧ 14 ≤ i ∧ i ≤ 17) ∨ (a = 132 ∧ 12 * K ≤ i ∧ i < 12 * K + 12) ∨ (a = 133 ∧ i = K) ∨ (a = 124 ∧ i = 7)) s s' → cTp s' l R K (c, 0, [], fun j => if j < np then tpV w (np - 1 - j) else 0) → sI s' 123 16 = 0 → sI s' 124 7 = nI (max D (K + 1)) → Q s') : ∀ s5 : yS, s5 = wI s 123 14 ((sI s 123 14) + 1) → 
  vp_in (sI s5 123 14) 40 ∧ ∀ s7 : yS, s7 = wI s5 133 (ix (sI s5 123 14)) (nI c) → 
  ∀ P75 : Int32 → yS → Prop, (∀ (x8 : Int32) (s9 : yS), ((((nI 12) ≤ x8 → ∀ s10 : yS, s10 = wI s9 123 15 (nI c) → 
    ∀ s11 : yS, s11 = wI s10 123 16 0 → 
    ∀ s12 : yS, s12 = wI s11 123 17 ((sI s11 123 14) * (nI 16)) → 
    vp_in (nI 7) 8 ∧ 
    vp_in (nI 7) 8 ∧ ∀ s15 : yS, s15 = wI s12 124 (ix (nI 7)) (if (sI s12 124 (ix (nI 7))) < ((sI s12 123 14) + 1) then ((sI s12 123 14) + 1) else (sI s12 124 (ix (nI 7)))) → 
    Q s15)
   ∧ (¬ (nI 12) ≤ x8 → ∀ P114 : Int32 → Prop, (∀ (y16 : Int32), (vp_in (((sI s9 123 14) * (nI 12)) + x8) 480 ∧ ∀ s18 : yS, s18 = wI s9 132 (ix (((sI s9 123 14) * (nI 12)) + x8)) y16 → 
     ∀ x19 : Int32, x19 = (x8 + 1) → 
     P75 x19 s18) → P114 y16) → 
    ((nI np ≤ x8 → P114 0)
    ∧ (¬ nI np ≤ x8 → vp_in ((sI s9 123 17) + x8) 640 ∧ 
     P114 (sI s9 131 (ix ((sI s9 123 17) + x8)))))))) → P75 x8 s9) → 
  P75 0 s7 := by
  rw [h14]
  intro s5 e5
  have d5 : sI s5 123 14 = nI K := by subst e5; rw [sI_w, if_pos ⟨rfl, rfl⟩]
  rw [d5, nI_ix (n := K) (by omega)]
  refine ⟨nI_inU (by omega) (by omega), ?_⟩
  intro s7 e7
  have d7 : sI s7 123 14 = nI K := by subst e7; rw [sI_w, if_neg (by omega)]; exact d5
  have n7 : ∀ a i, ¬ (a = 123 ∧ i = 14) → ¬ (a = 133 ∧ i = K) → sI s7 a i = sI s a i := fun a i h1 h2 => by subst e7; rw [sI_w, if_neg h2]; subst e5; rw [sI_w, if_neg h1]
  have F7 : frM (fun a i => (a = 123 ∧ 14 ≤ i ∧ i ≤ 17) ∨ (a = 132 ∧ 12 * K ≤ i ∧ i < 12 * K + 12) ∨ (a = 133 ∧ i = K) ∨ (a = 124 ∧ i = 7)) s s7 := by subst e7; subst e5; exact (frM.rfl'.wI (by omega)).wI (by omega)
  have f7 : sI s7 133 K = nI c := by subst e7; rw [sI_w, if_pos ⟨rfl, rfl⟩]
  intro P75 hP75
  suffices hL : ∀ (q j : Nat) (t : yS), j + q = 12 → frM (fun a i => a = 132 ∧ 12 * K ≤ i ∧ i < 12 * K + 12) s7 t → (∀ i, i < j → sI t 132 (12 * K + i) = cvt R (rbit (fnA l c) i, if i < np then tpV w (np - 1 - i) else 0)) → P75 (nI j) t from
    hL 12 0 s7 (by omega) frM.rfl' (fun i hi => by omega)
  intro q
  induction q with
  | zero =>
    intro j t hj Ft lt
    obtain rfl : j = 12 := by omega
    apply hP75
    refine ⟨fun _ => ?_, fun hz => absurd (by decide) hz⟩
    intro s10 e10 s11 e11
    have d11 : sI s11 123 14 = nI K := by subst e11; rw [sI_w, if_neg (by omega)]; subst e10; rw [sI_w, if_neg (by omega), Ft.1 _ _ (by omega)]; exact d7
    rw [d11, nI_mul]
    intro s12 e12
    have d12 : sI s12 123 14 = nI K := by subst e12; rw [sI_w, if_neg (by omega)]; exact d11
    have m12 : sI s12 124 7 = nI D := by subst e12; rw [sI_w, if_neg (by omega)]; subst e11; rw [sI_w, if_neg (by omega)]; subst e10; rw [sI_w, if_neg (by omega), Ft.1 _ _ (by omega), n7 _ _ (by omega) (by omega)]; exact h7
    rw [d12, nI_ix (n := 7) (by omega), m12, nI_s]
    refine ⟨nI_inU (by omega) (by omega), nI_inU (by omega) (by omega), ?_⟩
    intro s15 e15
    have kp : ∀ a i, ¬ (a = 123 ∧ (i = 15 ∨ i = 16 ∨ i = 17)) → ¬ (a = 124 ∧ i = 7) → sI s15 a i = sI t a i := fun a i h1 h2 => by
      subst e15; rw [sI_w, if_neg (by omega)]; subst e12; rw [sI_w, if_neg (by omega)]; subst e11; rw [sI_w, if_neg (by omega)]; subst e10; rw [sI_w, if_neg (by omega)]
    refine H s15 ?_ ⟨⟨?_, Nat.zero_le _, fun i hi => absurd hi (Nat.not_lt_zero _), fun i hi => ?_⟩, ?_, ?_, ?_⟩ ?_ ?_
    · have Ft' := F7.trans (Ft.mono (fun a i h => by omega))
      subst e15; subst e12; subst e11; subst e10
      exact (((Ft'.wI (by omega)).wI (by omega)).wI (by omega)).wI (by omega)
    · rw [kp _ _ (by omega) (by omega), Ft.1 _ _ (by omega)]; exact f7
    · rw [kp _ _ (by omega) (by omega)]; exact lt i hi
    · rw [kp _ _ (by omega) (by omega), Ft.1 _ _ (by omega)]; exact d7
    · subst e15; rw [sI_w, if_neg (by omega)]; subst e12; rw [sI_w, if_neg (by omega)]; subst e11; rw [sI_w, if_neg (by omega)]; subst e10; rw [sI_w, if_pos ⟨rfl, rfl⟩]; rfl
    · subst e15; rw [sI_w, if_neg (by omega)]; subst e12; rw [sI_w, if_pos ⟨rfl, rfl⟩]
      show nI (K * 16) = nI (16 * K + 0)
      rw [show K * 16 = 16 * K + 0 by omega]
    · subst e15; rw [sI_w, if_neg (by omega)]; subst e12; rw [sI_w, if_neg (by omega)]; subst e11; rw [sI_w, if_pos ⟨rfl, rfl⟩]
    · subst e15; rw [sI_w, if_pos ⟨rfl, rfl⟩]
      have hlt : nI D < nI (K + 1) ↔ D < K + 1 := nI_ltU (by omega) (by omega)
      by_cases c : D < K + 1
      · rw [if_pos (hlt.mpr c), show max D (K + 1) = K + 1 by omega]
      · rw [if_neg (fun h => c (hlt.mp h)), show max D (K + 1) = D by omega]
  | succ q ih =>
    intro j t hj Ft lt
    apply hP75
    refine ⟨fun hz => absurd ((nI_leU (by omega) (by omega)).mp hz) (by omega), fun _ => ?_⟩
    intro P114 hP114
    have dt : sI t 123 14 = nI K := (Ft.1 _ _ (by omega)).trans d7
    have tt : sI t 123 17 = nI b := by rw [Ft.1 _ _ (by omega), n7 _ _ (by omega) (by omega)]; exact h17
    rw [dt, nI_mul, nI_addU, nI_ix (n := K * 12 + j) (by omega)] at hP114
    have nx : ∀ y : Int32, y = cvt R (rbit (fnA l c) j, if j < np then tpV w (np - 1 - j) else 0) → P114 y := fun y hy => by
      apply hP114
      refine ⟨nI_inU (by omega) (by omega), ?_⟩
      intro s18 e18 x19 e19
      subst e19; rw [nI_s]
      refine ih (j + 1) s18 (by omega) (by subst e18; exact Ft.wI (by omega)) (fun i hi => ?_)
      subst e18
      by_cases c : i = j
      · subst c; rw [sI_w, if_pos ⟨rfl, by omega⟩]; exact hy
      · rw [sI_w, if_neg (by omega)]; exact lt i (by omega)
    rw [nI_leU (by omega) (by omega), tt]
    refine ⟨fun hle => nx 0 (by rw [if_neg (by omega), cvt_0]), fun hlt => ?_⟩
    rw [nI_addU, nI_ix (n := b + j) (by omega), Ft.1 _ _ (by omega), n7 _ _ (by omega) (by omega), hvs j (by omega)]
    refine ⟨nI_inU (by omega) (by omega), nx _ ?_⟩
    rw [if_pos (by omega), ← hty j (by omega)]; rfl
theorem c_enter {c D : Nat} {Q : yS → Prop} (hok : pgOK l) (hg : gOK g) (h11 : sR s 123 11 = g + 1) (hp : pgC s g l) (hF : cFs s l R (r :: fs)) (hpl : sI s 123 16 = nI (jP r + 1)) (hlen : fs.length + 1 < 40) (hc : c < l.length) (h7 : sI s 124 7 = nI D) (hD : D ≤ 40) (hnp : fP (fnA l c) ≤ (jS r).length) (hty : ∀ j, j < fP (fnA l c) → ((jS r).getD (fP (fnA l c) - 1 - j) v0).1 = rbit (fnA l c) j)
    (H : ∀ s', frM (fun a i => dStk a i ∨ (a = 124 ∧ i = 7)) s s' → cFs s' l R ((c, 0, [], fun j => if j < fP (fnA l c) then tpV (jS r) (fP (fnA l c) - 1 - j) else 0) :: (jF r, jP r, (jS r).drop (fP (fnA l c)), jL r) :: fs) → sI s' 123 16 = 0 → sI s' 124 7 = nI (max D (fs.length + 2)) → Q s') : W_X2_enter s (nI c) Q := by
  have hgv : g = 37 ∨ g = 55 ∨ g = 73 := hg
  have h12 := hok.2.1
  obtain ⟨⟨⟨f1, f2, f3, f4⟩, c14, c15, c17⟩, cw⟩ := id hF
  have hP4 := (hok.2.2.1 c hc).1
  have hfn := fnA_at hc
  have hpar := (hp.2 c hc).1
  rw [← hfn] at hP4 hpar
  generalize hnp' : fP (fnA l c) = np at *
  unfold W_X2_enter
  refine ⟨g, h11, hg.kd, nI_inU (by omega) (by omega), ?_⟩
  rw [nI_ix (n := c) (by omega), hpar]
  intro x3 e3
  subst e3
  intro P53 hP53
  rw [c14, c17]
  refine ⟨fun hz => absurd hz (nI_nneg (by omega)), fun _ => ?_⟩
  rw [nI_sub (by omega)]
  intro s21 e21
  have d21 : sI s21 123 14 = nI fs.length := by subst e21; rw [sI_w, if_neg (by omega)]; exact c14
  have p21 : sI s21 123 16 = nI (jP r + 1) := by subst e21; rw [sI_w, if_neg (by omega)]; exact hpl
  rw [d21, p21, nI_ix (n := fs.length) (by omega)]
  refine ⟨nI_inU (by omega) (by omega), ?_⟩
  intro s23 e23
  have d23 : sI s23 123 14 = nI fs.length := by subst e23; rw [sI_w, if_neg (by omega)]; exact d21
  have t23 : sI s23 123 17 = nI (16 * fs.length + (jS r).length - np) := by subst e23; rw [sI_w, if_neg (by omega)]; subst e21; rw [sI_w, if_pos ⟨rfl, rfl⟩]
  rw [d23, t23, nI_ix (n := fs.length) (by omega)]
  refine ⟨nI_inU (by omega) (by omega), ?_⟩
  intro s25 e25
  have n25 : ∀ a i, ¬ (a = 123 ∧ i = 17) → ¬ ((a = 134 ∨ a = 135) ∧ i = fs.length) → sI s25 a i = sI s a i := fun a i h1 h2 => by
    subst e25; rw [sI_w, if_neg (by omega)]; subst e23; rw [sI_w, if_neg (by omega)]; subst e21; rw [sI_w, if_neg (by omega)]
  have t25 : sI s25 123 17 = nI (16 * fs.length + (jS r).length - np) := by subst e25; rw [sI_w, if_neg (by omega)]; exact t23
  have q34 : sI s25 134 fs.length = nI (jP r + 1) := by subst e25; rw [sI_w, if_neg (by omega)]; subst e23; rw [sI_w, if_pos ⟨rfl, rfl⟩]
  have q35 : sI s25 135 fs.length = nI (16 * fs.length + (jS r).length - np) := by subst e25; rw [sI_w, if_pos ⟨rfl, rfl⟩]
  have F25 : frM dStk s s25 := by subst e25; subst e23; subst e21; exact ((frM.rfl'.wI (by unfold dStk; omega)).wI (by unfold dStk; omega)).wI (by unfold dStk; omega)
  clear e25 e23 e21
  refine hP53 _ (c_enterIn (R := R) (l := l) (c := c) (np := np) (b := 16 * fs.length + (jS r).length - np) (K := fs.length + 1) (D := D) (w := jS r) hg (by omega) (by omega) (by omega) (by omega) hnp hD t25 ((n25 _ _ (by omega) (by omega)).trans h7) ?_ (fun j hj => ?_) hty (fun s' F' tp' p' m' => ?_))
  · rw [n25 _ _ (by omega) (by omega), c14, nI_s]
  · rw [n25 _ _ (by omega) (by omega)]
    have := f3.at (i := np - 1 - j) (by omega)
    rw [← this]
    congr 1
    omega
  · have kp : ∀ a i, ¬ (a = 123 ∧ 14 ≤ i ∧ i ≤ 17) → ¬ (a = 132 ∧ 12 * (fs.length + 1) ≤ i) → ¬ (a = 133 ∧ i = fs.length + 1) → ¬ (a = 124 ∧ i = 7) → ¬ ((a = 134 ∨ a = 135) ∧ i = fs.length) → sI s' a i = sI s a i := fun a i h1 h2 h3 h4 h5 => by rw [F'.1 _ _ (by omega), n25 _ _ (by omega) (by omega)]
    have hdl : ((jS r).drop np).length = (jS r).length - np := List.length_drop
    refine H s' ?_ ⟨tp', ⟨⟨⟨?_, ?_, ?_, ?_⟩, ?_, ?_⟩, ?_⟩⟩ p' m'
    · exact (F25.mono (fun a i h => Or.inl h)).trans (F'.mono (fun a i h => by unfold dStk; omega))
    · rw [kp _ _ (by omega) (by omega) (by omega) (by omega) (by omega)]; exact f1
    · show ((jS r).drop np).length ≤ 16
      omega
    · exact (f3.drop np).fr (fun i _ _ => kp _ _ (by omega) (by omega) (by omega) (by omega) (by omega))
    · exact f4.fr (fun i _ _ => kp _ _ (by omega) (by omega) (by omega) (by omega) (by omega))
    · rw [F'.1 _ _ (by omega)]; exact q34
    · rw [F'.1 _ _ (by omega), q35]
      show _ = nI (16 * fs.length + ((jS r).drop np).length)
      rw [hdl, Nat.add_sub_assoc hnp]
    · exact cw.fr (fun a i ha => kp _ _ (by omega) (by omega) (by omega) (by omega) (by omega))
theorem c_leave {Q : yS → Prop} (hok : pgOK l) (hg : gOK g) (h11 : sR s 123 11 = g + 1) (hp : pgC s g l) (hF : cFs s l R (r :: fs)) (hlen : fs.length + 1 ≤ 40) (hf : jF r < l.length) (hn : ¬ fR (fnA l (jF r)) = 0 → 1 ≤ (jS r).length) (hty : ¬ fR (fnA l (jF r)) = 0 → ((jS r).getD 0 v0).1 = rTy (fnA l (jF r))) (hmain : fs = [] → fR (fnA l (jF r)) ≤ 1)
    (hq16 : ∀ q fs2, fs = q :: fs2 → ¬ fR (fnA l (jF r)) = 0 → (jS q).length < 16)
    (H0 : fs = [] → ∀ s', frM (fun a i => dStk a i ∨ (a = 124 ∧ i ≤ 1)) s s' → sI s' 124 0 = 0 → sI s' 124 1 = (if fR (fnA l (jF r)) = 0 then 0 else tpV (jS r) 0) → Q s')
    (H1 : ∀ q fs2, fs = q :: fs2 → ∀ s', frM dStk s s' → cFs s' l R ((jF q, jP q + 1, (if fR (fnA l (jF r)) = 0 then jS q else (rTy (fnA l (jF r)), tpV (jS r) 0) :: jS q), jL q) :: fs2) → sI s' 123 16 = nI (jP q + 1) → Q s') : W_X2_leave s Q := by
  have h12 := hok.2.1
  obtain ⟨⟨⟨f1, f2, f3, f4⟩, c14, c15, c17⟩, cw⟩ := id hF
  have hres := (hp.2 _ hf).2.2.2.1
  have hR2 := (hok.2.2.1 _ hf).2.2.2.2.2.1
  rw [← fnA_at hf] at hres hR2
  have dr0 : (jS r).drop 0 = jS r := List.drop_zero
  unfold W_X2_leave
  refine ⟨g, h11, hg.kd, ?_⟩
  rw [c15, nI_ix (n := jF r) (by omega), hres, nI_0U, nI_inj (by omega) (by omega)]
  refine ⟨nI_inU (by omega) (by omega), ?_⟩
  intro P20 hP20
  -- behind the result
  have fin : ∀ (y3 : Int32) (v : Int32) (s5 : yS), (y3 = 0 ↔ fR (fnA l (jF r)) = 0) → (¬ fR (fnA l (jF r)) = 0 → v = cvt R ((jS r).getD 0 v0)) → (fR (fnA l (jF r)) = 0 → v = 0) → frM (fun a i => a = 123 ∧ i = 17) s s5 → ((¬ (sI s5 123 14) = nI 0 → W_X2_backToCaller s5 
    (fun s6 => ((y3 = nI 0 → Q s6)
    ∧ (¬ y3 = nI 0 → W_X2_push s6 v 
     (fun s7 => Q s7)))))
   ∧ ((sI s5 123 14) = nI 0 → W_X2_end s5 (nI 0) v 
    (fun s8 => Q s8))) := by
    intro y3 v s5 hy hv1 hv0 F5
    have d5 : sI s5 123 14 = nI fs.length := (F5.1 _ _ (by omega)).trans c14
    have F5s : frM dStk s s5 := F5.mono (fun a i h => by unfold dStk; omega)
    rw [d5, nI_inj (by omega) (by omega)]
    cases hfs : fs with
    | nil =>
      refine ⟨fun hz => absurd rfl hz, fun _ => ?_⟩
      unfold W_X2_end
      refine ⟨nI_inU (a := 0) (by omega) (by omega), ?_⟩
      intro s2 e2
      refine ⟨nI_inU (a := 1) (by omega) (by omega), ?_⟩
      intro s4 e4
      rw [show ix 0 = 0 from rfl] at e2
      rw [show ix 1 = 1 from rfl] at e4
      refine H0 hfs s4 ?_ ?_ ?_
      · subst e4; subst e2
        exact ((F5s.mono (fun a i h => Or.inl h)).wI (by omega)).wI (by omega)
      · subst e4; rw [sI_w, if_neg (by omega)]; subst e2; rw [sI_w, if_pos ⟨rfl, rfl⟩]; rfl
      · subst e4; rw [sI_w, if_pos ⟨rfl, rfl⟩]
        by_cases c : fR (fnA l (jF r)) = 0
        · rw [if_pos c]; exact hv0 c
        · rw [if_neg c, hv1 c]
          have h1 := hmain hfs
          apply cvt_n
          rw [hty c]
          unfold rTy; exact decide_eq_false (by omega)
    | cons q fs2 =>
      rw [hfs] at cw d5 hlen
      rw [List.length_cons] at d5 hlen
      refine ⟨fun _ => ?_, fun hz => absurd hz (by rw [List.length_cons]; omega)⟩
      obtain ⟨⟨wf, w34, w35⟩, ws⟩ := cw
      unfold W_X2_backToCaller
      rw [d5, nI_p (by omega), Nat.add_sub_cancel]
      intro s1 e1
      have d1 : sI s1 123 14 = nI fs2.length := by subst e1; rw [sI_w, if_pos ⟨rfl, rfl⟩]
      have n1 : ∀ a i, ¬ (a = 123 ∧ (i = 14 ∨ i = 17)) → sI s1 a i = sI s a i := fun a i h => by subst e1; rw [sI_w, if_neg (by omega)]; exact F5.1 _ _ (by omega)
      rw [d1, nI_ix (n := fs2.length) (by omega), n1 133 _ (by omega), wf.1]
      have in40 : vp_in (nI fs2.length) 40 := nI_inU (by omega) (by omega)
      refine ⟨in40, ?_⟩
      intro s3 e3
      have d3 : sI s3 123 14 = nI fs2.length := by subst e3; rw [sI_w, if_neg (by omega)]; exact d1
      have n3 : ∀ a i, ¬ (a = 123 ∧ (i = 14 ∨ i = 15 ∨ i = 17)) → sI s3 a i = sI s a i := fun a i h => by subst e3; rw [sI_w, if_neg (by omega)]; exact n1 a i (by omega)
      rw [d3, nI_ix (n := fs2.length) (by omega), n3 134 _ (by omega), w34]
      refine ⟨in40, ?_⟩
      intro s5' e5
      have d5' : sI s5' 123 14 = nI fs2.length := by subst e5; rw [sI_w, if_neg (by omega)]; exact d3
      have n5 : ∀ a i, ¬ (a = 123 ∧ (i = 14 ∨ i = 15 ∨ i = 16 ∨ i = 17)) → sI s5' a i = sI s a i := fun a i h => by subst e5; rw [sI_w, if_neg (by omega)]; exact n3 a i (by omega)
      rw [d5', nI_ix (n := fs2.length) (by omega), n5 135 _ (by omega), w35]
      refine ⟨in40, ?_⟩
      intro s7 e7
      have n7 : ∀ a i, ¬ (a = 123 ∧ (i = 14 ∨ i = 15 ∨ i = 16 ∨ i = 17)) → sI s7 a i = sI s a i := fun a i h => by subst e7; rw [sI_w, if_neg (by omega)]; exact n5 a i (by omega)
      have F7 : frM dStk s s7 := by
        subst e7; subst e5; subst e3; subst e1
        exact (((F5s.wI (by unfold dStk; omega)).wI (by unfold dStk; omega)).wI (by unfold dStk; omega)).wI (by unfold dStk; omega)
      have d7 : sI s7 123 14 = nI fs2.length := by subst e7; rw [sI_w, if_neg (by omega)]; exact d5'
      have b7 : sI s7 123 15 = nI (jF q) := by subst e7; rw [sI_w, if_neg (by omega)]; subst e5; rw [sI_w, if_neg (by omega)]; subst e3; rw [sI_w, if_pos ⟨rfl, rfl⟩]
      have p7 : sI s7 123 16 = nI (jP q + 1) := by subst e7; rw [sI_w, if_neg (by omega)]; subst e5; rw [sI_w, if_pos ⟨rfl, rfl⟩]
      have t7 : sI s7 123 17 = nI (16 * fs2.length + (jS q).length) := by subst e7; rw [sI_w, if_pos ⟨rfl, rfl⟩]
      clear e7 e5 e3 e1
      have wf7 : cFr s7 l R fs2.length q := wf.fr (fun a i ha => n7 _ _ (by omega))
      have hF7 : cFs s7 l R (q :: fs2) := ⟨⟨wf7, d7, b7, t7⟩, ws.fr (fun a i ha => n7 _ _ (by omega))⟩
      have H1 := H1 q fs2 hfs
      have hl16 := wf.2.1
      refine ⟨fun h0 => ?_, fun hne => ?_⟩
      · rw [if_pos (hy.mp h0)] at H1
        exact H1 s7 F7 (hF7.stk (fun a i h => rfl) t7 wf7.2.2.1 hl16) p7
      · have hc : ¬ fR (fnA l (jF r)) = 0 := fun h => hne (hy.mpr h)
        rw [if_neg hc] at H1
        have hq := hq16 q fs2 hfs hc
        refine c_pushV (R := R) (y := (rTy (fnA l (jF r)), tpV (jS r) 0)) ?_ t7 wf7.2.2.1 (by omega) (fun s' F' t' k' => ?_)
        · rw [hv1 hc, ← hty hc]; rfl
        · exact H1 s' (F7.trans (F'.mono (fun a i h => by unfold dStk; omega))) (hF7.stk (fun a i h => F'.1 _ _ (by omega)) t' k' (by rw [List.length_cons]; omega)) ((F'.1 _ _ (by omega)).trans p7)
  refine ⟨fun h0 => hP20 _ ?_, fun h1 => hP20 _ ?_⟩
  · intro P33 hP33
    refine ⟨fun _ => hP33 _ _ (fin 0 0 s ⟨fun _ => h0, fun _ => rfl⟩ (fun h => absurd h0 h) (fun _ => rfl) frM.rfl'), fun hz => absurd rfl hz⟩
  · intro P33 hP33
    refine ⟨fun hz => absurd hz (by decide), fun _ => ?_⟩
    have hl1 := hn h1
    refine c_pop1 (fs := fs) (r := r) (d := 0) (e := 1) (R := R) rfl (by omega) f2 (by rw [dr0]; exact c17) (by rw [dr0]; exact f3) (by omega) (fun s1 F1 t1 k1 => ?_)
    exact hP33 _ _ (fin 1 _ s1 ⟨fun h => absurd h (by decide), fun h => absurd h h1⟩ (fun _ => rfl) (fun h => absurd h h1) F1)
end
