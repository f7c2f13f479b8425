/-! ===== PURE: the other one's machine ===== -/
def cvt (R : List (Nat × Nat)) (y : Vl) : Int32 := if y.1 = true then nI ((rwF R (ix y.2)).1 * 512 + (rwF R (ix y.2)).2) else y.2
def kS (s : yS) (R : List (Nat × Nat)) (b : Nat) (st : List Vl) : Prop := ∀ (i : Nat) (h : i < st.length), sI s 131 (b + (st.length - 1 - i)) = cvt R st[i]
def lS (s : yS) (R : List (Nat × Nat)) (x : Fn) (b : Nat) (lo : Nat → Int32) : Prop := ∀ j, j < 12 → sI s 132 (b + j) = cvt R (rbit x j, lo j)
def cFr (s : yS) (l : List Fn) (R : List (Nat × Nat)) (k : Nat) (r : Fr) : Prop := sI s 133 k = nI (jF r) ∧ (jS r).length ≤ 16 ∧ kS s R (16 * k) (jS r) ∧ lS s R (fnA l (jF r)) (12 * k) (jL r)
def cWt (s : yS) (l : List Fn) (R : List (Nat × Nat)) (k : Nat) (r : Fr) : Prop := cFr s l R k r ∧ sI s 134 k = nI (jP r + 1) ∧ sI s 135 k = nI (16 * k + (jS r).length)
def cWs (s : yS) (l : List Fn) (R : List (Nat × Nat)) : List Fr → Prop
  | [] => True
  | r :: fs => cWt s l R fs.length r ∧ cWs s l R fs
def cTp (s : yS) (l : List Fn) (R : List (Nat × Nat)) (k : Nat) (r : Fr) : Prop := cFr s l R k r ∧ sI s 123 14 = nI k ∧ sI s 123 15 = nI (jF r) ∧ sI s 123 17 = nI (16 * k + (jS r).length)
def cFs (s : yS) (l : List Fn) (R : List (Nat × Nat)) : List Fr → Prop
  | [] => True
  | r :: fs => cTp s l R fs.length r ∧ cWs s l R fs
section
variable {s : yS} {l : List Fn} {R : List (Nat × Nat)} {b k : Nat} {st : List Vl} {y : Vl}
theorem kS.tl (h : kS s R b (y :: st)) : kS s R b st := fun i hi => by
  have this : sI s 131 (b + (st.length + 1 - 1 - (i + 1))) = cvt R st[i] := h (i + 1) (by rw [List.length_cons]; omega)
  rw [show st.length + 1 - 1 - (i + 1) = st.length - 1 - i by omega] at this
  exact this
theorem kS.hd (h : kS s R b (y :: st)) : sI s 131 (b + st.length) = cvt R y := by
  have this : sI s 131 (b + (st.length + 1 - 1 - 0)) = cvt R y := h 0 (by rw [List.length_cons]; omega)
  rw [show st.length + 1 - 1 - 0 = st.length by omega] at this
  exact this
theorem kS.at (h : kS s R b st) {i : Nat} (hi : i < st.length) : sI s 131 (b + (st.length - 1 - i)) = cvt R (st.getD i v0) := by rw [getD_at hi]; exact h i hi
theorem kS.fr {s' : yS} (h : kS s R b st) (F : ∀ i, b ≤ i → i < b + st.length → sI s' 131 i = sI s 131 i) : kS s' R b st := fun i hi => (F _ (by omega) (by omega)).trans (h i hi)
theorem kS.drop (h : kS s R b st) (k : Nat) : kS s R b (st.drop k) := fun i hi => by
  rw [List.length_drop] at hi
  have := h (k + i) (by omega)
  rw [List.length_drop, List.getElem_drop, show st.length - k - 1 - i = st.length - 1 - (k + i) by omega]
  exact this
theorem lS.fr {s' : yS} {x : Fn} {lo : Nat → Int32} (h : lS s R x b lo) (F : ∀ i, b ≤ i → i < b + 12 → sI s' 132 i = sI s 132 i) : lS s' R x b lo := fun j hj => (F _ (by omega) (by omega)).trans (h j hj)
theorem cFr.fr {s' : yS} {r : Fr} (h : cFr s l R k r) (F : ∀ a i, (a = 133 ∧ i = k) ∨ (a = 131 ∧ 16 * k ≤ i ∧ i < 16 * k + 16) ∨ (a = 132 ∧ 12 * k ≤ i ∧ i < 12 * k + 12) → sI s' a i = sI s a i) : cFr s' l R k r := by
  have hl := h.2.1
  exact ⟨(F _ _ (by omega)).trans h.1, h.2.1, h.2.2.1.fr (fun i h1 h2 => F _ _ (by omega)), h.2.2.2.fr (fun i h1 h2 => F _ _ (by omega))⟩
/-- frames that wait stay -/
theorem cWs.fr {s' : yS} {fs : List Fr} (h : cWs s l R fs) (F : ∀ a i, (a = 131 ∧ i < 16 * fs.length) ∨ (a = 132 ∧ i < 12 * fs.length) ∨ ((a = 133 ∨ a = 134 ∨ a = 135) ∧ i < fs.length) → sI s' a i = sI s a i) : cWs s' l R fs := by
  induction fs with
  | nil => trivial
  | cons r fs ih =>
    have hl : (r :: fs).length = fs.length + 1 := rfl
    rw [hl] at F
    obtain ⟨⟨h1, h2, h3⟩, h4⟩ := h
    have f1 : ∀ a i, (a = 133 ∧ i = fs.length) ∨ (a = 131 ∧ 16 * fs.length ≤ i ∧ i < 16 * fs.length + 16) ∨ (a = 132 ∧ 12 * fs.length ≤ i ∧ i < 12 * fs.length + 12) → sI s' a i = sI s a i := fun a i ha => F a i (by omega)
    have f2 : ∀ a i, (a = 131 ∧ i < 16 * fs.length) ∨ (a = 132 ∧ i < 12 * fs.length) ∨ ((a = 133 ∨ a = 134 ∨ a = 135) ∧ i < fs.length) → sI s' a i = sI s a i := fun a i ha => F a i (by omega)
    refine ⟨⟨h1.fr f1, ?_, ?_⟩, ih h4 f2⟩
    · exact (F 134 fs.length (by omega)).trans h2
    · exact (F 135 fs.length (by omega)).trans h3
theorem cvt_gr {n : Nat} (h : okV R.length y.1 y.2) {x : Nat × Nat} (hn : R.length < 2147483647) : cvt (R ++ [x]) y = cvt R y := by
  unfold cvt
  cases ht : y.1 with
  | false => rw [if_neg (by decide), if_neg (by decide)]
  | true =>
    obtain ⟨k, hk, e⟩ := h ht
    rw [if_pos rfl, if_pos rfl, e, nI_ix (by omega)]
    have : rwF (R ++ [x]) k = rwF R k := by
      unfold rwF
      by_cases c : k = 0
      · rw [if_pos c, if_pos c]
      · rw [if_neg c, if_neg c, List.getD_eq_getElem?_getD, List.getD_eq_getElem?_getD, List.getElem?_append_left (by omega)]
    rw [this]
theorem kS.gr {x : Nat × Nat} (h : kS s R b st) (ho : okS R.length st) (hn : R.length < 2147483647) : kS s (R ++ [x]) b st := fun i hi => by
  rw [cvt_gr (n := 0) (ho _ (List.getElem_mem hi)) hn]; exact h i hi
theorem lS.gr {x : Nat × Nat} {f : Fn} {lo : Nat → Int32} (h : lS s R f b lo) (ho : okL2 R.length f lo) (hn : R.length < 2147483647) : lS s (R ++ [x]) f b lo := fun j hj => by
  rw [cvt_gr (n := 0) (ho j hj) hn]; exact h j hj
theorem cFr.gr {x : Nat × Nat} {r : Fr} (h : cFr s l R k r) (ho : okS R.length (jS r)) (hl : okL2 R.length (fnA l (jF r)) (jL r)) (hn : R.length < 2147483647) : cFr s l (R ++ [x]) k r := ⟨h.1, h.2.1, h.2.2.1.gr ho hn, h.2.2.2.gr hl hn⟩
theorem cWs.gr {x : Nat × Nat} (hn : R.length < 2147483647) : ∀ {c : Nat} {fs : List Fr}, cWs s l R fs → okCs l R.length c fs → cWs s l (R ++ [x]) fs
  | _, [], _, _ => trivial
  | c, r :: fs, h, ho => by
    obtain ⟨⟨h1, h2⟩, h3⟩ := h
    obtain ⟨⟨q1, q2, q3, q4, q5, q6, q7⟩, q8⟩ := ho
    exact ⟨⟨h1.gr q6 (by rw [fnA_at q1]; exact q7) hn, h2⟩, h3.gr hn q8⟩
/-! the stack -/
theorem c_popV {Q : Int32 → yS → Prop} (h17 : sI s 123 17 = nI (b + (y :: st).length)) (hk : kS s R b (y :: st)) (hb : b + st.length < 640)
    (H : ∀ s', frM (fun a i => a = 123 ∧ i = 17) s s' → sI s' 123 17 = nI (b + st.length) → Q (cvt R y) s') : W_X2_pop s Q := by
  unfold W_X2_pop
  rw [h17, List.length_cons, nI_p (by omega), show b + (st.length + 1) - 1 = b + st.length by omega]
  intro s1 e1
  have t1 : sI s1 123 17 = nI (b + st.length) := by subst e1; rw [sI_w, if_pos ⟨rfl, rfl⟩]
  have k1 : sI s1 131 (b + st.length) = cvt R y := by subst e1; rw [sI_w, if_neg (by omega)]; exact hk.hd
  rw [t1, nI_ix (by omega), k1]
  exact ⟨nI_inU (by omega) (by omega), H s1 (by subst e1; exact frM.rfl'.wI ⟨rfl, rfl⟩) t1⟩
theorem c_pushV {Q : yS → Prop} {v : Int32} (hv : v = cvt R y) (h17 : sI s 123 17 = nI (b + st.length)) (hk : kS s R b st) (hb : b + st.length < 640)
    (H : ∀ s', frM (fun a i => (a = 123 ∧ i = 17) ∨ (a = 131 ∧ i = b + st.length)) s s' → sI s' 123 17 = nI (b + (y :: st).length) → kS s' R b (y :: st) → Q s') : W_X2_push s v Q := by
  unfold W_X2_push
  rw [h17, nI_ix (by omega)]
  refine ⟨nI_inU (by omega) (by omega), ?_⟩
  intro s2 e2
  have t2 : sI s2 123 17 = nI (b + st.length) := by subst e2; rw [sI_w, if_neg (by omega)]; exact h17
  rw [t2, nI_s]
  intro s3 e3
  refine H s3 (by subst e3; subst e2; exact (frM.rfl'.wI (by omega)).wI (by omega)) (by subst e3; rw [sI_w, if_pos ⟨rfl, rfl⟩]; rfl) (fun i hi => ?_)
  rw [List.length_cons] at hi ⊢
  subst e3; rw [sI_w, if_neg (by omega)]; subst e2
  cases i with
  | zero => rw [sI_w, if_pos ⟨rfl, by omega⟩, List.getElem_cons_zero]; exact hv
  | succ i =>
    rw [sI_w, if_neg (by omega), List.getElem_cons_succ, show st.length + 1 - 1 - (i + 1) = st.length - 1 - i by omega]
    exact hk i (by omega)
end
section
variable {s : yS} {g : Nat} {l : List Fn} {R : List (Nat × Nat)}
/-! raising -/
def dStk (a i : Nat) : Prop := (a = 123 ∧ 14 ≤ i ∧ i ≤ 17) ∨ (131 ≤ a ∧ a ≤ 135)
theorem c_handlerFor {c : Int32} {r : Fr} {Q : Int32 → Prop} (hok : pgOK l) (hg : gOK g) (h11 : sR s 123 11 = g + 1) (hp : pgC s g l) (hf : jF r < l.length) (hp4 : jP r < 400) (h15 : sI s 123 15 = nI (jF r))
    (H1 : ∀ (j : Nat) (hj : j < (fH l[jF r]).length), hdf l r c = some (fH l[jF r])[j] → Q (nI (jF r * 6 + j))) (H0 : hdf l r c = none → Q (-1)) : W_X2_handlerFor s (nI (jP r)) c Q := by
  have h12 := hok.2.1
  have hfo := hok.2.2.1 _ hf
  have h6 := hfo.2.2.2.2.2.2.2.2.2.1
  have h400 := hfo.2.2.2.2.2.2.2.2.1
  have hho := hfo.2.2.2.2.2.2.2.2.2.2.2
  unfold hdf at H1 H0
  rw [fnA_at hf] at H1 H0
  generalize hP : (fun h => decide (hF h ≤ jP r ∧ jP r < hT h ∧ (hA h = true ∨ hC h = c))) = pr at H1 H0
  have hpr : ∀ h, pr h = decide (hF h ≤ jP r ∧ jP r < hT h ∧ (hA h = true ∨ hC h = c)) := fun h => by rw [← hP]
  unfold W_X2_handlerFor
  rw [h15, nI_mul]
  intro x1 e1
  subst e1
  intro P11 hP11
  have hfm := hp.2 _ hf
  have inf : vp_in (nI (jF r)) 12 := nI_inU (by omega) (by omega)
  rw [nI_ix (n := jF r) (by omega)] at hP11
  suffices hL : ∀ (q k N : Nat), N = jF r * 6 + k → k + q = (fH l[jF r]).length → (∀ (j : Nat) (hj : j < (fH l[jF r]).length), j < k → pr (fH l[jF r])[j] = false) → P11 (nI N) from hL _ 0 _ (by omega) (Nat.zero_add _) (fun j hj h0 => by omega)
  intro q
  induction q with
  | zero =>
    intro k N hN hk hno
    subst hN
    apply hP11
    refine ⟨g, h11, hg.kd, inf, ?_⟩
    rw [hfm.2.2.2.2.2.1, nI_addU]
    refine ⟨fun _ => H0 (find_no (fun j hj => hno j hj (by omega))), fun hz => absurd ((nI_leU (by omega) (by omega)).mpr (by omega)) hz⟩
  | succ q ih =>
    intro k N hN hk hno
    subst hN
    have hkl : k < (fH l[jF r]).length := by omega
    have hh := hfm.2.2.2.2.2.2.2.1 k hkl
    obtain ⟨b1, b2, b3, b4⟩ := hho _ (List.getElem_mem hkl)
    have in72 : vp_in (nI (jF r * 6 + k)) 72 := nI_inU (by omega) (by omega)
    have hpk := hpr (fH l[jF r])[k]
    apply hP11
    refine ⟨g, h11, hg.kd, inf, ?_⟩
    rw [hfm.2.2.2.2.2.1, nI_addU]
    refine ⟨fun hz => absurd ((nI_leU (by omega) (by omega)).mp hz) (by omega), fun _ => ⟨g, h11, hg.kd, ?_⟩⟩
    unfold W_X5_isInRange
    rw [nI_ix (n := jF r * 6 + k) (by omega), hh.1, hh.2.1, nI_ltU (by omega) (by omega), nI_leU (by omega) (by omega)]
    have nx : pr (fH l[jF r])[k] = false → ∀ x7 : Int32, x7 = nI (jF r * 6 + k) + 1 → P11 x7 := fun hf2 x7 e7 => by
      subst e7; rw [nI_s]
      refine ih (k + 1) _ (by omega) (by omega) (fun j hj hjk => ?_)
      by_cases cj : j = k
      · subst cj; exact hf2
      · exact hno j hj (by omega)
    have yes : pr (fH l[jF r])[k] = true → Q (nI (jF r * 6 + k)) := fun ht => H1 k hkl (find_at hkl ht (fun j hj hjk => hno j hj hjk))
    refine ⟨in72, fun hlt => ?_, fun hge => ⟨in72, fun hle => ?_, fun hlt => ?_⟩⟩
    · intro P73 hP73
      exact ⟨fun _ => hP73 (nx (by rw [hpk]; exact decide_eq_false (fun h => by omega))), fun hz => absurd rfl hz⟩
    · intro P73 hP73
      exact ⟨fun _ => hP73 (nx (by rw [hpk]; exact decide_eq_false (fun h => by omega))), fun hz => absurd rfl hz⟩
    · intro P73 hP73
      refine ⟨fun hz => absurd hz (by decide), fun _ => ⟨g, h11, hg.kd, in72, ?_⟩⟩
      rw [hh.2.2.2.1]
      cases ha : hA (fH l[jF r])[k] with
      | true => exact ⟨fun _ => yes (by rw [hpk]; exact decide_eq_true ⟨by omega, by omega, Or.inl ha⟩), fun hz => absurd hz (by decide)⟩
      | false =>
        refine ⟨fun hz => absurd rfl hz, fun _ => ⟨g, h11, hg.kd, in72, ?_⟩⟩
        rw [hh.2.2.2.2]
        refine ⟨fun hne => hP73 (nx ?_), fun heq => yes (by rw [hpk]; exact decide_eq_true ⟨by omega, by omega, Or.inr heq⟩)⟩
        rw [hpk]
        apply decide_eq_false
        rintro ⟨_, _, h | h⟩
        · rw [ha] at h; exact absurd h (by decide)
        · exact hne h
set_option maxHeartbeats 1000000 in
theorem c_throwCode {n : Nat} {c : Int32} {r : Fr} {fs : List Fr} {Q : yS → Prop} (hok : pgOK l) (hg : gOK g) (h11 : sR s 123 11 = g + 1) (hp : pgC s g l) (hF : cFs s l R (r :: fs)) (h16 : sI s 123 16 = nI (jP r + 1)) (hw : okW l n r) (hc : okCs l n (jF r) fs) (hlen : fs.length + 1 ≤ 40)
    (H1 : ∀ fs', rsd l c (r :: fs) = some fs' → ∀ s', frM dStk s s' → cFs s' l R fs' → (∀ q fs2, fs' = q :: fs2 → sI s' 123 16 = nI (jP q)) → Q s')
    (H0 : rsd l c (r :: fs) = none → ∀ s', frM (fun a i => dStk a i ∨ (a = 124 ∧ i ≤ 1)) s s' → sI s' 124 0 = 1 → sI s' 124 1 = c → Q s') : W_X2_throwCode s c Q := by
  have hgv : g = 37 ∨ g = 55 ∨ g = 73 := hg
  have h12 := hok.2.1
  unfold W_X2_throwCode
  intro P2 hP2
  suffices hL : ∀ (fs : List Fr) (r : Fr) (j : Nat) (t : yS), j + fs.length + 1 ≤ 40 → frM dStk s t → cFs t l R (r :: fs) → sI t 123 16 = nI (jP r + 1) → okW l n r → okCs l n (jF r) fs → (∀ fs', rsd l c (r :: fs) = some fs' → ∀ s', frM dStk s s' → cFs s' l R fs' → (∀ q fs2, fs' = q :: fs2 → sI s' 123 16 = nI (jP q)) → Q s') → (rsd l c (r :: fs) = none → ∀ s', frM (fun a i => dStk a i ∨ (a = 124 ∧ i ≤ 1)) s s' → sI s' 124 0 = 1 → sI s' 124 1 = c → Q s') → P2 (nI j) t from
    hL fs r 0 s (by omega) frM.rfl' hF h16 hw hc H1 H0
  intro fs
  induction fs with
  | nil =>
    intro r j t hj Ft hF h16 hw hc H1 H0
    obtain ⟨hf, hpp, _, _⟩ := id hw
    have hp4 := (hok.2.2.1 _ hf).2.2.2.2.2.2.2.2.1
    have pt : pgC t g l := hp.fr (fun a i ha => Ft.1 a i (by unfold dStk; omega))
    have r11 := (Ft.2.2 123 11).trans h11
    obtain ⟨⟨cf, c14, c15, c17⟩, cw⟩ := hF
    apply hP2
    refine ⟨fun hz => absurd ((nI_leU (by omega) (by omega)).mp hz) (by omega), fun _ => ?_⟩
    rw [h16, nI_p (by omega), Nat.add_sub_cancel]
    rw [rsd] at H1 H0
    refine c_handlerFor hok hg r11 pt hf (by omega) c15 (fun k hk hd => ⟨fun hz => absurd hz (nI_ne1 (by have := (hok.2.2.1 _ hf).2.2.2.2.2.2.2.2.2.1; omega)), fun _ => ?_⟩) (fun hd => ⟨fun _ => ⟨fun hz => absurd c14 hz, fun _ => ?_⟩, fun hz => absurd rfl hz⟩)
    · have hk6 := (hok.2.2.1 _ hf).2.2.2.2.2.2.2.2.2.1
      rw [hd] at H1
      rw [c14, nI_mul]
      intro s7 e7
      have t7 : sI s7 123 17 = nI (([] : List Fr).length * 16 + ([] : List Vl).length) := by subst e7; rw [sI_w, if_pos ⟨rfl, rfl⟩]; rfl
      refine c_pushV (R := R) (y := (false, c)) (b := 0) (st := []) rfl t7 (fun i hi => absurd hi (Nat.not_lt_zero _)) (by show 0 + 0 < 640; omega) (fun s8 F8 t8 k8 => ?_)
      have F8' : frM dStk s s8 := (Ft.trans (by subst e7; exact frM.rfl'.wI (by unfold dStk; omega))).trans (F8.mono (fun a i h => by unfold dStk; omega))
      have p8 : pgC s8 g l := hp.fr (fun a i ha => F8'.1 a i (by unfold dStk; omega))
      refine ⟨g, (F8'.2.2 _ _).trans h11, hg.kd, nI_inU (by omega) (by omega), ?_⟩
      rw [nI_ix (n := jF r * 6 + k) (by omega), ((p8.2 _ hf).2.2.2.2.2.2.2.1 k hk).2.2.1]
      intro s11 e11
      have n11 : ∀ a i, ¬ (a = 123 ∧ i = 16) → sI s11 a i = sI s8 a i := fun a i h => by subst e11; rw [sI_w, if_neg h]
      have n7 : ∀ a i, ¬ (a = 123 ∧ i = 17) → sI s7 a i = sI t a i := fun a i h => by subst e7; rw [sI_w, if_neg h]
      refine H1 _ rfl s11 (F8'.trans (by subst e11; exact frM.rfl'.wI (by unfold dStk; omega))) ⟨⟨⟨?_, by show 1 ≤ 16; omega, ?_, ?_⟩, ?_, ?_, ?_⟩, trivial⟩ (fun q fs2 he => ?_)
      · rw [n11 _ _ (by omega), F8.1 _ _ (by omega), n7 _ _ (by omega)]; exact cf.1
      · exact k8.fr (fun i _ _ => n11 _ _ (by omega))
      · exact cf.2.2.2.fr (fun i _ _ => by rw [n11 _ _ (by omega), F8.1 _ _ (by omega), n7 _ _ (by omega)])
      · rw [n11 _ _ (by omega), F8.1 _ _ (by omega), n7 _ _ (by omega)]; exact c14
      · rw [n11 _ _ (by omega), F8.1 _ _ (by omega), n7 _ _ (by omega)]; exact c15
      · rw [n11 _ _ (by omega)]; exact t8
      · cases he; subst e11; rw [sI_w, if_pos ⟨rfl, rfl⟩]; rfl
    · rw [hd] at H0
      unfold W_X2_end
      refine ⟨nI_inU (a := 0) (by omega) (by omega), ?_⟩
      intro s2 e2
      refine ⟨nI_inU (a := 1) (by omega) (by omega), ?_⟩
      intro s4 e4
      rw [show ix 0 = 0 from rfl] at e2
      rw [show ix 1 = 1 from rfl] at e4
      refine H0 rfl s4 ?_ ?_ ?_
      · subst e4; subst e2
        exact ((Ft.mono (fun a i h => Or.inl h)).wI (by omega)).wI (by omega)
      · subst e4; rw [sI_w, if_neg (by omega)]; subst e2; rw [sI_w, if_pos ⟨rfl, rfl⟩]
      · subst e4; rw [sI_w, if_pos ⟨rfl, rfl⟩]
  | cons q fs ih =>
    intro r j t hj Ft hF h16 hw hc H1 H0
    rw [List.length_cons] at hj
    obtain ⟨hf, hpp, _, _⟩ := id hw
    have hp4 := (hok.2.2.1 _ hf).2.2.2.2.2.2.2.2.1
    have pt : pgC t g l := hp.fr (fun a i ha => Ft.1 a i (by unfold dStk; omega))
    have r11 := (Ft.2.2 123 11).trans h11
    obtain ⟨⟨cf, c14, c15, c17⟩, cw⟩ := hF
    rw [List.length_cons] at c14 c17 cf
    apply hP2
    refine ⟨fun hz => absurd ((nI_leU (by omega) (by omega)).mp hz) (by omega), fun _ => ?_⟩
    rw [h16, nI_p (by omega), Nat.add_sub_cancel]
    rw [rsd] at H1 H0
    refine c_handlerFor hok hg r11 pt hf (by omega) c15 (fun k hk hd => ⟨fun hz => absurd hz (nI_ne1 (by have := (hok.2.2.1 _ hf).2.2.2.2.2.2.2.2.2.1; omega)), fun _ => ?_⟩) (fun hd => ⟨fun _ => ⟨fun _ => ?_, fun hz => absurd hz (by rw [c14, nI_0U, nI_inj (by omega) (by omega)]; omega)⟩, fun hz => absurd rfl hz⟩)
    · have hk6 := (hok.2.2.1 _ hf).2.2.2.2.2.2.2.2.2.1
      rw [hd] at H1
      rw [c14, nI_mul]
      intro s7 e7
      have t7 : sI s7 123 17 = nI (16 * (fs.length + 1) + ([] : List Vl).length) := by
        subst e7; rw [sI_w, if_pos ⟨rfl, rfl⟩, show (fs.length + 1) * 16 = 16 * (fs.length + 1) + ([] : List Vl).length by rw [List.length_nil]; omega]
      refine c_pushV (R := R) (y := (false, c)) (b := 16 * (fs.length + 1)) (st := []) rfl t7 (fun i hi => absurd hi (Nat.not_lt_zero _)) (by rw [List.length_nil]; omega) (fun s8 F8 t8 k8 => ?_)
      rw [List.length_nil, Nat.add_zero] at F8
      have F8' : frM dStk s s8 := (Ft.trans (by subst e7; exact frM.rfl'.wI (by unfold dStk; omega))).trans (F8.mono (fun a i h => by unfold dStk; omega))
      have p8 : pgC s8 g l := hp.fr (fun a i ha => F8'.1 a i (by unfold dStk; omega))
      refine ⟨g, (F8'.2.2 _ _).trans h11, hg.kd, nI_inU (by omega) (by omega), ?_⟩
      rw [nI_ix (n := jF r * 6 + k) (by omega), ((p8.2 _ hf).2.2.2.2.2.2.2.1 k hk).2.2.1]
      intro s11 e11
      have n11 : ∀ a i, ¬ (a = 123 ∧ i = 16) → sI s11 a i = sI s8 a i := fun a i h => by subst e11; rw [sI_w, if_neg h]
      have n7 : ∀ a i, ¬ (a = 123 ∧ i = 17) → sI s7 a i = sI t a i := fun a i h => by subst e7; rw [sI_w, if_neg h]
      have kp : ∀ a i, ¬ (a = 123 ∧ (i = 16 ∨ i = 17)) → ¬ (a = 131 ∧ 16 * (fs.length + 1) ≤ i) → sI s11 a i = sI t a i := fun a i h1 h2 => by rw [n11 _ _ (by omega), F8.1 _ _ (by omega), n7 _ _ (by omega)]
      refine H1 _ rfl s11 (F8'.trans (by subst e11; exact frM.rfl'.wI (by unfold dStk; omega))) ⟨⟨⟨?_, by show 1 ≤ 16; omega, ?_, ?_⟩, ?_, ?_, ?_⟩, ?_⟩ (fun q2 fs2 he => ?_)
      · rw [List.length_cons, kp _ _ (by omega) (by omega)]; exact cf.1
      · exact k8.fr (fun i _ _ => n11 _ _ (by omega))
      · exact cf.2.2.2.fr (fun i _ _ => kp _ _ (by omega) (by omega))
      · rw [List.length_cons, kp _ _ (by omega) (by omega)]; exact c14
      · rw [kp _ _ (by omega) (by omega)]; exact c15
      · rw [n11 _ _ (by omega)]; exact t8
      · exact cw.fr (fun a i ha => by rw [List.length_cons] at ha; exact kp _ _ (by omega) (by omega))
      · cases he; subst e11; rw [sI_w, if_pos ⟨rfl, rfl⟩]; rfl
    · rw [hd] at H0 H1
      unfold W_X2_backToCaller
      obtain ⟨⟨wf, w34, w35⟩, ws⟩ := cw
      rw [c14, nI_p (by omega), Nat.add_sub_cancel]
      intro s1 e1
      have d1 : sI s1 123 14 = nI fs.length := by subst e1; rw [sI_w, if_pos ⟨rfl, rfl⟩]
      have n1 : ∀ a i, ¬ (a = 123 ∧ i = 14) → sI s1 a i = sI t a i := fun a i h => by subst e1; rw [sI_w, if_neg h]
      rw [d1, nI_ix (n := fs.length) (by omega), n1 133 _ (by omega), wf.1]
      have in40 : vp_in (nI fs.length) 40 := nI_inU (by omega) (by omega)
      refine ⟨in40, ?_⟩
      intro s3 e3
      have d3 : sI s3 123 14 = nI fs.length := by subst e3; rw [sI_w, if_neg (by omega)]; exact d1
      have n3 : ∀ a i, ¬ (a = 123 ∧ (i = 14 ∨ i = 15)) → sI s3 a i = sI t a i := fun a i h => by subst e3; rw [sI_w, if_neg (by omega)]; exact n1 a i (by omega)
      rw [d3, nI_ix (n := fs.length) (by omega), n3 134 _ (by omega), w34]
      refine ⟨in40, ?_⟩
      intro s5 e5
      have d5 : sI s5 123 14 = nI fs.length := by subst e5; rw [sI_w, if_neg (by omega)]; exact d3
      have n5 : ∀ a i, ¬ (a = 123 ∧ (i = 14 ∨ i = 15 ∨ i = 16)) → sI s5 a i = sI t a i := fun a i h => by subst e5; rw [sI_w, if_neg (by omega)]; exact n3 a i (by omega)
      rw [d5, nI_ix (n := fs.length) (by omega), n5 135 _ (by omega), w35]
      refine ⟨in40, ?_⟩
      intro s7 e7
      have n7 : ∀ a i, ¬ (a = 123 ∧ (i = 14 ∨ i = 15 ∨ i = 16 ∨ i = 17)) → sI s7 a i = sI t a i := fun a i h => by subst e7; rw [sI_w, if_neg (by omega)]; exact n5 a i (by omega)
      intro x5 e5'
      subst e5'; rw [nI_s]
      refine ih q (j + 1) s7 (by omega) (Ft.trans ?_) ⟨⟨wf.fr (fun a i ha => n7 _ _ (by omega)), ?_, ?_, ?_⟩, ws.fr (fun a i ha => n7 _ _ (by omega))⟩ ?_ hc.1.w hc.2 H1 H0
      · subst e7; subst e5; subst e3; subst e1
        exact (((frM.rfl'.wI (by unfold dStk; omega)).wI (by unfold dStk; omega)).wI (by unfold dStk; omega)).wI (by unfold dStk; omega)
      · subst e7; rw [sI_w, if_neg (by omega)]; exact d5
      · subst e7; rw [sI_w, if_neg (by omega)]; subst e5; rw [sI_w, if_neg (by omega)]; subst e3; rw [sI_w, if_pos ⟨rfl, rfl⟩]
      · subst e7; rw [sI_w, if_pos ⟨rfl, rfl⟩]
      · subst e7; rw [sI_w, if_neg (by omega)]; subst e5; rw [sI_w, if_pos ⟨rfl, rfl⟩]
end
