/-! ===== PURE: the reference's machine ===== -/
def kM (s : yS) (b : Nat) (st : List Vl) : Prop := ∀ (i : Nat) (h : i < st.length), sI s 215 (b + (st.length - 1 - i)) = (st.getD i v0).2
def mFr (s : yS) (k : Nat) (r : Fr) : Prop := sI s 211 k = nI (jF r) ∧ sI s 212 k = nI (jP r) ∧ sI s 213 k = nI (jS r).length ∧ (jS r).length ≤ 16 ∧ kM s (16 * k) (jS r) ∧ ∀ j, j < 12 → sI s 214 (12 * k + j) = jL r j
def mFs (s : yS) : List Fr → Prop
  | [] => True
  | r :: fs => mFr s fs.length r ∧ mFs s fs
def dSm (a i : Nat) : Prop := (a = 139 ∧ i = 111) ∨ (211 ≤ a ∧ a ≤ 215)
section
variable {s : yS} {l : List Fn} {b k : Nat} {st : List Vl} {r : Fr} {fs : List Fr}
theorem kM.fr {s' : yS} (h : kM s b st) (F : ∀ i, b ≤ i → i < b + st.length → sI s' 215 i = sI s 215 i) : kM s' b st := fun i hi => (F _ (by omega) (by omega)).trans (h i hi)
theorem kM.drop (h : kM s b st) (k : Nat) : kM s b (st.drop k) := fun i hi => by
  rw [List.length_drop] at hi
  have := h (k + i) (by omega)
  rw [List.length_drop, getD_at (by rw [List.length_drop]; exact hi), List.getElem_drop, show st.length - k - 1 - i = st.length - 1 - (k + i) by omega, this, getD_at]
theorem mFr.fr {s' : yS} (h : mFr s k r) (F : ∀ a i, ((a = 211 ∨ a = 212 ∨ a = 213) ∧ i = k) ∨ (a = 215 ∧ 16 * k ≤ i ∧ i < 16 * k + 16) ∨ (a = 214 ∧ 12 * k ≤ i ∧ i < 12 * k + 12) → sI s' a i = sI s a i) : mFr s' k r := by
  obtain ⟨h1, h2, h3, h4, h5, h6⟩ := h
  exact ⟨(F _ _ (by omega)).trans h1, (F _ _ (by omega)).trans h2, (F _ _ (by omega)).trans h3, h4, h5.fr (fun i _ _ => F _ _ (by omega)), fun j hj => (F _ _ (by omega)).trans (h6 j hj)⟩
theorem mFs.fr {s' : yS} {fs : List Fr} (h : mFs s fs) (F : ∀ a i, (a = 215 ∧ i < 16 * fs.length) ∨ (a = 214 ∧ i < 12 * fs.length) ∨ ((a = 211 ∨ a = 212 ∨ a = 213) ∧ i < fs.length) → sI s' a i = sI s a i) : mFs s' fs := by
  induction fs with
  | nil => trivial
  | cons r fs ih =>
    have hl : (r :: fs).length = fs.length + 1 := rfl
    rw [hl] at F
    have f1 : ∀ a i, ((a = 211 ∨ a = 212 ∨ a = 213) ∧ i = fs.length) ∨ (a = 215 ∧ 16 * fs.length ≤ i ∧ i < 16 * fs.length + 16) ∨ (a = 214 ∧ 12 * fs.length ≤ i ∧ i < 12 * fs.length + 12) → sI s' a i = sI s a i := fun a i ha => F a i (by omega)
    have f2 : ∀ a i, (a = 215 ∧ i < 16 * fs.length) ∨ (a = 214 ∧ i < 12 * fs.length) ∨ ((a = 211 ∨ a = 212 ∨ a = 213) ∧ i < fs.length) → sI s' a i = sI s a i := fun a i ha => F a i (by omega)
    exact ⟨h.1.fr f1, ih h.2 f2⟩
/-- the running frame -/
def mTp (s : yS) (K : Nat) (st : List Vl) : Prop := sI s 139 111 = nI (K + 1) ∧ sI s 213 K = nI st.length ∧ kM s (16 * K) st
theorem k_pop1 {K d e : Nat} {Q : Int32 → yS → Prop} (he : e = d + 1) (hK : K < 40) (hl : st.length ≤ 16) (h : mTp s K (st.drop d)) (hd : d < st.length)
    (H : ∀ s', frM (fun a i => a = 213 ∧ i = K) s s' → mTp s' K (st.drop e) → Q (tpV st d) s') : W_X12_pop s Q := by
  subst he
  obtain ⟨h1, h2, h3⟩ := h
  have hdl : (st.drop d).length = (st.drop (d + 1)).length + 1 := by rw [List.length_drop, List.length_drop]; omega
  have hd16 : (st.drop (d + 1)).length < 16 := by rw [List.length_drop]; omega
  have inK : vp_in (nI K) 40 := nI_inU (by omega) (by omega)
  unfold W_X12_pop
  rw [h1, nI_p (by omega), Nat.add_sub_cancel, nI_ix (n := K) (by omega), h2, hdl, nI_p (by omega), Nat.add_sub_cancel]
  refine ⟨inK, inK, ?_⟩
  intro s3 e3
  have f3 : sI s3 139 111 = nI (K + 1) := by subst e3; rw [sI_w, if_neg (by omega)]; exact h1
  have t3 : sI s3 213 K = nI (st.drop (d + 1)).length := by subst e3; rw [sI_w, if_pos ⟨rfl, rfl⟩]
  have v3 : sI s3 215 (16 * K + (st.drop (d + 1)).length) = tpV st d := by
    subst e3; rw [sI_w, if_neg (by omega)]
    have := h3 0 (by omega)
    rw [hdl, show (st.drop (d + 1)).length + 1 - 1 - 0 = (st.drop (d + 1)).length by omega, getD_cons hd] at this
    rw [this]; rfl
  rw [f3, nI_p (by omega), Nat.add_sub_cancel, nI_ix (n := K) (by omega), t3, nI_mul, nI_addU, nI_ix (n := 16 * K + (st.drop (d + 1)).length) (by omega), v3]
  refine ⟨inK, nI_inU (by omega) (by omega), H s3 (by subst e3; exact frM.rfl'.wI ⟨rfl, rfl⟩) ⟨f3, t3, ?_⟩⟩
  have := (h3.drop 1).fr (s' := s3) (fun i _ _ => by subst e3; rw [sI_w, if_neg (by omega)])
  rw [List.drop_drop] at this; exact this
theorem k_push1 {K : Nat} {y : Vl} {Q : yS → Prop} (hK : K < 40) (hl : st.length < 16) (h : mTp s K st)
    (H : ∀ s', frM (fun a i => (a = 213 ∧ i = K) ∨ (a = 215 ∧ i = 16 * K + st.length)) s s' → mTp s' K (y :: st) → Q s') : W_X12_push s y.2 Q := by
  obtain ⟨h1, h2, h3⟩ := h
  have inK : vp_in (nI K) 40 := nI_inU (by omega) (by omega)
  unfold W_X12_push
  rw [h1, nI_p (by omega), Nat.add_sub_cancel, nI_ix (n := K) (by omega), h2, nI_mul, nI_addU, nI_ix (n := 16 * K + st.length) (by omega)]
  refine ⟨inK, nI_inU (by omega) (by omega), ?_⟩
  intro s3 e3
  have f3 : sI s3 139 111 = nI (K + 1) := by subst e3; rw [sI_w, if_neg (by omega)]; exact h1
  have t3 : sI s3 213 K = nI st.length := by subst e3; rw [sI_w, if_neg (by omega)]; exact h2
  rw [f3, nI_p (by omega), Nat.add_sub_cancel, nI_ix (n := K) (by omega), t3, nI_s]
  refine ⟨inK, inK, ?_⟩
  intro s6 e6
  refine H s6 (by subst e6; subst e3; exact (frM.rfl'.wI (by omega)).wI (by omega)) ⟨by subst e6; rw [sI_w, if_neg (by omega)]; exact f3, by subst e6; rw [sI_w, if_pos ⟨rfl, rfl⟩]; rfl, fun i hi => ?_⟩
  rw [List.length_cons] at hi ⊢
  subst e6; rw [sI_w, if_neg (by omega)]; subst e3
  cases i with
  | zero => rw [sI_w, if_pos ⟨rfl, by omega⟩]; rfl
  | succ i =>
    rw [sI_w, if_neg (by omega), List.getD_cons_succ, show st.length + 1 - 1 - (i + 1) = st.length - 1 - i by omega]
    exact h3 i (by omega)
theorem k_goOn {K pl : Nat} {Q : yS → Prop} (hK : K < 40) (h1 : sI s 139 111 = nI (K + 1)) (h2 : sI s 212 K = nI pl) (H : ∀ s', frM (fun a i => a = 212 ∧ i = K) s s' → sI s' 212 K = nI (pl + 1) → Q s') : W_X12_goOn s Q := by
  have inK : vp_in (nI K) 40 := nI_inU (by omega) (by omega)
  unfold W_X12_goOn
  rw [h1, nI_p (by omega), Nat.add_sub_cancel, nI_ix (n := K) (by omega), h2, nI_s]
  refine ⟨inK, inK, ?_⟩
  intro s3 e3
  exact H s3 (by subst e3; exact frM.rfl'.wI ⟨rfl, rfl⟩) (by subst e3; rw [sI_w, if_pos ⟨rfl, rfl⟩])
/-- the running frame is another -/
theorem mFs.stk {s' : yS} {st' : List Vl} {pl' : Nat} (h : mFs s (r :: fs)) (F : ∀ a i, ¬ (((a = 212 ∨ a = 213) ∧ i = fs.length) ∨ (a = 215 ∧ 16 * fs.length ≤ i)) → (211 ≤ a ∧ a ≤ 215) → sI s' a i = sI s a i) (ht : mTp s' fs.length st') (hp : sI s' 212 fs.length = nI pl') (h16 : st'.length ≤ 16) : mFs s' ((jF r, pl', st', jL r) :: fs) ∧ sI s' 139 111 = nI (fs.length + 1) := by
  obtain ⟨⟨f1, f2, f3, f4, f5, f6⟩, fw⟩ := h
  exact ⟨⟨⟨(F _ _ (by omega) (by omega)).trans f1, hp, ht.2.1, h16, ht.2.2, fun j hj => (F _ _ (by omega) (by omega)).trans (f6 j hj)⟩, fw.fr (fun a i ha => F _ _ (by omega) (by omega))⟩, ht.1⟩
/-- one frame is asked -/
theorem k_raise1 {q n : Nat} {c : Int32} {s0 : yS} {P0 : yS → Prop} {Q : yS → Prop} (hok : pgOK l) (hq : q ≤ 1) (h112 : sI s 139 112 = nI q) (hp : pgM s q l) (hFs : mFs s (r :: fs)) (h111 : sI s 139 111 = nI (fs.length + 1)) (hw : okW l n r) (hlen : fs.length + 1 ≤ 40)
    (hP0 : ∀ (s1 : yS), ((((sI s1 139 111) ≤ 0 → W_X12_end s1 1 c 
   (fun s2 => Q s2))
  ∧ (¬ (sI s1 139 111) ≤ 0 → vp_in ((sI s1 139 111) - 1) 40 ∧ 
   ∀ x4 : Int32, x4 = (sI s1 211 (ix ((sI s1 139 111) - 1))) → 
   vp_in ((sI s1 139 111) - 1) 40 ∧ 
   ∀ x6 : Int32, x6 = (sI s1 212 (ix ((sI s1 139 111) - 1))) → 
   ∀ x7 : Int32, x7 = (((nI 72) * (sI s1 139 112)) + ((nI 6) * x4)) → 
   ∀ P49 : Int32 → Prop, (∀ (x8 : Int32), (vp_in (((nI 12) * (sI s1 139 112)) + x4) 36 ∧ 
    (((x7 + (sI s1 185 (ix (((nI 12) * (sI s1 139 112)) + x4)))) ≤ x8 → ∀ s10 : yS, s10 = wI s1 139 111 ((sI s1 139 111) - 1) → 
     P0 s10)
    ∧ (¬ (x7 + (sI s1 185 (ix (((nI 12) * (sI s1 139 112)) + x4)))) ≤ x8 → vp_in x8 216 ∧ 
     ∀ P150 : Prop, ((∀ x12 : Int32, x12 = (x8 + 1) → 
      P49 x12) → P150) → 
     ((x6 < (sI s1 188 (ix x8)) → P150)
     ∧ (¬ x6 < (sI s1 188 (ix x8)) → vp_in x8 216 ∧ 
      (((sI s1 189 (ix x8)) ≤ x6 → P150)
      ∧ (¬ (sI s1 189 (ix x8)) ≤ x6 → vp_in x8 216 ∧ 
       ∀ P114 : Prop, ((vp_in ((sI s1 139 111) - 1) 40 ∧ ∀ s16 : yS, s16 = wI s1 213 (ix ((sI s1 139 111) - 1)) 0 → 
        W_X12_push s16 c 
        (fun s17 => vp_in x8 216 ∧ 
        vp_in ((sI s17 139 111) - 1) 40 ∧ ∀ s20 : yS, s20 = wI s17 212 (ix ((sI s17 139 111) - 1)) (sI s17 190 (ix x8)) → 
        Q s20)) → P114) → 
       ((¬ (sI s1 191 (ix x8)) = 0 → P114)
       ∧ ((sI s1 191 (ix x8)) = 0 → vp_in x8 216 ∧ 
        ((¬ (sI s1 192 (ix x8)) = c → P150)
        ∧ ((sI s1 192 (ix x8)) = c → P114))))))))))) → P49 x8) → 
   P49 x7))) → P0 s1)
    (H1 : ∀ h, hdf l r c = some h → ∀ s', frM dSm s s' → mFs s' ((jF r, hG h, [(false, c)], jL r) :: fs) → sI s' 139 111 = nI (fs.length + 1) → Q s')
    (H0 : hdf l r c = none → ∀ s', frM (fun a i => a = 139 ∧ i = 111) s s' → sI s' 139 111 = nI fs.length → P0 s') : P0 s := by
  have h12 := hok.2.1
  obtain ⟨hf, hpp, _, _⟩ := id hw
  have hfo := hok.2.2.1 _ hf
  have h6 := hfo.2.2.2.2.2.2.2.2.2.1
  have h400 := hfo.2.2.2.2.2.2.2.2.1
  have hho := hfo.2.2.2.2.2.2.2.2.2.2.2
  obtain ⟨⟨f1, f2, f3, f4, f5, f6⟩, fw⟩ := id hFs
  have hfm := hp.2 _ hf
  unfold hdf at H1 H0
  rw [fnA_at hf] at H1 H0
  generalize hP : (fun h => decide (hF h ≤ jP r ∧ jP r < hT h ∧ (hA h = true ∨ hC h = c))) = pr at H1 H0
  have hpr : ∀ h, pr h = decide (hF h ≤ jP r ∧ jP r < hT h ∧ (hA h = true ∨ hC h = c)) := fun h => by rw [← hP]
  have inK : vp_in (nI fs.length) 40 := nI_inU (by omega) (by omega)
  have inF : vp_in (nI (12 * q + jF r)) 36 := nI_inU (by omega) (by omega)
  apply hP0
  rw [h111, h112, nI_p (by omega), Nat.add_sub_cancel, nI_ix (n := fs.length) (by omega), f1, f2]
  refine ⟨fun hz => absurd hz (by rw [nI_0U, nI_leU (by omega) (by omega)]; omega), fun _ => ⟨inK, ?_⟩⟩
  intro x4 e4
  subst e4
  refine ⟨inK, ?_⟩
  intro x6 e6
  subst e6
  rw [nI_mul, nI_mul, nI_mul, nI_addU, nI_addU, nI_ix (n := 12 * q + jF r) (by omega), hfm.2.2.2.2.2.1]
  intro x7 e7
  subst e7
  intro P49 hP49
  suffices hL : ∀ (w k N : Nat), N = 72 * q + 6 * jF r + k → k + w = (fH l[jF r]).length → (∀ (j : Nat) (hj : j < (fH l[jF r]).length), j < k → pr (fH l[jF r])[j] = false) → P49 (nI N) from hL _ 0 _ (by omega) (Nat.zero_add _) (fun j hj h0 => by omega)
  intro w
  induction w with
  | zero =>
    intro k N hN hk hno
    subst hN
    apply hP49
    rw [nI_addU]
    refine ⟨inF, fun _ => ?_, fun hz => absurd ((nI_leU (by omega) (by omega)).mpr (by omega)) hz⟩
    intro s10 e10
    exact H0 (find_no (fun j hj => hno j hj (by omega))) s10 (by subst e10; exact frM.rfl'.wI ⟨rfl, rfl⟩) (by subst e10; rw [sI_w, if_pos ⟨rfl, rfl⟩])
  | succ w ih =>
    intro k N hN hk hno
    subst hN
    have hkl : k < (fH l[jF r]).length := by omega
    have hh := hfm.2.2.2.2.2.2.2 k hkl
    obtain ⟨b1, b2, b3, b4⟩ := hho _ (List.getElem_mem hkl)
    have in216 : vp_in (nI (72 * q + 6 * jF r + k)) 216 := nI_inU (by omega) (by omega)
    have hpk := hpr (fH l[jF r])[k]
    apply hP49
    rw [nI_addU]
    refine ⟨inF, fun hz => absurd ((nI_leU (by omega) (by omega)).mp hz) (by omega), fun _ => ⟨in216, ?_⟩⟩
    intro P150 hP150
    rw [nI_ix (n := 72 * q + 6 * jF r + k) (by omega), hh.1, hh.2.1, hh.2.2.2.1, hh.2.2.2.2, nI_ltU (by omega) (by omega), nI_leU (by omega) (by omega)]
    have nx : pr (fH l[jF r])[k] = false → P150 := fun hf2 => hP150 (fun x12 e12 => by
      subst e12; rw [nI_s]
      refine ih (k + 1) _ (by omega) (by omega) (fun j hj hjk => ?_)
      by_cases cj : j = k
      · subst cj; exact hf2
      · exact hno j hj (by omega))
    refine ⟨fun hlt => nx (by rw [hpk]; exact decide_eq_false (fun h => by omega)), fun hge => ⟨in216, fun hle => nx (by rw [hpk]; exact decide_eq_false (fun h => by omega)), fun hlt => ⟨in216, ?_⟩⟩⟩
    intro P114 hP114
    have yes : (hA (fH l[jF r])[k] = true ∨ hC (fH l[jF r])[k] = c) → P114 := fun hac => by
      apply hP114
      have hfound : (fH l[jF r]).find? pr = some (fH l[jF r])[k] := find_at hkl (by rw [hpk]; exact decide_eq_true ⟨by omega, by omega, hac⟩) (fun j hj hjk => hno j hj hjk)
      refine ⟨inK, ?_⟩
      intro s16 e16
      have t16 : mTp s16 fs.length [] := ⟨by subst e16; rw [sI_w, if_neg (by omega)]; exact h111, by subst e16; rw [sI_w, if_pos ⟨rfl, rfl⟩]; rfl, fun i hi => absurd hi (Nat.not_lt_zero _)⟩
      refine k_push1 (y := (false, c)) (by omega) (by show 0 < 16; omega) t16 (fun s17 F17 t17 => ?_)
      have n17 : ∀ a i, ¬ ((a = 213 ∧ i = fs.length) ∨ (a = 215 ∧ 16 * fs.length ≤ i)) → sI s17 a i = sI s a i := fun a i h => by
        rw [F17.1 _ _ (by have : ([] : List Vl).length = 0 := rfl; omega)]; subst e16; rw [sI_w, if_neg (by omega)]
      rw [t17.1, nI_p (by omega), Nat.add_sub_cancel, nI_ix (n := fs.length) (by omega), n17 190 _ (by omega), hh.2.2.1]
      refine ⟨in216, inK, ?_⟩
      intro s20 e20
      have n20 : ∀ a i, ¬ (a = 212 ∧ i = fs.length) → sI s20 a i = sI s17 a i := fun a i h => by subst e20; rw [sI_w, if_neg h]
      have hres := hFs.stk (s' := s20) (st' := [(false, c)]) (pl' := hG (fH l[jF r])[k]) (fun a i h _ => by rw [n20 _ _ (by omega), n17 _ _ (by omega)]) ⟨(n20 _ _ (by omega)).trans t17.1, (n20 _ _ (by omega)).trans t17.2.1, t17.2.2.fr (fun i _ _ => n20 _ _ (by omega))⟩ (by subst e20; rw [sI_w, if_pos ⟨rfl, rfl⟩]) (by show 1 ≤ 16; omega)
      refine H1 _ hfound s20 ?_ hres.1 hres.2
      subst e20
      have F16 : frM dSm s s17 := by
        have q1 : frM dSm s s16 := by subst e16; exact frM.rfl'.wI (by unfold dSm; omega)
        exact q1.trans (F17.mono (fun a i h => by unfold dSm; omega))
      exact F16.wI (by unfold dSm; omega)
    cases ha : hA (fH l[jF r])[k] with
    | true => exact ⟨fun _ => yes (Or.inl ha), fun hz => absurd hz (by decide)⟩
    | false =>
      refine ⟨fun hz => absurd rfl hz, fun _ => ⟨in216, fun hne => nx ?_, fun heq => yes (Or.inr heq)⟩⟩
      rw [hpk]
      apply decide_eq_false
      rintro ⟨_, _, h | h⟩
      · rw [ha] at h; exact absurd h (by decide)
      · exact hne h
set_option maxHeartbeats 1000000 in
theorem k_raise {q n : Nat} {c : Int32} {Q : yS → Prop} (hok : pgOK l) (hq : q ≤ 1) (h112 : sI s 139 112 = nI q) (hp : pgM s q l) (hF : mFs s (r :: fs)) (h111 : sI s 139 111 = nI (fs.length + 1)) (hw : okW l n r) (hc : okCs l n (jF r) fs) (hlen : fs.length + 1 ≤ 40)
    (H1 : ∀ fs', rsd l c (r :: fs) = some fs' → ∀ s', frM dSm s s' → mFs s' fs' → sI s' 139 111 = nI fs'.length → Q s')
    (H0 : rsd l c (r :: fs) = none → ∀ s', frM (fun a i => dSm a i ∨ (a = 139 ∧ (i = 90 ∨ i = 91))) s s' → sI s' 139 90 = 1 → sI s' 139 91 = c → sI s' 139 111 = 0 → Q s') : W_X12_raise s c Q := by
  have h12 := hok.2.1
  unfold W_X12_raise
  intro P0 hP0
  suffices hL : ∀ (fs : List Fr) (r : Fr) (t : yS), fs.length + 1 ≤ 40 → frM dSm s t → mFs t (r :: fs) → sI t 139 111 = nI (fs.length + 1) → okW l n r → okCs l n (jF r) fs → (∀ fs', rsd l c (r :: fs) = some fs' → ∀ s', frM dSm s s' → mFs s' fs' → sI s' 139 111 = nI fs'.length → Q s') → (rsd l c (r :: fs) = none → ∀ s', frM (fun a i => dSm a i ∨ (a = 139 ∧ (i = 90 ∨ i = 91))) s s' → sI s' 139 90 = 1 → sI s' 139 91 = c → sI s' 139 111 = 0 → Q s') → P0 t from
    hL fs r s hlen frM.rfl' hF h111 hw hc H1 H0
  intro fs
  induction fs with
  | nil =>
    intro r t hlen Ft hF h111 hw hc H1 H0
    have pt : pgM t q l := hp.fr (fun a i ha => Ft.1 _ _ (by unfold dSm; omega))
    have m112 : sI t 139 112 = nI q := (Ft.1 _ _ (by unfold dSm; omega)).trans h112
    refine k_raise1 (s0 := s) hok hq m112 pt hF h111 hw hlen hP0 (fun h hh s' F' f' n' => ?_) (fun hh s' F' n' => ?_)
    · exact H1 _ (by rw [rsd, hh]) s' (Ft.trans F') f' n'
    · apply hP0
      rw [n']
      refine ⟨fun _ => ?_, fun hz => absurd (by decide) hz⟩
      unfold W_X12_end
      intro u1 e1 u2 e2 u3 e3
      refine H0 (by rw [rsd, hh]; rfl) u3 ?_ ?_ ?_ ?_
      · have q1 : frM (fun a i => dSm a i ∨ (a = 139 ∧ (i = 90 ∨ i = 91))) s s' := (Ft.mono (fun a i h => Or.inl h)).trans (F'.mono (fun a i h => by unfold dSm; omega))
        subst e3; subst e2; subst e1
        exact ((q1.wI (by omega)).wI (by omega)).wI (by unfold dSm; omega)
      · subst e3; rw [sI_w, if_neg (by omega)]; subst e2; rw [sI_w, if_neg (by omega)]; subst e1; rw [sI_w, if_pos ⟨rfl, rfl⟩]
      · subst e3; rw [sI_w, if_neg (by omega)]; subst e2; rw [sI_w, if_pos ⟨rfl, rfl⟩]
      · subst e3; rw [sI_w, if_pos ⟨rfl, rfl⟩]
  | cons q2 fs ih =>
    intro r t hlen Ft hF h111 hw hc H1 H0
    rw [List.length_cons] at hlen
    have pt : pgM t q l := hp.fr (fun a i ha => Ft.1 _ _ (by unfold dSm; omega))
    have m112 : sI t 139 112 = nI q := (Ft.1 _ _ (by unfold dSm; omega)).trans h112
    refine k_raise1 (s0 := s) hok hq m112 pt hF h111 hw (by rw [List.length_cons]; omega) hP0 (fun h hh s' F' f' n' => ?_) (fun hh s' F' n' => ?_)
    · exact H1 _ (by rw [rsd, hh]) s' (Ft.trans F') f' n'
    · refine ih q2 s' (by omega) (Ft.trans (F'.mono (fun a i h => by unfold dSm; omega))) (hF.2.fr (fun a i ha => F'.1 _ _ (by omega))) n' hc.1.w hc.2 (fun fs' hr => H1 fs' (by rw [rsd, hh]; exact hr)) (fun hr => H0 (by rw [rsd, hh]; exact hr))
end
