section
variable {s : yS}
theorem oI_toInt {v : Int} (h1 : -2147483648 ≤ v) (h2 : v ≤ 2147483647) : (Int32.ofInt v).toInt = v := Int32.toInt_ofInt_of_le h1 (by omega)
theorem oI_J {v : Int} (h1 : -2147483648 ≤ v) (h2 : v ≤ 2147483647) : (Int32.ofInt v).toInt64 = Int64.ofInt v := by
  rw [← Int64.toInt_inj, Int32.toInt_toInt64, oI_toInt h1 h2, oJ_toInt (by omega) (by omega)]
/-- dimension d's row in the reference -/
def rwM (s : yS) (d : Nat) (l : List Int) : Prop := (sI s 169) d = nI l.length ∧ arow (sI s 168) (2000 * d) l
def cuF (d : Nat) (s s' : yS) : Prop := (∀ a i, ¬ (a = 168 ∧ 2000 * d ≤ i ∧ i < 2000 * d + 2000) → ¬ (a = 169 ∧ i = d) → sI s' a i = sI s a i) ∧ (∀ a i, sJ s' a i = sJ s a i) ∧ ∀ a i, sR s' a i = sR s a i
theorem k_cut {d : Nat} {l : List Int} {lo hi v : Int} {Q : yS → Prop} (hd : d < 9) (hr : rwM s d l) (ho : okR lo hi l) (hl : l.length < 1999) (h1 : -2147483648 ≤ lo) (h2 : hi ≤ 2147483647) (hv1 : -2147483648 ≤ v) (hv2 : v ≤ 2147483648)
    (H : ∀ s', cuF d s s' → rwM s' d (stp lo hi l v) → Q s') : W_X12_cut s (nI d) (Int64.ofInt v) (Int32.ofInt lo) (Int32.ofInt hi) Q := by
  have hlh : lo ≤ hi := by obtain ⟨r, e⟩ := ho.2.1; have := ho.2.2 lo (by rw [e]; simp); omega
  have hb : ∀ (i : Nat) (h : i < l.length), -2147483648 ≤ l[i] ∧ l[i] ≤ 2147483647 := fun i h => by have := ho.2.2 _ (List.getElem_mem h); omega
  have hk := cnt_le l v
  have hs := ho.1
  unfold W_X12_cut
  rw [oI_J h1 (by omega), oI_J (by omega) h2, lgc_le0, lgc_le0, oJ_toInt (by omega) (by omega), oJ_toInt (by omega) (by omega), oJ_toInt (by omega) (by omega)]
  have same : (v ≤ lo ∨ hi < v) → Q s := fun hh => H s ⟨fun _ _ _ _ => rfl, fun _ _ => rfl, fun _ _ => rfl⟩ (by unfold stp; rw [if_pos hh]; exact hr)
  refine ⟨fun hh => same (Or.inl hh), fun hlo => ⟨fun hhi => ?_, fun hh => same (Or.inr (by omega))⟩⟩
  have hst : stp lo hi l v = insF l v := by unfold stp; rw [if_neg (by omega)]
  rw [hst] at H
  refine ⟨nI_inU hd (by omega), ?_⟩
  intro x2 e2
  rw [nI_ix (n := d) (by omega), hr.1] at e2
  subst e2
  intro P28 hP28
  -- behind the search
  have found : ¬ v ∈ l → ∀ P91 : Int32 → yS → Prop, (∀ (x4 : Int32) (s5 : yS), (((x4 ≤ nI (cnt l v) → vp_in (((nI 2000) * nI d) + nI (cnt l v)) 18000 ∧ ∀ s7 : yS, s7 = wI s5 168 (ix (((nI 2000) * nI d) + nI (cnt l v))) (Int64.ofInt v).toInt32 → 
        vp_in (nI d) 9 ∧ 
        vp_in (nI d) 9 ∧ ∀ s10 : yS, s10 = wI s7 169 (ix (nI d)) ((sI s7 169 (ix (nI d))) + 1) → 
        Q s10)
       ∧ (¬ x4 ≤ nI (cnt l v) → vp_in ((((nI 2000) * nI d) + x4) - 1) 18000 ∧ 
        vp_in (((nI 2000) * nI d) + x4) 18000 ∧ ∀ s13 : yS, s13 = wI s5 168 (ix (((nI 2000) * nI d) + x4)) (sI s5 168 (ix ((((nI 2000) * nI d) + x4) - 1))) → 
        ∀ x14 : Int32, x14 = (x4 + (-1)) → 
        P91 x14 s13))) → P91 x4 s5) → 
      P91 (nI l.length) s := by
    intro hnin P91 hP91
    suffices hL : ∀ (m j : Nat) (s5 : yS), cnt l v + m = j → j ≤ l.length → cuF d s s5 → sI s5 169 d = nI l.length → (∀ i, i ≤ j → ∀ (hi : i < l.length), sI s5 168 (2000 * d + i) = Int32.ofInt l[i]) → (∀ i, j < i → ∀ (hi : i - 1 < l.length), sI s5 168 (2000 * d + i) = Int32.ofInt l[i - 1]) → P91 (nI j) s5 from
      hL (l.length - cnt l v) l.length s (by omega) (by omega) ⟨fun _ _ _ _ => rfl, fun _ _ => rfl, fun _ _ => rfl⟩ hr.1 (fun i _ hi => hr.2 i hi) (fun i hji hi => by omega)
    intro m
    induction m with
    | zero =>
      intro j s5 hj hjl F5 n5 ha hb2
      apply hP91
      rw [nI_mul, nI_addU, nI_leU (by omega) (by omega), nI_ix (n := 2000 * d + cnt l v) (by omega), nI_ix (n := d) (by omega)]
      refine ⟨fun _ => ⟨nI_inU (by omega) (by omega), ?_⟩, fun hh => absurd (by omega) hh⟩
      intro s7 e7
      refine ⟨nI_inU hd (by omega), nI_inU hd (by omega), ?_⟩
      intro s10 e10
      have n7 : sI s7 169 d = nI l.length := by subst e7; rw [sI_w, if_neg (by omega)]; exact n5
      rw [n7, nI_s] at e10
      rw [oI32 (by omega) (by omega)] at e7
      refine H s10 ⟨fun a i h3 h4 => ?_, fun a i => ?_, fun a i => ?_⟩ ⟨?_, fun i hi => ?_⟩
      · subst e10; subst e7; rw [sI_w, if_neg h4, sI_w, if_neg (fun hh => h3 (by omega))]; exact F5.1 a i h3 h4
      · subst e10; subst e7; exact F5.2.1 a i
      · subst e10; subst e7; exact F5.2.2 a i
      · subst e10; rw [sI_w, if_pos ⟨rfl, rfl⟩, insF_len, if_neg hnin]
      · have hi2 := hi
        rw [insF_len, if_neg hnin] at hi2
        have hg := insF_get hnin i
        have hv10 : sI s10 168 (2000 * d + i) = if i = cnt l v then Int32.ofInt v else sI s5 168 (2000 * d + i) := by
          subst e10; subst e7
          rw [sI_w, if_neg (by omega), sI_w]
          by_cases c : i = cnt l v
          · rw [if_pos ⟨rfl, by omega⟩, if_pos c]
          · rw [if_neg (by omega), if_neg c]
        rw [hv10]
        by_cases c1 : i < cnt l v
        · rw [if_pos c1] at hg
          rw [if_neg (by omega), ha i (by omega) (by omega)]
          congr 1
          exact (at_of hi (hg.trans (List.getElem?_eq_getElem _))).symm
        · rw [if_neg c1] at hg
          by_cases c2 : i = cnt l v
          · rw [if_pos c2] at hg ⊢
            congr 1; exact (at_of hi hg).symm
          · rw [if_neg c2] at hg ⊢
            rw [hb2 i (by omega) (by omega)]
            congr 1
            exact (at_of hi (hg.trans (List.getElem?_eq_getElem _))).symm
    | succ m ih =>
      intro j s5 hj hjl F5 n5 ha hb2
      apply hP91
      rw [nI_mul, nI_addU, nI_addU, nI_leU (by omega) (by omega), nI_p (by omega), nI_ix (n := 2000 * d + j) (by omega), nI_ix (n := 2000 * d + j - 1) (by omega)]
      refine ⟨fun hh => absurd hh (by omega), fun _ => ⟨nI_inU (by omega) (by omega), nI_inU (by omega) (by omega), ?_⟩⟩
      intro s13 e13 x14 e14
      have ex : x14 = nI (j - 1) := by
        subst e14
        rw [← nI_p (by omega)]
        rw [← Int32.toInt_inj, i_add, i_sub]; rfl
      subst ex
      have hval : sI s5 168 (2000 * d + j - 1) = Int32.ofInt (l[j - 1]'(by omega)) := by
        rw [show 2000 * d + j - 1 = 2000 * d + (j - 1) by omega]; exact ha (j - 1) (by omega) (by omega)
      rw [hval] at e13
      refine ih (j - 1) s13 (by omega) (by omega) ⟨fun a i h3 h4 => ?_, fun a i => ?_, fun a i => ?_⟩ ?_ (fun i hij hi => ?_) (fun i hij hi => ?_)
      · subst e13; rw [sI_w, if_neg (fun hh => h3 (by omega))]; exact F5.1 a i h3 h4
      · subst e13; exact F5.2.1 a i
      · subst e13; exact F5.2.2 a i
      · subst e13; rw [sI_w, if_neg (by omega)]; exact n5
      · subst e13; rw [sI_w, if_neg (by omega)]; exact ha i (by omega) hi
      · subst e13
        by_cases c : i = j
        · subst c; rw [sI_w, if_pos ⟨rfl, rfl⟩]
        · rw [sI_w, if_neg (by omega)]; exact hb2 i (by omega) hi
  -- the search
  suffices hS : ∀ (m k : Nat), k + m = cnt l v → P28 (nI k) from hS (cnt l v) 0 (by omega)
  intro m
  have hval : ∀ (k : Nat) (hk : k < l.length), (sI s 168 (2000 * d + k)).toInt64.toInt = l[k] := by
    intro k hk
    rw [hr.2 k hk, Int32.toInt_toInt64, oI_toInt (hb k hk).1 (hb k hk).2]
  induction m with
  | zero =>
    intro k hkm
    have hk0 : k = cnt l v := by omega
    apply hP28
    intro P60 hP60
    have hP : P60 := by
      apply hP60
      intro P87 hP87
      rw [nI_mul, nI_addU, nI_ix (n := 2000 * d + k) (by omega), nI_leU (by omega) (by omega)]
      have go : ¬ v ∈ l → P87 := by
        intro hn
        apply hP87
        rw [hk0]
        exact found hn
      refine ⟨fun hh => go ?_, fun hh => ⟨nI_inU (by omega) (by omega), ?_⟩⟩
      · intro hin
        obtain ⟨i, hi, e⟩ := List.getElem_of_mem hin
        have := (srt_cnt (v := v) hs i hi).mpr (by omega)
        omega
      · rw [lgc_eq0, hval k (by omega), oJ_toInt (by omega) (by omega)]
        refine ⟨fun hne => go ?_, fun he => ?_⟩
        · intro hin
          obtain ⟨i, hi, e⟩ := List.getElem_of_mem hin
          have h3 : ¬ i < cnt l v := fun hh => by have := (srt_cnt (v := v) hs i hi).mpr hh; omega
          by_cases ci : i = k
          · subst ci; exact hne e
          · have h4 : ¬ l[k]'(by omega) < v := fun hh => by have := (srt_cnt (v := v) hs k (by omega)).mp hh; omega
            have hs' := hs
            unfold srt at hs'
            rw [List.pairwise_iff_getElem] at hs'
            have := hs' k i (by omega) hi (by omega)
            omega
        · refine H s ⟨fun _ _ _ _ => rfl, fun _ _ => rfl, fun _ _ => rfl⟩ ?_
          have hin : v ∈ l := by rw [← he]; exact List.getElem_mem _
          unfold insF; rw [if_pos hin]; exact hr
    rw [nI_mul, nI_addU, nI_ix (n := 2000 * d + k) (by omega), nI_leU (by omega) (by omega)]
    refine ⟨fun _ => hP, fun hh => ⟨nI_inU (by omega) (by omega), fun _ => hP, fun hlt => ?_⟩⟩
    rw [lgc_ge0, hval k (by omega), oJ_toInt (by omega) (by omega)] at hlt
    have := (srt_cnt (v := v) hs k (by omega)).mp (by omega)
    omega
  | succ m ih =>
    intro k hkm
    have hlt := (srt_cnt (v := v) hs k (by omega)).mpr (by omega)
    apply hP28
    intro P60 hP60
    rw [nI_mul, nI_addU, nI_ix (n := 2000 * d + k) (by omega), nI_leU (by omega) (by omega), lgc_ge0, hval k (by omega), oJ_toInt (by omega) (by omega)]
    refine ⟨fun hh => absurd hh (by omega), fun hh => ⟨nI_inU (by omega) (by omega), fun h3 => by omega, fun h3 => ?_⟩⟩
    intro x17 e17; subst e17; rw [nI_s]
    exact ih (k + 1) (by omega)
end
