section
variable {s : yS}
def inF (g b e : Nat) (s s' : yS) : Prop := (∀ a i, ¬ (a = g + 1 ∧ b ≤ i ∧ i ≤ e) → sI s' a i = sI s a i) ∧ (∀ a i, sJ s' a i = sJ s a i) ∧ ∀ a i, sR s' a i = sR s a i
theorem c_insert {g b : Nat} {l : List Int} {lo hi v : Int} {Q : Int32 → yS → Prop} (hr : arow (sI s (g + 1)) b l) (ho : okR lo hi l) (hl : b + l.length < 1168) (h1 : -2147483648 ≤ lo) (h2 : hi ≤ 2147483647) (hv1 : -2147483648 ≤ v) (hv2 : v ≤ hi)
    (H : ∀ s', inF g b (b + l.length) s s' → arow (sI s' (g + 1)) b (stp lo hi l v) → Q (nI (b + (stp lo hi l v).length)) s') : W_X1_insert s g (nI b) (nI (b + l.length)) (Int64.ofInt v) Q := by
  have hb : ∀ (i : Nat) (h : i < l.length), -2147483648 ≤ l[i] ∧ l[i] ≤ 2147483647 := fun i h => by have := ho.2.2 _ (List.getElem_mem h); omega
  have hk := cnt_le l v
  have hs := ho.1
  have hs' := hs
  unfold srt at hs'
  rw [List.pairwise_iff_getElem] at hs'
  have hval : ∀ (k : Nat) (hk : k < l.length), (sI s (g + 1) (b + k)).toInt64.toInt = l[k] := by
    intro k hk
    rw [hr k hk, Int32.toInt_toInt64, oI_toInt (hb k hk).1 (hb k hk).2]
  have same : stp lo hi l v = l → Q (nI (b + l.length)) s := by
    intro e
    rw [e] at H
    exact H s ⟨fun _ _ _ => rfl, fun _ _ => rfl, fun _ _ => rfl⟩ hr
  have hhead : ∃ hpos : 0 < l.length, l[0] = lo := by
    obtain ⟨r, e⟩ := ho.2.1
    subst e; exact ⟨by simp, rfl⟩
  obtain ⟨hpos, hlo0⟩ := hhead
  unfold W_X1_insert
  intro P3 hP3
  -- k: all from k on are above v
  suffices hL : ∀ (m k : Nat), m = k → k ≤ l.length → (∀ (i : Nat) (hi : i < l.length), k ≤ i → v < l[i]) → P3 (nI (b + k)) from hL l.length l.length rfl (by omega) (fun i hi h => by omega)
  intro m
  induction m with
  | zero =>
    intro k hm hkl hab
    have hk0 : k = 0 := by omega
    subst hk0
    have hsame : stp lo hi l v = l := by
      unfold stp; rw [if_pos]; left
      have := hab 0 hpos (by omega); omega
    apply hP3
    intro P30 hP30
    have hP : P30 := by
      apply hP30
      refine ⟨fun _ => same hsame, fun hh => absurd (by congr 1) hh⟩
    refine ⟨fun _ => hP, fun hh => absurd ?_ hh⟩
    rw [nI_leU (by omega) (by omega)]; omega
  | succ m ih =>
    intro k hm hkl hab
    apply hP3
    intro P30 hP30
    rw [nI_p (by omega), nI_leU (by omega) (by omega), show b + k - 1 = b + (k - 1) by omega, nI_ix (n := b + (k - 1)) (by omega)]
    refine ⟨fun hh => by omega, fun _ => ⟨nI_inU (by omega) (by omega), ?_⟩⟩
    rw [lgc_le0, hval (k - 1) (by omega), oJ_toInt (by omega) (by omega)]
    refine ⟨fun hle => hP30 ?_, fun hgt => ?_⟩
    · rw [nI_p (by omega), show b + k - 1 = b + (k - 1) by omega, nI_ix (n := b + (k - 1)) (by omega), lgc_eq0, hval (k - 1) (by omega), oJ_toInt (by omega) (by omega)]
      have hlov : lo ≤ v := by
        have : l[0] ≤ l[k - 1]'(by omega) := by
          by_cases c : k - 1 = 0
          · simp only [c]; omega
          · have := hs' 0 (k - 1) hpos (by omega) (by omega); omega
        omega
      refine ⟨fun hh => by rw [nI_inj (by omega) (by omega)] at hh; omega, fun _ => ⟨nI_inU (by omega) (by omega), fun hne => ?_, fun he => same ?_⟩⟩
      · -- a new one
        have hnin : ¬ v ∈ l := by
          intro hin
          obtain ⟨i, hi, e⟩ := List.getElem_of_mem hin
          by_cases c : k ≤ i
          · have := hab i hi c; omega
          · by_cases c2 : i = k - 1
            · subst c2; exact hne e
            · have := hs' i (k - 1) hi (by omega) (by omega); omega
        have hlt : lo < v := by
          by_cases c : lo = v
          · exfalso; apply hnin; rw [← c, ← hlo0]; exact List.getElem_mem _
          · omega
        have hck : cnt l v = k := by
          have a1 : ∀ (i : Nat) (hi : i < l.length), (i < k ↔ i < cnt l v) := by
            intro i hi
            rw [← srt_cnt hs i hi]
            constructor
            · intro hik
              by_cases c2 : i = k - 1
              · subst c2; omega
              · have := hs' i (k - 1) hi (by omega) (by omega); omega
            · intro hh
              by_cases c : k ≤ i
              · have := hab i hi c; omega
              · omega
          by_cases c : k < cnt l v
          · have := (a1 k (by omega)).mpr c; omega
          · by_cases c3 : cnt l v < k
            · have := (a1 (cnt l v) (by omega)).mp c3; omega
            · omega
        have hst : stp lo hi l v = insF l v := by unfold stp; rw [if_neg (by omega)]
        rw [hst] at H
        have hsub : nI (b + l.length) - nI (b + k) = nI (l.length - k) := by rw [nI_sub (by omega)]; congr 1; omega
        rw [hsub, nI_s, nI_ix (n := b + k) (by omega), nI_ix (n := b + k + 1) (by omega), nI_ix (n := l.length - k) (by omega)]
        refine ⟨⟨nI_nneg (by omega), nI_nneg (by omega), nI_nneg (by omega), by omega, by omega⟩, ?_⟩
        intro s3 e3
        refine ⟨nI_inU (by omega) (by omega), ?_⟩
        intro s6 e6
        rw [oI32 (by omega) (by omega)] at e6
        rw [nI_s]
        have hlen : (insF l v).length = l.length + 1 := by rw [insF_len, if_neg hnin]
        have hv6 : ∀ i, sI s6 (g + 1) (b + i) = if i = k then Int32.ofInt v else if k < i ∧ i ≤ l.length then sI s (g + 1) (b + (i - 1)) else sI s (g + 1) (b + i) := by
          intro i
          subst e6; subst e3
          rw [sI_w, sI_wC_eq, if_pos rfl]
          by_cases c : i = k
          · rw [if_pos ⟨rfl, by omega⟩, if_pos c]
          · rw [if_neg (by omega), if_neg c]
            unfold va_cpy
            by_cases c2 : k < i ∧ i ≤ l.length
            · rw [if_pos (by omega), if_pos c2]; congr 1; omega
            · rw [if_neg (by omega), if_neg c2]
        have hgo := H s6 ⟨fun a i h3 => ?_, fun a i => ?_, fun a i => ?_⟩ (fun i hi => ?_)
        · rw [hlen] at hgo; exact hgo
        · subst e6; subst e3
          rw [sI_w]
          by_cases ca : a = g + 1
          · subst ca
            rw [if_neg (fun hh => h3 (by omega)), sI_wC_eq, if_pos rfl]
            unfold va_cpy; rw [if_neg (fun hh => h3 (by omega))]
          · rw [if_neg (by omega), sI_wC_eq, if_neg ca]
        · subst e6; subst e3; rfl
        · subst e6; subst e3; rfl
        · have hi2 := hi
          rw [hlen] at hi2
          have hg := insF_get hnin i
          rw [hck] at hg
          rw [hv6]
          by_cases c : i = k
          · subst c
            rw [if_neg (by omega), if_pos rfl] at hg
            rw [if_pos rfl]; congr 1; exact (at_of hi hg).symm
          · rw [if_neg c]
            by_cases c2 : k < i
            · rw [if_neg (by omega), if_neg c] at hg
              rw [if_pos ⟨c2, by omega⟩, hr (i - 1) (by omega)]
              congr 1
              exact (at_of hi (hg.trans (List.getElem?_eq_getElem _))).symm
            · rw [if_pos (by omega)] at hg
              rw [if_neg (by omega), hr i (by omega)]
              congr 1
              exact (at_of hi (hg.trans (List.getElem?_eq_getElem _))).symm
      · unfold stp
        by_cases c : v ≤ lo
        · rw [if_pos (Or.inl c)]
        · rw [if_neg (by omega)]; unfold insF; rw [if_pos]; rw [← he]; exact List.getElem_mem _
    · intro x8 e8
      have ex : x8 = nI (b + (k - 1)) := by
        subst e8
        rw [show b + (k - 1) = b + k - 1 by omega, ← nI_p (by omega)]
        rw [← Int32.toInt_inj, i_add, i_sub]; rfl
      subst ex
      refine ih (k - 1) (by omega) (by omega) (fun i hi hki => ?_)
      by_cases c : i = k - 1
      · subst c; omega
      · exact hab i hi (by omega)
end
