section
variable {ps : PS} {c : Nat} {v : Nat → Int32}
theorem wGo_eq (hwf : wfI ps) (hl : lenP ps) (hres : resOK ps) (hv : inD ps v) {i : Nat} (hi : i < (pW ps).length) : wGo ps c v (pW ps)[i] = wGo ps c (lowV ps c (lix ps c v 9)) (pW ps)[i] := by
  unfold wGo
  by_cases hm : wCl (pW ps)[i] = -1 ∨ wCl (pW ps)[i] = (c : Int)
  · congr 1
    unfold qHold
    rw [Bool.eq_iff_iff, List.all_eq_true, List.all_eq_true]
    have key : ∀ g, g ∈ List.range' (wF (pW ps)[i]) (wM (pW ps)[i]) → gHold ps c v ((pG ps).getD g gdD) = gHold ps c (lowV ps c (lix ps c v 9)) ((pG ps).getD g gdD) := by
      intro g hg
      have hg' := List.mem_range'_1.mp hg
      have hrng := (wfI_rng hwf).2 _ (List.getElem_mem hi)
      have hgl : g < (pG ps).length := by omega
      rw [getD_at hgl]
      have hok := hwf.2.2.2.2.1 _ (List.getElem_mem hgl)
      obtain ⟨o1, o2, o3, o4, o5⟩ := hok
      have hlk := mem_lkW hi hg'.1 hg'.2
      have hC6 := hl.1
      have hsb : (gC (pG ps)[g] = true ∧ sbj ps (pG ps)[g] = 3 + ((pC ps).map Prod.fst).idxOf (gN' (pG ps)[g]) ∧ ((pC ps).map Prod.fst).idxOf (gN' (pG ps)[g]) < (pC ps).length) ∨ (sbj ps (pG ps)[g] = gW (pG ps)[g] ∧ gW (pG ps)[g] ≤ 2) := by
        unfold sbj
        by_cases hc : gC (pG ps)[g] = true
        · left; rw [if_pos hc]; exact ⟨hc, rfl, res_idx hres hgl hlk hc⟩
        · right; rw [if_neg hc]; exact ⟨rfl, o1 (by simpa using hc)⟩
      refine gHold_eq hwf hv ⟨o4, o5⟩ o3 (by omega) (fun ht => ?_) (fun x hx => ?_)
      · unfold real
        rcases hsb with ⟨_, e, hlt⟩ | ⟨e, hlt⟩
        · rw [if_neg (by omega)]; exact decide_eq_true (by omega)
        · rw [if_pos (by omega)]; exact decide_eq_true (by omega)
      · unfold cutA
        rw [List.mem_flatMap]
        refine ⟨_, List.getElem_mem hi, ?_⟩
        unfold cutW
        rw [if_pos hm, List.mem_flatMap]
        exact ⟨g, hg, by rw [getD_at hgl]; exact hx⟩
    exact ⟨fun h g hg => (key g hg) ▸ h g hg, fun h g hg => (key g hg).symm ▸ h g hg⟩
  · rw [decide_eq_false hm, Bool.false_and, Bool.false_and]
theorem foldl_eq {α β : Type} {f g : β → α → β} : ∀ (l : List α) (b : β), (∀ a ∈ l, ∀ b, f b a = g b a) → l.foldl f b = l.foldl g b
  | [], _, _ => rfl
  | a :: l, b, h => by
    rw [List.foldl_cons, List.foldl_cons, h a (by simp) b]
    exact foldl_eq l _ (fun x hx => h x (by simp [hx]))
theorem stepP_lix (hwf : wfI ps) (hl : lenP ps) (hres : resOK ps) (hv : inD ps v) (x : Int32) : stepP ps c v x = stepP ps c (lowV ps c (lix ps c v 9)) x := by
  unfold stepP
  apply foldl_eq
  intro w hw y
  obtain ⟨i, hi, e⟩ := List.getElem_of_mem hw
  unfold stepF
  rw [← e, wGo_eq hwf hl hres hv hi]
theorem stepP_tr (hwf : wfI ps) (hl : lenP ps) (hres : resOK ps) (hv : inD ps v) (hc : c < 16) (x : Int32) : stepP ps c v x = trA ps (offs ps c + lix ps c v 9) x := by
  rw [trA_eq hc (lix_lt ps c v 9)]; exact stepP_lix hwf hl hres hv x
theorem lix_offs (hc : c < 16) : offs ps c + lix ps c v 9 < offs ps 16 := by
  have h1 := lix_lt ps c v 9
  have h2 : offs ps (c + 1) = offs ps c + nLet ps c := rfl
  have h3 : offs ps (c + 1) ≤ offs ps 16 := offs_mono ps (by omega)
  unfold nLet at h2; omega
end
section
variable {s : yS} {p : Nat}
theorem c_interval {l : List Int} {b : Nat} {x : Int32} {Q : Int32 → Prop} (hs : srt l) (hr : ∀ y ∈ l, -2147483648 ≤ y ∧ y ≤ 2147483647) (ha : arow (sI s (p + 11)) b l) (hb : b + l.length ≤ 1168) (h1 : 1 ≤ l.length) (H : Q (nI (pos l x.toInt))) : W_X1_interval s (p + 10) (nI b) (nI l.length) x Q := by
  unfold W_X1_interval
  intro P8 hP8 x6 e6
  subst e6
  rw [nI_p h1]
  have hcl := cnt_le l (x.toInt + 1)
  suffices hL : ∀ (r lo hi : Nat), hi - lo ≤ r → lo ≤ pos l x.toInt → pos l x.toInt ≤ hi → hi < l.length → P8 (nI lo) (nI hi) from hL l.length 0 (l.length - 1) (by omega) (by omega) (by unfold pos; omega) (by omega)
  intro r
  induction r with
  | zero =>
    intro lo hi h0 hlo hhi hlt
    apply hP8
    rw [nI_leU (by omega) (by omega)]
    refine ⟨fun _ => by rw [show lo = pos l x.toInt by omega]; exact H, fun hh => absurd (by omega) hh⟩
  | succ r ih =>
    intro lo hi h0 hlo hhi hlt
    apply hP8
    rw [nI_leU (by omega) (by omega)]
    refine ⟨fun _ => by rw [show lo = pos l x.toInt by omega]; exact H, fun hh => ?_⟩
    rw [nI_addU, nI_s, nI_div (by omega) (by omega)]
    intro x3 e3
    subst e3
    generalize hm : (lo + hi + 1) / 2 = mid
    have hml : mid < l.length := by omega
    rw [nI_addU, nI_ix (n := b + mid) (by omega), show p + 10 + 1 = p + 11 by omega, ha mid hml]
    have hrm := hr _ (List.getElem_mem hml)
    have hsc := srt_cnt hs (v := x.toInt + 1) mid hml
    rw [i_ltI, oI_toInt hrm.1 hrm.2]
    refine ⟨nI_inU (by omega) (by omega), fun hlt2 => ?_, fun hge => ?_⟩
    · intro x5 e5; subst e5
      rw [nI_p (by omega)]
      exact ih lo (mid - 1) (by omega) hlo (by unfold pos; omega) (by omega)
    · exact ih mid hi (by omega) (by unfold pos; omega) hhi hlt
theorem c_find {ps : PS} {c a : Nat} {v : Nat → Int32} {Q : Int32 → Prop} (hwf : wfI ps) (hres : resOK ps) (hlt : ltF s p ps) (hv : vCl s a v) (hc : c < 16) (H : Q (nI (offs ps c + lix ps c v 9))) : W_X1_find s (p + 10) (nI c) a 9 Q := by
  have ho := hlt.1
  unfold W_X1_find
  intro P5 hP5
  suffices hL : ∀ (r k : Nat), k + r = 9 → P5 (nI (lix ps c v k)) (nI k) from hL 9 0 (by omega)
  have hlo := lix_offs (ps := ps) (v := v) hc
  have hpr : ∀ k, k ≤ 9 → lix ps c v k < 512 := by
    intro k hk
    have h1 := lix_lt ps c v k
    have h2 := prD_mono ps c (j := k) (k := 9) hk
    have h3 : offs ps (c + 1) ≤ offs ps 16 := offs_mono ps (by omega)
    have h4 : offs ps (c + 1) = offs ps c + prD ps c 9 := rfl
    omega
  intro r
  induction r with
  | zero =>
    intro k hk
    have hk9 : k = 9 := by omega
    subst hk9
    have := hpr 9 (by omega)
    apply hP5
    rw [nI_leU (by omega) (by omega)]
    refine ⟨fun _ => ⟨nI_inU (by omega) (by omega), ?_⟩, fun hh => absurd (by omega) hh⟩
    rw [nI_ix (n := c) (by omega), show p + 10 + 3 = p + 13 by omega, hlt.2.1.1 c (by omega), nI_addU]
    exact H
  | succ r ih =>
    intro k hk
    have h1 := hpr k (by omega)
    have h2 := hpr (k + 1) (by omega)
    have hr0 := ltF.row hlt hc (k := k) (by omega)
    have hr1 := ltF.row hlt hc (k := k + 1) (by omega)
    have hsum : sumL ps c (k + 1) = sumL ps c k + ln ps c k := rfl
    have hbn := rb_bnd ps hc (k := k + 1) (by omega) ho
    have hln := ln_pos ps c k
    have hstep : lix ps c v (k + 1) = lix ps c v k * ln ps c k + dig ps c v k := rfl
    have hdl := dig_lt ps c v k
    apply hP5
    rw [nI_leU (by omega) (by omega), nI_mul, nI_addU (c * 9) k, nI_s, nI_ix (n := c * 9 + k) (by omega), nI_ix (n := c * 9 + k + 1) (by omega), nI_ix (n := k) (by omega), show p + 10 + 2 = p + 12 by omega, hr0, show c * 9 + k + 1 = c * 9 + (k + 1) by omega, hr1]
    refine ⟨fun hh => absurd hh (by omega), fun _ => ⟨nI_inU (by omega) (by omega), ?_⟩⟩
    intro x5 e5
    subst e5
    refine ⟨nI_inU (by omega) (by omega), ?_⟩
    rw [nI_sub (by omega), show rbC ps c + sumL ps c (k + 1) - (rbC ps c + sumL ps c k) = ln ps c k by omega]
    intro x7 e7
    subst e7
    intro P71 hP71
    have go : ∀ y, y = dig ps c v k → P71 (nI y) := by
      intro y hy
      apply hP71
      intro x9 e9 x10 e10
      subst e10
      rw [nI_mul, nI_addU, hy, ← hstep] at e9
      subst e9
      rw [nI_s]
      exact ih (k + 1) (by omega)
    have one1 : nI (ln ps c k) = 1 ↔ ln ps c k = 1 := by
      rw [show (1 : Int32) = nI 1 from rfl, nI_inj (by omega) (by omega)]
    rw [one1]
    have hrow := (hlt.2.1.2 c k (by omega) (by omega)).2
    refine ⟨fun hne => ⟨nI_inU (by omega) (by omega), ?_⟩, fun he => go 0 (by omega)⟩
    have hreal : real ps c k = true := by
      cases hr : real ps c k with
      | true => rfl
      | false =>
        exfalso; apply hne
        unfold ln; rw [dimL_not hwf hres hr]; rfl
    have hrc : rowC ps c k = dimL ps c k := by unfold rowC; rw [if_pos hreal]
    rw [hrc] at hrow
    rw [hv k (by omega)]
    refine c_interval (l := dimL ps c k) (dimF_ok ps k (cutA ps c)).1 (dim_rng ps hwf c k) hrow (by show _ + ln ps c k ≤ _; omega) hln (go _ ?_)
    unfold dig; rw [if_pos hreal]
end
