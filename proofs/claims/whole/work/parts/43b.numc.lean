section
variable {s : yS} {p : Nat} {D : Nat → Nat → Option Nat} {M N : Nat}
theorem rep_D {y b : Nat} (hc : ∀ k b, k < M → b < N → ∀ t, D k b = some t → t < M) (hy : y < M) (hb : b < N) : (D y b).map (rep D M N) = (D (rep D M N y) b).map (rep D M N) := by
  have hr := rep_lt (D := D) (N := N) hy
  have hbs := eqv_bis (D := D) (N := N) y _ (rep_eqv hy) b hb
  cases hd : D y b with
  | none =>
    cases hd2 : D (rep D M N y) b with
    | none => rfl
    | some t => obtain ⟨x, hx, _⟩ := hbs.2 t hd2; rw [hd] at hx; exact absurd hx (by simp)
  | some x =>
    obtain ⟨t, ht, hr2⟩ := hbs.1 x hd
    rw [ht]
    show some _ = some _
    rw [(rep_eq (hc y b hy hb x hd) (hc _ b hr hb t ht)).mpr hr2]
/-- the other one's states so far -/
def stC (s : yS) (p : Nat) (f g : Nat → Nat) (M : Nat) (L : List Nat) : Prop := (sI s p 3) = nI L.length ∧ (∀ (k : Nat) (h : k < L.length), ∃ y, y < M ∧ f y = L[k] ∧ (sI s 112) k = nI y) ∧ ∀ k, k < M → (sI s 111) (g k) = if f k ∈ L then nI (L.idxOf (f k)) else -1
def dNc (p a i : Nat) : Prop := (a = p ∧ i = 3) ∨ a = 111 ∨ a = 112 ∨ a = p + 14
def tyC (s : yS) (p : Nat) (T : Nat → Nat → Option Nat) (n N : Nat) : Prop := 1 ≤ n ∧ n ≤ 63 ∧ N ≤ 512 ∧ (sI s p 3) = nI n ∧ ∀ q a, q < n → a < N → (sI s (p + 14)) (q * 512 + a) = dv (T q a) ∧ ∀ t, T q a = some t → t < n
theorem c_stateOf {g : Nat → Nat} {L : List Nat} {t : Nat} {Q : Int32 → yS → Prop} (hm : smC s p) (hM : M ≤ 63) (hgr : grC s g M) (hg : ∀ k, k < M → g k < 63) (hge : ∀ k j, k < M → j < M → (g k = g j ↔ eqv D N k j)) (hok : okL (rep D M N) M L) (hS : stC s p (rep D M N) g M L) (ht : t < M)
    (H1 : rep D M N t ∈ L → Q (nI (L.idxOf (rep D M N t))) s)
    (H2 : ¬ rep D M N t ∈ L → ∀ s', frM (dNc p) s s' → (∀ i, (sI s' (p + 14)) i = (sI s (p + 14)) i) → stC s' p (rep D M N) g M (L ++ [rep D M N t]) → Q (nI L.length) s') : W_X7_stateOf s (nI t) Q := by
  have hp3 := hm.1
  have hgt := hg t ht
  have hlen := hok.len
  have hrt := rep_lt (D := D) (N := N) ht
  unfold W_X7_stateOf
  rw [nI_ix (n := t) (by omega), hgr t ht]
  refine ⟨nI_inU (by omega) (by omega), ?_⟩
  intro x2 e2
  subst e2
  rw [nI_ix (n := g t) (by omega), hS.2.2 t ht]
  refine ⟨nI_inU (by omega) (by omega), ?_⟩
  by_cases hin : rep D M N t ∈ L
  · rw [if_pos hin]
    have hi := List.idxOf_lt_length_of_mem hin
    exact ⟨fun _ => ⟨nI_inU (by omega) (by omega), H1 hin⟩, fun hh => absurd hh (nI_ne1 (by omega))⟩
  · rw [if_neg hin]
    have ok2 := hok.add hin hrt (rep_idem ht)
    have hl2 : (L ++ [rep D M N t]).length = L.length + 1 := by rw [List.length_append]; rfl
    have hlen2 := ok2.len
    refine ⟨fun hh => absurd rfl hh, fun _ => ⟨p, hm.2, hm.kd, nI_inU (by omega) (by omega), ?_⟩⟩
    rw [hS.1]
    intro s7 e7
    have m7 : sR s7 103 0 = p + 1 := by subst e7; exact hm.2
    have n7 : sI s7 p 3 = nI L.length := by subst e7; rw [sI_w, if_neg (by omega)]; exact hS.1
    refine ⟨p, m7, hm.kd, ?_⟩
    rw [n7, nI_ix (n := L.length) (by omega)]
    refine ⟨nI_inU (by omega) (by omega), ?_⟩
    intro s10 e10
    have m10 : sR s10 103 0 = p + 1 := by subst e10; exact m7
    have n10 : sI s10 p 3 = nI L.length := by subst e10; rw [sI_w, if_neg (by omega)]; exact n7
    refine ⟨p, m10, hm.kd, ?_⟩
    rw [n10, nI_s]
    intro s12 e12
    refine ⟨nI_inU (by omega) (by omega), ?_⟩
    have v12 : sI s12 111 (g t) = nI L.length := by subst e12; rw [sI_w, if_neg (by omega)]; subst e10; rw [sI_w, if_neg (by omega)]; subst e7; rw [sI_w, if_pos ⟨rfl, rfl⟩]
    rw [v12]
    refine H2 hin s12 ?_ (fun i => ?_) ⟨?_, fun k hk => ?_, fun k hk => ?_⟩
    · subst e12; subst e10; subst e7
      exact ((frM.rfl'.wI (by unfold dNc; omega)).wI (by unfold dNc; omega)).wI (by unfold dNc; omega)
    · subst e12; rw [sI_w, if_neg (by omega)]; subst e10; rw [sI_w, if_neg (by omega)]; subst e7; rw [sI_w, if_neg (by omega)]
    · subst e12; rw [sI_w, if_pos ⟨rfl, rfl⟩, hl2]
    · by_cases ck : k = L.length
      · subst ck
        refine ⟨t, ht, ?_, ?_⟩
        · rw [List.getElem_append_right (by omega)]; simp
        · subst e12; rw [sI_w, if_neg (by omega)]; subst e10; rw [sI_w, if_pos ⟨rfl, rfl⟩]
      · obtain ⟨y, hy, h1, h2⟩ := hS.2.1 k (by omega)
        refine ⟨y, hy, ?_, ?_⟩
        · rw [List.getElem_append_left (by omega)]; exact h1
        · subst e12; rw [sI_w, if_neg (by omega)]; subst e10; rw [sI_w, if_neg (by omega)]; subst e7; rw [sI_w, if_neg (by omega)]; exact h2
    · by_cases ck : g k = g t
      · have he : rep D M N k = rep D M N t := (rep_eq hk ht).mpr ((hge k t hk ht).mp ck)
        rw [ck, he, v12, if_pos (by simp), List.idxOf_append, if_neg hin]; simp
      · have hne : rep D M N k ≠ rep D M N t := fun e => ck ((hge k t hk ht).mpr ((rep_eq hk ht).mp e))
        subst e12; rw [sI_w, if_neg (by omega)]; subst e10; rw [sI_w, if_neg (by omega)]; subst e7; rw [sI_w, if_neg (by omega), hS.2.2 k hk]
        by_cases hc : rep D M N k ∈ L
        · rw [if_pos hc, if_pos (by simp [hc]), List.idxOf_append, if_pos hc]
        · rw [if_neg hc, if_neg (by simp [hc, hne])]
/-- ways written so far -/
def wrL (s : yS) (p : Nat) (D : Nat → Nat → Option Nat) (f : Nat → Nat) (N : Nat) (L : List Nat) (k a : Nat) : Prop := ∀ (j : Nat) (hj : j < L.length) (b : Nat), b < N → (j < k ∨ j = k ∧ b < a) → (∀ t, D L[j] b = some t → f t ∈ L) ∧ (sI s (p + 14)) (j * 512 + b) = dv ((D L[j] b).map (fun t => L.idxOf (f t)))
theorem c_numberStates {g : Nat → Nat} {Q : yS → Prop} (hm : smC s p) (h : dwC s p D M N) (hgr : grC s g M) (hg : ∀ k, k < M → g k < 63) (hge : ∀ k j, k < M → j < M → (g k = g j ↔ eqv D N k j))
    (H : ∀ s', frM (dNc p) s s' → tyC s' p (stT D M N) (stL D M N).length N → Q s') : W_X7_numberStates s Q := by
  obtain ⟨h0, hM, hN, h1, h2, h3⟩ := h
  have h : dwC s p D M N := ⟨h0, hM, hN, h1, h2, h3⟩
  have hp3 := hm.1
  have hcl : ∀ k b, k < M → b < N → ∀ t, D k b = some t → t < M := fun k b hk hb => (h3 k b hk hb).2
  have hg0 := hg 0 (by omega)
  unfold W_X7_numberStates
  refine c_fill (by omega) ?_
  intro s1 F1 v1
  have g1 : sI s1 108 (ix 0) = nI (g 0) := by
    rw [F1.1 _ _ (by omega)]; exact hgr 0 (by omega)
  rw [g1, nI_ix (n := g 0) (by omega)]
  refine ⟨nI_inU (a := 0) (by omega) (by omega), nI_inU (by omega) (by omega), ?_⟩
  intro s4 e4
  refine ⟨nI_inU (a := 0) (by omega) (by omega), ?_⟩
  intro s6 e6
  have m6 : sR s6 103 0 = p + 1 := by subst e6; subst e4; exact (F1.2.2 _ _).trans hm.2
  refine ⟨p, m6, hm.kd, ?_⟩
  intro s8 e8 P37 hP37
  have F8 : frM (dNc p) s s8 := by
    subst e8; subst e6; subst e4
    exact (((F1.mono (fun a i h => by unfold dNc; omega)).wI (by unfold dNc; omega)).wI (by unfold dNc; omega)).wI (by unfold dNc; omega)
  have S8 : stC s8 p (rep D M N) g M [0] := by
    refine ⟨by subst e8; rw [sI_w, if_pos ⟨rfl, rfl⟩]; rfl, fun k hk => ?_, fun k hk => ?_⟩
    · have : k = 0 := by simp at hk; exact hk
      subst this
      exact ⟨0, by omega, rep_zero h0, by subst e8; rw [sI_w, if_neg (by omega)]; subst e6; rw [sI_w, if_pos ⟨rfl, rfl⟩]; rfl⟩
    · have hgk := hg k hk
      by_cases ck : g k = g 0
      · have he : rep D M N k = 0 := by rw [(rep_eq hk (by omega)).mpr ((hge k 0 hk (by omega)).mp ck)]; exact rep_zero h0
        rw [he, if_pos (by simp), ck]
        subst e8; rw [sI_w, if_neg (by omega)]; subst e6; rw [sI_w, if_neg (by omega)]; subst e4; rw [sI_w, if_pos ⟨rfl, rfl⟩]; simp; rfl
      · have he : rep D M N k ≠ 0 := fun e => ck ((hge k 0 hk (by omega)).mpr ((rep_eq hk (by omega)).mp (e.trans (rep_zero h0).symm)))
        rw [if_neg (by simp; exact he)]
        subst e8; rw [sI_w, if_neg (by omega)]; subst e6; rw [sI_w, if_neg (by omega)]; subst e4; rw [sI_w, if_neg (by omega)]; exact v1 _ hgk
  clear e8 e6 e4
  have hst : stL D M N = nbfs D (rep D M N) N 64 0 [0] := rfl
  generalize hR : stL D M N = R at hst
  suffices hLp : ∀ (f k : Nat) (L : List Nat) (s10 : yS), f + k = 64 → k ≤ L.length → 1 ≤ L.length → okL (rep D M N) M L → frM (dNc p) s s10 → stC s10 p (rep D M N) g M L → wrL s10 p D (rep D M N) N L k 0 → R = nbfs D (rep D M N) N f k L → P37 (nI k) s10 from
    hLp 64 0 [0] s8 (by omega) (by simp) (by simp) ⟨by simp, fun x hx => by simp at hx; subst hx; exact ⟨by omega, rep_zero h0⟩, rfl⟩ F8 S8 (fun j hj b hb hh => by omega) hst
  intro f
  induction f with
  | zero => intro k L s9 hf hk hl1 ok9; have := ok9.len; omega
  | succ f ih =>
    intro k L s10 hf hk hl1 ok10 F10 S10 w10 hRe
    have hlen := ok10.len
    have m10 : sR s10 103 0 = p + 1 := (F10.2.2 _ _).trans hm.2
    rw [nbfs] at hRe
    apply hP37
    refine ⟨p, m10, hm.kd, ?_⟩
    rw [S10.1, nI_leU (by omega) (by omega), nI_leU (by omega) (by omega)]
    refine ⟨fun hle => ?_, fun hlt => ⟨fun hh => by omega, fun _ => ?_⟩⟩
    · rw [if_neg (by omega)] at hRe
      subst hRe
      refine H s10 F10 ?_
      rw [hR]
      refine ⟨hl1, by omega, hN, S10.1, fun q a hq ha => ?_⟩
      have := w10 q hq a ha (by omega)
      unfold stT
      rw [hR, getD_at hq]
      refine ⟨this.2, fun t ht => ?_⟩
      cases hd : D R[q] a with
      | none => rw [hd] at ht; exact absurd ht (by simp)
      | some x =>
        rw [hd] at ht
        have ht : R.idxOf (rep D M N x) = t := by simpa using ht
        rw [← ht]; exact List.idxOf_lt_length_of_mem (this.1 x hd)
    · have hkl : k < L.length := by omega
      rw [if_pos hkl, getD_at hkl] at hRe
      have hxM := (ok10.2.1 L[k] (List.getElem_mem hkl)).1
      intro P56 hP56
      suffices hA : ∀ (r a : Nat) (L1 : List Nat) (s13 : yS), a + r = N → L.length ≤ L1.length → (∃ (h : k < L1.length), L1[k] = L[k]) → okL (rep D M N) M L1 → frM (dNc p) s s13 → stC s13 p (rep D M N) g M L1 → wrL s13 p D (rep D M N) N L1 k a → R = nbfs D (rep D M N) N f (k + 1) (nrow D (rep D M N) L[k] r a L1) → P56 (nI a) s13 from
        hA N 0 L s10 (by omega) (by omega) ⟨hkl, rfl⟩ ok10 F10 S10 w10 hRe
      generalize hx : L[k] = x at hRe hxM ⊢
      intro r
      induction r with
      | zero =>
        intro a L1 s13 ha' hle hkx ok F13 S13 c13 hRa
        obtain ⟨hk1, hkx⟩ := hkx
        apply hP56
        rw [F13.1 103 1 (by unfold dNc; omega), h2, nI_leU (by omega) (by omega)]
        refine ⟨fun _ => ?_, fun hh => absurd (by omega) hh⟩
        intro x14 e14; subst e14; rw [nI_s]
        exact ih (k + 1) L1 s13 (by omega) (by omega) (by omega) ok F13 S13 (fun j hj b hb hh => c13 j hj b hb (by omega)) hRa
      | succ r ihr =>
        intro a L1 s13 ha' hle hkx ok F13 S13 c13 hRa
        obtain ⟨hk1, hkx⟩ := hkx
        have hlen1 := ok.len
        have m13 : smC s13 p := ⟨hp3, (F13.2.2 _ _).trans hm.2⟩
        have g13 : grC s13 g M := fun k hk => by rw [F13.1 _ _ (by unfold dNc; omega)]; exact hgr k hk
        obtain ⟨y, hy, hyx, hyv⟩ := S13.2.1 k hk1
        rw [hkx] at hyx
        have hw := h3 y a hy (by omega)
        have hmap := rep_D hcl hy (b := a) (by omega)
        rw [hyx] at hmap
        rw [nrow] at hRa
        apply hP56
        rw [F13.1 103 1 (by unfold dNc; omega), h2, nI_leU (by omega) (by omega)]
        refine ⟨fun hh => absurd hh (by omega), fun _ => ⟨nI_inU (by omega) (by omega), ?_⟩⟩
        rw [nI_ix (n := k) (by omega), hyv, nI_mul, nI_addU, nI_ix (n := y * 512 + a) (by omega), F13.1 107 _ (by unfold dNc; omega), hw.1]
        refine ⟨nI_inU (by omega) (by omega), ?_⟩
        intro x17 e17
        subst e17
        refine ⟨p, m13.2, hm.kd, ?_⟩
        intro P110 hP110
        have go : ∀ (L2 : List Nat) (s20 : yS) (z : Int32), L1.length ≤ L2.length → (∃ (h : k < L2.length), L2[k] = x) → okL (rep D M N) M L2 → frM (dNc p) s s20 → stC s20 p (rep D M N) g M L2 → wrL s20 p D (rep D M N) N L2 k a → (∀ t, D x a = some t → rep D M N t ∈ L2) → z = dv ((D x a).map (fun t => L2.idxOf (rep D M N t))) → R = nbfs D (rep D M N) N f (k + 1) (nrow D (rep D M N) x r (a + 1) L2) → P110 z s20 := by
          intro L2 s20 z hle2 hkx2 ok2 F20 S20 c20 hn2 hz hR2
          have hlen2 := ok2.len
          apply hP110
          rw [nI_mul, nI_addU, nI_ix (n := k * 512 + a) (by omega)]
          refine ⟨nI_inU (by omega) (by omega), ?_⟩
          intro s22 e22 x23 e23
          subst e23; rw [nI_s]
          refine ihr (a + 1) L2 s22 (by omega) (by omega) hkx2 ok2 (by subst e22; exact F20.wI (by unfold dNc; omega)) ⟨by subst e22; rw [sI_w, if_neg (by omega)]; exact S20.1, fun j hj => ?_, fun j hj => by subst e22; rw [sI_w, if_neg (by omega)]; exact S20.2.2 j hj⟩ (fun j hj b hb hh => ?_) hR2
          · obtain ⟨y, h1, h2, h3⟩ := S20.2.1 j hj
            exact ⟨y, h1, h2, by subst e22; rw [sI_w, if_neg (by omega)]; exact h3⟩
          · by_cases cn : j = k ∧ b = a
            · obtain ⟨rfl, rfl⟩ := cn
              obtain ⟨_, hkx2⟩ := hkx2
              rw [hkx2]
              exact ⟨hn2, by subst e22; rw [sI_w, if_pos ⟨rfl, rfl⟩]; exact hz⟩
            · have := c20 j hj b hb (by omega)
              exact ⟨this.1, by subst e22; rw [sI_w, if_neg (by omega)]; exact this.2⟩
        cases hd : D y a with
        | none =>
          have hdx : D x a = none := by
            rw [hd] at hmap
            cases hdx : D x a with
            | none => rfl
            | some t => rw [hdx] at hmap; exact absurd hmap (by simp)
          rw [hdx] at hRa
          refine ⟨fun hh => absurd rfl hh, fun _ => ?_⟩
          exact go L1 s13 _ (by omega) ⟨hk1, hkx⟩ ok F13 S13 c13 (fun t ht => by rw [hdx] at ht; exact absurd ht (by simp)) (by rw [hdx]; rfl) hRa
        | some t =>
          have ht := hw.2 t hd
          have hrt := rep_lt (D := D) (N := N) ht
          obtain ⟨u, hdx, hur⟩ : ∃ u, D x a = some u ∧ rep D M N u = rep D M N t := by
            rw [hd] at hmap
            cases hdx : D x a with
            | none => rw [hdx] at hmap; exact absurd hmap (by simp)
            | some u => rw [hdx] at hmap; exact ⟨u, rfl, by simpa using hmap.symm⟩
          rw [hdx] at hRa
          refine ⟨fun _ => ?_, fun hh => absurd hh (nI_ne1 (n := t) (by omega))⟩
          refine c_stateOf m13 hM g13 hg hge ok S13 ht (fun hin => ?_) (fun hin s25 F25 t25 S25 => ?_)
          · have e : addL (rep D M N) (some u) L1 = L1 := by unfold addL; rw [← hur] at hin; exact if_pos hin
            rw [e] at hRa
            exact go L1 s13 _ (by omega) ⟨hk1, hkx⟩ ok F13 S13 c13 (fun t' ht' => by rw [hdx] at ht'; cases ht'; rw [hur]; exact hin) (by rw [hdx, ← hur]; rfl) hRa
          · have e : addL (rep D M N) (some u) L1 = L1 ++ [rep D M N t] := by unfold addL; rw [← hur] at hin ⊢; exact if_neg hin
            rw [e] at hRa
            have ok2 := ok.add hin hrt (rep_idem ht)
            have hl2 : (L1 ++ [rep D M N t]).length = L1.length + 1 := by rw [List.length_append]; rfl
            refine go (L1 ++ [rep D M N t]) s25 _ (by omega) ⟨by omega, by rw [List.getElem_append_left hk1]; exact hkx⟩ ok2 (F13.trans F25) S25 (fun j hj b hb hh => ?_) (fun t' ht' => by rw [hdx] at ht'; cases ht'; rw [hur]; simp) ?_ hRa
            · have hj1 : j < L1.length := by omega
              rw [List.getElem_append_left hj1, t25]
              have := c13 j hj1 b hb hh
              refine ⟨fun t' ht' => by simp [this.1 t' ht'], ?_⟩
              rw [this.2]
              cases hdj : D L1[j] b with
              | none => rfl
              | some t' =>
                show nI (L1.idxOf (rep D M N t')) = nI ((L1 ++ [rep D M N t]).idxOf (rep D M N t'))
                rw [List.idxOf_append, if_pos (this.1 t' hdj)]
            · rw [hdx]
              show nI _ = nI ((L1 ++ [rep D M N t]).idxOf (rep D M N u))
              rw [hur, List.idxOf_append, if_neg hin]; simp
end
