section
variable {s : yS}
theorem c_fill {a n : Nat} {v : Int32} {Q : yS → Prop} (hn : n < 1000000) (H : ∀ s', frM (fun b _ => b = a) s s' → (∀ k, k < n → sI s' a k = v) → Q s') : W_J7_fill_53178 s a n v Q := by
  unfold W_J7_fill_53178
  intro P5 hP5 x7 e7
  subst e7
  suffices hL : ∀ (r k : Nat) (s3 : yS), k + r = n → frM (fun b _ => b = a) s s3 → (∀ j, j < k → sI s3 a j = v) → P5 (nI k) (nI n) s3 from hL n 0 s (by omega) frM.rfl' (fun j hj => by omega)
  intro r
  induction r with
  | zero =>
    intro k s3 hk F3 v3
    apply hP5
    rw [nI_leU (by omega) (by omega)]
    exact ⟨fun _ => H s3 F3 (fun j hj => v3 j (by omega)), fun hh => absurd (by omega) hh⟩
  | succ r ih =>
    intro k s3 hk F3 v3
    apply hP5
    rw [nI_leU (by omega) (by omega), nI_ix (n := k) (by omega)]
    refine ⟨fun hh => absurd hh (by omega), fun _ => ⟨nI_inU (by omega) (by omega), ?_⟩⟩
    intro s5 e5 x6 e6
    subst e6; rw [nI_s]
    refine ih (k + 1) s5 (by omega) (by subst e5; exact F3.wI rfl) (fun j hj => ?_)
    subst e5
    by_cases c : j = k
    · subst c; rw [sI_w, if_pos ⟨rfl, rfl⟩]
    · rw [sI_w, if_neg (by omega)]; exact v3 j (by omega)
theorem c_fillJ {a n : Nat} {v : Int64} {Q : yS → Prop} (hn : n < 1000000) (H : ∀ s', frM (fun b _ => b = a) s s' → (∀ b, sI s' b = sI s b) → (∀ k, k < n → sJ s' a k = v) → Q s') : W_J7_fill_d0a16 s a n v Q := by
  unfold W_J7_fill_d0a16
  intro P5 hP5 x7 e7
  subst e7
  suffices hL : ∀ (r k : Nat) (s3 : yS), k + r = n → frM (fun b _ => b = a) s s3 → (∀ b, sI s3 b = sI s b) → (∀ j, j < k → sJ s3 a j = v) → P5 (nI k) (nI n) s3 from hL n 0 s (by omega) frM.rfl' (fun _ => rfl) (fun j hj => by omega)
  intro r
  induction r with
  | zero =>
    intro k s3 hk F3 i3 v3
    apply hP5
    rw [nI_leU (by omega) (by omega)]
    exact ⟨fun _ => H s3 F3 i3 (fun j hj => v3 j (by omega)), fun hh => absurd (by omega) hh⟩
  | succ r ih =>
    intro k s3 hk F3 i3 v3
    apply hP5
    rw [nI_leU (by omega) (by omega), nI_ix (n := k) (by omega)]
    refine ⟨fun hh => absurd hh (by omega), fun _ => ⟨nI_inU (by omega) (by omega), ?_⟩⟩
    intro s5 e5 x6 e6
    subst e6; rw [nI_s]
    refine ih (k + 1) s5 (by omega) (by subst e5; exact F3.wJ rfl) (fun b => by subst e5; exact i3 b) (fun j hj => ?_)
    subst e5
    by_cases c : j = k
    · subst c; rw [sJ_wJ_eq, if_pos ⟨rfl, rfl⟩]
    · rw [sJ_wJ_eq, if_neg (by omega)]; exact v3 j (by omega)
end
section
variable {s : yS} {p : Nat} {D : Nat → Nat → Option Nat} {M N : Nat}
def gI (D : Nat → Nat → Option Nat) (M N : Nat) (g : Nat → Nat) (G : Nat) : Prop := (∀ k, k < M → g k < G) ∧ (∀ v, v < G → ∃ k, k < M ∧ g k = v) ∧ (∀ k j, k < M → j < M → eqv D N k j → g k = g j) ∧ 1 ≤ G ∧ G ≤ M
theorem gI_step {g : Nat → Nat} {G b : Nat} (hM : M ≤ 63) (hb : b < N) (hc : ∀ k b, k < M → b < N → ∀ t, D k b = some t → t < M) (h : gI D M N g G) (hlt : G < (kl (keyF D g b) M).length) : gI D M N (fun k => (kl (keyF D g b) M).idxOf (keyF D g b k)) (kl (keyF D g b) M).length := by
  obtain ⟨h1, h2, h3, h4, h5⟩ := h
  have hg : ∀ k, k < M → g k < 63 := fun k hk => by have := h1 k hk; omega
  refine ⟨fun k hk => List.idxOf_lt_length_of_mem ((kl_mem M).mpr ⟨k, hk, rfl⟩), fun v hv => ?_, fun k j hk hj he => ?_, by omega, kl_len M⟩
  · have hin : (kl (keyF D g b) M)[v] ∈ kl (keyF D g b) M := List.getElem_mem hv
    obtain ⟨k, hk, e⟩ := (kl_mem M).mp hin
    refine ⟨k, hk, ?_⟩
    show (kl (keyF D g b) M).idxOf (keyF D g b k) = v
    rw [e]
    exact (kl_nodup M).idxOf_getElem v hv
  · have : keyF D g b k = keyF D g b j := by
      rw [keyF_eq hg (hc k b hk hb) (hc j b hj hb)]
      refine ⟨h3 k j hk hj he, ?_⟩
      have hbs := eqv_bis k j he b hb
      cases hd : D k b with
      | none =>
        cases hd2 : D j b with
        | none => exact Or.inl ⟨rfl, rfl⟩
        | some y => obtain ⟨x, hx, _⟩ := hbs.2 y hd2; rw [hd] at hx; exact absurd hx (by simp)
      | some x =>
        obtain ⟨y, hy, hr⟩ := hbs.1 x hd
        exact Or.inr ⟨x, y, rfl, hy, h3 x y (hc k b hk hb x hd) (hc j b hj hb y hy) hr⟩
    show (kl (keyF D g b) M).idxOf (keyF D g b k) = (kl (keyF D g b) M).idxOf (keyF D g b j)
    rw [this]
def stbl (D : Nat → Nat → Option Nat) (M : Nat) (g : Nat → Nat) (b : Nat) : Prop := ∀ k j, k < M → j < M → g k = g j → keyF D g b k = keyF D g b j
theorem gI_stbl {g : Nat → Nat} {G b : Nat} (hM : M ≤ 63) (hb : b < N) (hc : ∀ k b, k < M → b < N → ∀ t, D k b = some t → t < M) (h : gI D M N g G) (hle : (kl (keyF D g b) M).length ≤ G) : stbl D M g b := by
  obtain ⟨h1, h2, h3, h4, h5⟩ := h
  have hg : ∀ k, k < M → g k < 63 := fun k hk => by have := h1 k hk; omega
  have hnd : ((kl (keyF D g b) M).map (· / 64)).Nodup := by
    refine cover_nodup G _ (fun v hv => ?_) (by rw [List.length_map]; exact hle)
    obtain ⟨k, hk, e⟩ := h2 v hv
    rw [List.mem_map]
    exact ⟨keyF D g b k, (kl_mem M).mpr ⟨k, hk, rfl⟩, by rw [keyF_div hg (hc k b hk hb)]; exact e⟩
  intro k j hk hj he
  have e : keyF D g b k / 64 = keyF D g b j / 64 := by rw [keyF_div hg (hc k b hk hb), keyF_div hg (hc j b hj hb), he]
  obtain ⟨x, hx, ex⟩ := List.getElem_of_mem ((kl_mem M).mpr ⟨k, hk, rfl⟩ : keyF D g b k ∈ kl (keyF D g b) M)
  obtain ⟨y, hy, ey⟩ := List.getElem_of_mem ((kl_mem M).mpr ⟨j, hj, rfl⟩ : keyF D g b j ∈ kl (keyF D g b) M)
  have hxy : x = y := by
    have hx' : x < ((kl (keyF D g b) M).map (· / 64)).length := by rw [List.length_map]; exact hx
    have hy' : y < ((kl (keyF D g b) M).map (· / 64)).length := by rw [List.length_map]; exact hy
    have := (List.getElem_inj (h₀ := hx') (h₁ := hy') hnd).mp (by rw [List.getElem_map, List.getElem_map, ex, ey]; exact e)
    exact this
  subst hxy
  rw [← ex, ← ey]
theorem gI_fin {g : Nat → Nat} {G : Nat} (hM : M ≤ 63) (hc : ∀ k b, k < M → b < N → ∀ t, D k b = some t → t < M) (h : gI D M N g G) (hs : ∀ b, b < N → stbl D M g b) : ∀ k j, k < M → j < M → (g k = g j ↔ eqv D N k j) := by
  obtain ⟨h1, h2, h3, h4, h5⟩ := h
  have hg : ∀ k, k < M → g k < 63 := fun k hk => by have := h1 k hk; omega
  intro k j hk hj
  refine ⟨fun he => ⟨fun a c => a < M ∧ c < M ∧ g a = g c, ?_, hk, hj, he⟩, h3 k j hk hj⟩
  rintro a c ⟨ha, hcM, hac⟩ b hb
  have hkey := hs b hb a c ha hcM hac
  rw [keyF_eq hg (hc a b ha hb) (hc c b hcM hb)] at hkey
  rcases hkey.2 with ⟨n1, n2⟩ | ⟨x, y, d1, d2, e⟩
  · exact ⟨fun x' hx => by rw [n1] at hx; exact absurd hx (by simp), fun x' hx => by rw [n2] at hx; exact absurd hx (by simp)⟩
  · refine ⟨fun x' hx => ?_, fun y' hy => ?_⟩
    · rw [d1] at hx; cases hx
      exact ⟨y, d2, hc a b ha hb x d1, hc c b hcM hb y d2, e⟩
    · rw [d2] at hy; cases hy
      exact ⟨x, d1, hc a b ha hb x d1, hc c b hcM hb y d2, e⟩
theorem c_divideGroups {Q : yS → Prop} (hm : smC s p) (h : dwC s p D M N) (hkey : ∀ κ, κ < 4096 → (sI s 110) κ = -1)
    (H : ∀ s' g, frM dGr s s' → (∀ κ, κ < 4096 → (sI s' 110) κ = -1) → grC s' g M → (∀ k, k < M → g k < 63) → (∀ k j, k < M → j < M → (g k = g j ↔ eqv D N k j)) → Q s') : W_X7_divideGroups s Q := by
  obtain ⟨h0, hM, hN, h1, h2, h3⟩ := h
  have h : dwC s p D M N := ⟨h0, hM, hN, h1, h2, h3⟩
  have hp3 := hm.1
  have hcl : ∀ k b, k < M → b < N → ∀ t, D k b = some t → t < M := fun k b hk hb => (h3 k b hk hb).2
  unfold W_X7_divideGroups
  refine c_fill (by omega) ?_
  intro s1 F1 v1 s2 e2 P17 hP17
  have F2 : frM dGr s s2 := by subst e2; exact (F1.mono (fun a i h => by unfold dGr; omega)).wI (by unfold dGr; omega)
  have q2 : ∀ κ, κ < 4096 → (sI s2 110) κ = -1 := fun κ hκ => by subst e2; rw [sI_w, if_neg (by omega), F1.1 _ _ (by omega)]; exact hkey κ hκ
  have g2 : grC s2 (fun _ => 0) M := fun k hk => by subst e2; rw [sI_w, if_neg (by omega)]; exact v1 k (by omega)
  have G2 : (sI s2 103 2) = nI 1 := by subst e2; rw [sI_w, if_pos ⟨rfl, rfl⟩]; rfl
  clear e2
  suffices hL : ∀ (r n : Nat) (x3 : Int32) (s5 : yS) (g : Nat → Nat) (G : Nat), n + r = 64 → frM dGr s s5 → (∀ κ, κ < 4096 → (sI s5 110) κ = -1) → grC s5 g M → (sI s5 103 2) = nI G → gI D M N g G → (x3 = 0 → ∀ b, b < N → stbl D M g b) → (x3 ≠ 0 → n < G) → P17 x3 (nI n) s5 from
    hL 64 0 1 s2 (fun _ => 0) 1 (by omega) F2 q2 g2 G2 ⟨fun _ _ => Nat.zero_lt_one, fun v hv => ⟨0, by omega, by show 0 = v; omega⟩, fun _ _ _ _ _ => rfl, by omega, by omega⟩ (fun hh => absurd hh (by decide)) (fun _ => by omega)
  intro r
  induction r with
  | zero =>
    intro n x3 s5 g G hn F5 q5 g5 G5 i5 st5 lt5
    have hx : x3 = 0 := by
      by_cases c : x3 = 0
      · exact c
      · have := lt5 c; have := i5.2.2.2.2; omega
    have hfin := H s5 g F5 q5 g5 (fun k hk => by have := i5.1 k hk; have := i5.2.2.2.2; omega) (gI_fin hM hcl i5 (st5 hx))
    apply hP17
    exact ⟨fun _ => hfin, fun _ => ⟨fun _ => hfin, fun hh => absurd hx hh⟩⟩
  | succ r ih =>
    intro n x3 s5 g G hn F5 q5 g5 G5 i5 st5 lt5
    apply hP17
    by_cases hx : x3 = 0
    · have hfin := H s5 g F5 q5 g5 (fun k hk => by have := i5.1 k hk; have := i5.2.2.2.2; omega) (gI_fin hM hcl i5 (st5 hx))
      exact ⟨fun _ => hfin, fun _ => ⟨fun _ => hfin, fun hh => absurd hx hh⟩⟩
    have hnG := lt5 hx
    rw [nI_ltU (by omega) (by omega)]
    refine ⟨fun hh => absurd hh (by have := i5.2.2.2.2; omega), fun _ => ⟨fun hh => absurd hh hx, fun _ => ?_⟩⟩
    intro P31 hP31
    suffices hA : ∀ (q b : Nat) (x6 : Int32) (s8 : yS) (g : Nat → Nat) (G : Nat), b + q = N → frM dGr s s8 → (∀ κ, κ < 4096 → (sI s8 110) κ = -1) → grC s8 g M → (sI s8 103 2) = nI G → gI D M N g G → (x6 = 0 → ∀ a, a < b → stbl D M g a) → n < G → (x6 ≠ 0 → n + 1 < G) → P31 x6 (nI b) s8 from
      hA N 0 0 s5 g G (by omega) F5 q5 g5 G5 i5 (fun _ a ha => by omega) hnG (fun hh => absurd rfl hh)
    intro q
    induction q with
    | zero =>
      intro b x6 s8 g G hb F8 q8 g8 G8 i8 st8 n8 lt8
      apply hP31
      have L8 : (sI s8 103 1) = nI N := by rw [F8.1 _ _ (by unfold dGr; omega)]; exact h2
      rw [L8, nI_leU (by omega) (by omega)]
      refine ⟨fun _ => ?_, fun hh => absurd (by omega) hh⟩
      intro x9 e9; subst e9; rw [nI_s]
      exact ih (n + 1) x6 s8 g G (by omega) F8 q8 g8 G8 i8 (fun hh a ha => st8 hh a (by omega)) lt8
    | succ q ihq =>
      intro b x6 s8 g G hb F8 q8 g8 G8 i8 st8 n8 lt8
      apply hP31
      have L8 : (sI s8 103 1) = nI N := by rw [F8.1 _ _ (by unfold dGr; omega)]; exact h2
      have hm8 : smC s8 p := ⟨hp3, (F8.2.2 _ _).trans hm.2⟩
      have d8 := h.fr (s' := s8) (fun a i ha => F8.1 _ _ (by unfold dGr; omega))
      have hGM := i8.2.2.2.2
      rw [L8, nI_leU (by omega) (by omega)]
      refine ⟨fun hh => absurd hh (by omega), fun _ => ?_⟩
      refine c_divideBy hm8 d8 g8 (fun k hk => by have := i8.1 k hk; omega) G8 (by omega) (by omega) q8 (fun hlt s11 F11 q11 g11 G11 => ?_) (fun hle s11 F11 q11 g11 G11 => ?_)
      · intro P49 hP49
        refine ⟨fun hh => absurd hh (by decide), fun _ => ?_⟩
        apply hP49
        intro x13 e13; subst e13; rw [nI_s]
        exact ihq (b + 1) 1 s11 _ _ (by omega) (F8.trans F11) q11 g11 G11 (gI_step hM (by omega) hcl i8 hlt) (fun hh => absurd hh (by decide)) (by omega) (fun _ => by omega)
      · intro P49 hP49
        refine ⟨fun _ => ?_, fun hh => absurd rfl hh⟩
        apply hP49
        intro x13 e13; subst e13; rw [nI_s]
        refine ihq (b + 1) x6 s11 g G (by omega) (F8.trans F11) q11 g11 G11 i8 (fun hh a ha => ?_) n8 lt8
        by_cases c : a = b
        · subst c; exact gI_stbl hM (by omega) hcl i8 hle
        · exact st8 hh a (by omega)
end
