/-! ===== the reference's next ===== -/
/-- how a fault is kept: the first alone -/
def wrM (s s' : yS) (c : Prop) (code place : Int32) : Prop :=
  (c ∧ (sI s 139 15) = 0 → (sI s' 139 15) = code ∧ (sI s' 139 16) = place) ∧ (¬ (c ∧ (sI s 139 15) = 0) → (sI s' 139 15) = (sI s 139 15) ∧ (sI s' 139 16) = (sI s 139 16))
theorem k_wrongM {s0 s : yS} {w p : Int32} {Q : yS → Prop} (hb : (sI s 139 15) = (sI s0 139 15) ∧ (sI s 139 16) = (sI s0 139 16)) (hF : nxF s0 s)
    (H : ∀ s', nxF s0 s' → (∀ i, i ≠ 15 → i ≠ 16 → sI s' 139 i = sI s 139 i) → (∀ i, sJ s' 139 i = sJ s 139 i) → wrM s0 s' True w p → Q s') : W_X12_wrong s w p Q := by
  refine k_wrong (fun e => H s hF (fun _ _ _ => rfl) (fun _ => rfl) ⟨fun h => absurd h.2 (hb.1 ▸ e), fun _ => hb⟩)
    (fun e => H _ ((hF.wI (by omega)).wI (by omega)) (fun i h1 h2 => ?_) (fun _ => rfl) ⟨fun h => ⟨rfl, rfl⟩, fun h => absurd ⟨trivial, hb.1 ▸ e⟩ h⟩)
  rw [sI_w, if_neg (by omega), sI_w, if_neg (by omega)]
theorem oJ_step (c : Int) (b : Nat) (hb : b < 256) : 27 * Int64.ofInt c + (nI b).toInt64 - 96 = Int64.ofInt (27 * c + (b : Int) - 96) := by
  have e1 : (nI b).toInt64 = Int64.ofInt (b : Int) := by
    rw [← Int64.toInt_inj, Int32.toInt_toInt64, nI_toIntU (by omega), Int64.toInt_ofInt_of_le (by omega) (by omega)]
  rw [e1, Int64.ofInt_sub, Int64.ofInt_add, Int64.ofInt_mul]; rfl
/-- what a token makes of the reference's state; s0 before, s behind -/
def nmP (s0 s : yS) (p e : Nat) (l : List Nat) : Prop :=
  nxF s0 s ∧ (sI s 139 10) = (sI s0 139 10) ∧ (sI s 139 12) = (sI s0 139 12) ∧ (sI s 139 11) = nI 2
  ∧ wrM s0 s (¬ (e - p ≤ 12 ∧ l.all isSm)) 1 (nI p) ∧ ((e - p ≤ 12 ∧ l.all isSm) → (sJ s 139 13) = Int64.ofInt (c27 0 l))
theorem k_takeName {s : yS} {T : Nat → Nat} {n p e : Nat} {Q : yS → Prop} (h : txM s T n) (hp : (sI s 139 10) = nI p) (h1 : p < e) (h2 : e ≤ n)
    (H : ∀ s', nmP s s' p e (slT T (e - p) p) → Q s') : W_X12_takeName s (nI e) Q := by
  have hn := h.1
  unfold W_X12_takeName
  intro s1 e1 s2 e2 P26 hP26
  have hF2 : nxF s s2 := by subst e2; subst e1; exact (nxF.rfl'.wI (by omega)).wJ (by omega)
  have b2 : (sI s2 139 15) = (sI s 139 15) ∧ (sI s2 139 16) = (sI s 139 16) := by subst e2; subst e1; exact ⟨rfl, rfl⟩
  have a2 : (sI s2 139 10) = nI p := by subst e2; subst e1; exact hp
  have t2 : (sI s2 139 11) = nI 2 := by subst e2; subst e1; rfl
  have tp2 : (sI s2 139 12) = (sI s 139 12) := by subst e2; subst e1; rfl
  have n2 : (sJ s2 139 13) = Int64.ofInt 0 := by subst e2; rfl
  -- the loop
  have main : ∀ y3 : Int32, (y3 = 1 → e - p ≤ 12) → (y3 = 0 → ¬ e - p ≤ 12) → (y3 = 0 ∨ y3 = 1) → P26 y3 := by
    intro y3 hy1 hy0 hy
    apply hP26
    intro P32 hP32 x13 e13
    subst e13
    rw [a2]
    -- what holds at k
    suffices hL : ∀ (m k : Nat) (x4 : Int32) (s6 : yS) (c : Int), e - k = m → p ≤ k → k ≤ e → nxF s s6 → (sI s6 139 15) = (sI s 139 15) ∧ (sI s6 139 16) = (sI s 139 16) → (sI s6 139 10) = nI p → (sI s6 139 11) = nI 2 → (sI s6 139 12) = (sI s 139 12)
        → (sJ s6 139 13) = Int64.ofInt c → (x4 = 1 → e - p ≤ 12 ∧ c27 c (slT T m k) = c27 0 (slT T (e - p) p) ∧ ((slT T (e - p) p).all isSm = (slT T m k).all isSm)) → (x4 = 0 → ¬ (e - p ≤ 12 ∧ (slT T (e - p) p).all isSm)) → (x4 = 0 ∨ x4 = 1) → P32 x4 (nI k) s6 by
      refine hL (e - p) p y3 s2 0 rfl (Nat.le_refl _) (by omega) hF2 b2 a2 t2 tp2 n2 (fun hy => ⟨hy1 hy, rfl, rfl⟩) (fun hy hh => hy0 hy hh.1) hy
    intro m
    induction m with
    | zero =>
      intro k x4 s6 c hm hk1 hk2 F6 b6 a6 t6 tp6 n6 g1 g0 g
      apply hP32
      intro P81 hP81
      rw [nI_leU (by omega) (by omega)]
      refine ⟨fun _ => hP81 ?_, fun hh => absurd (by omega) hh⟩
      refine ⟨fun hx => ?_, fun hx => ?_⟩
      · have hx1 : x4 = 1 := g.resolve_left hx
        obtain ⟨q1, q2, q3⟩ := g1 hx1
        have hall : e - p ≤ 12 ∧ (slT T (e - p) p).all isSm := ⟨q1, q3⟩
        exact H s6 ⟨F6, a6.trans hp.symm, tp6, t6, ⟨fun hh => absurd hall hh.1, fun _ => b6⟩, fun _ => by rw [n6, ← q2]; rfl⟩
      · rw [a6]
        refine k_wrongM b6 F6 (fun s' F' hi hj hw => H s' ⟨F', ?_, ?_, ?_, ?_, fun hh => absurd hh (g0 hx)⟩)
        · rw [hi _ (by omega) (by omega), a6, hp]
        · rw [hi _ (by omega) (by omega), tp6]
        · rw [hi _ (by omega) (by omega), t6]
        · exact ⟨fun hh => hw.1 ⟨trivial, hh.2⟩, fun hh => hw.2 (fun h3 => hh ⟨g0 hx, h3.2⟩)⟩
    | succ m ih =>
      intro k x4 s6 c hm hk1 hk2 F6 b6 a6 t6 tp6 n6 g1 g0 g
      apply hP32
      intro P81 hP81
      rw [nI_leU (by omega) (by omega)]
      refine ⟨fun hh => absurd hh (by omega), fun _ => ⟨fun hx => hP81 ⟨fun hx1 => absurd hx hx1, fun _ => ?_⟩, fun hx => ⟨nI_inU (by omega) (by omega), ?_⟩⟩⟩
      · rw [a6]
        refine k_wrongM b6 F6 (fun s' F' hi hj hw => H s' ⟨F', ?_, ?_, ?_, ?_, fun hh => absurd hh (g0 hx)⟩)
        · rw [hi _ (by omega) (by omega), a6, hp]
        · rw [hi _ (by omega) (by omega), tp6]
        · rw [hi _ (by omega) (by omega), t6]
        · exact ⟨fun hh => hw.1 ⟨trivial, hh.2⟩, fun hh => hw.2 (fun h3 => hh ⟨g0 hx, h3.2⟩)⟩
      · have hx1 : x4 = 1 := g.resolve_left hx
        obtain ⟨q1, q2, q3⟩ := g1 hx1
        have tx6 := F6.txM h
        rw [nI_ix (by omega), tx6.2.2.1 k (by omega)]
        refine k_isSmall (tx6.2.2.2 k) ⟨nI_inU (by omega) (by omega), ?_⟩
        intro s11 e11 x12 e12
        subst e12; rw [nI_1U, nI_addU]
        subst e11
        have hs : slT T (m + 1) k = T k :: slT T m (k + 1) := rfl
        refine ih (k + 1) _ _ (27 * c + (T k : Int) - 96) (by omega) (by omega) (by omega) (F6.wJ (by omega)) b6 a6 t6 tp6 ?_ ?_ ?_ ?_
        · rw [sJ_w, if_pos ⟨rfl, rfl⟩, n6, oJ_step c (T k) (tx6.2.2.2 k)]
        · intro hx2
          have hsm : isSm (T k) = true := by
            by_cases c2 : isSm (T k) = true
            · exact c2
            · rw [if_neg c2] at hx2; exact absurd hx2 (by decide)
          refine ⟨q1, ?_, ?_⟩
          · rw [← q2, hs]; rfl
          · rw [q3, hs, List.all_cons, hsm, Bool.true_and]
        · intro hx2
          have hsm : isSm (T k) = false := by
            by_cases c2 : isSm (T k) = true
            · rw [if_pos c2] at hx2; exact absurd hx2 (by decide)
            · exact Bool.eq_false_iff.mpr c2
          rintro ⟨_, hh⟩
          rw [q3, hs, List.all_cons, hsm] at hh
          exact absurd hh (by simp)
        · by_cases c2 : isSm (T k) = true
          · rw [if_pos c2]; exact Or.inr rfl
          · rw [if_neg c2]; exact Or.inl rfl
  rw [a2, nI_sub (by omega), nI_leU (by omega) (by omega)]
  exact ⟨fun hh => main 0 (fun e => absurd e (by decide)) (fun _ => by omega) (Or.inl rfl), fun hh => main 1 (fun _ => by omega) (fun e => absurd e (by decide)) (Or.inr rfl)⟩
