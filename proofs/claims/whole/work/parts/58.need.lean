/-! ===== PURE: which calls need a guard ===== -/
theorem rcO_uq {x y : Int64} {T : Nat → Nat → Option Nat} {q lo hi : Nat} (h : rcO x T q lo hi) (k : rcO y T q lo hi) : x = y := by
  apply bJ_ext
  intro c _
  have h1 := h c
  rw [← k c] at h1
  cases hx : bJ x c <;> cases hy : bJ y c <;> simp [hx, hy] at h1 ⊢
noncomputable def rjC (T : Nat → Nat → Option Nat) (lo hi q : Nat) : Int64 := @dite _ (∃ x, rcO x T q lo hi) (Classical.propDecidable _) (fun h => Classical.choose h) (fun _ => 0)
theorem rjC_eq {x : Int64} {T : Nat → Nat → Option Nat} {q lo hi : Nat} (h : rcO x T q lo hi) : x = rjC T lo hi q := by
  have he : ∃ x, rcO x T q lo hi := ⟨x, h⟩
  unfold rjC
  rw [dif_pos he]
  exact rcO_uq h (Classical.choose_spec he)
noncomputable def RJs (ps : PS) (S : List Int32) (c q : Nat) : Int64 := rjC (TT ps S) (offs ps c) (offs ps (c + 1)) q
section
variable {s : yS} {g p q n : Nat} {l : List Fn} {ps : PS} {S : List Int32} {f i : Nat}
theorem plC.po (h : plC s p ps S) : polR s p (RJs ps S) (nn ps S) := by
  obtain ⟨_, _, ht, hs⟩ := h
  exact ⟨ht.2.2.2.1, ht.2.1, fun c hc q hq => rjC_eq (hs c hc q hq).1⟩
theorem plM.po (h : plM s ps S) : polM s (RJs ps S) (nn ps S) := by
  obtain ⟨_, _, _, ht, _, hs⟩ := h
  exact ⟨ht.2.2.2.1, ht.2.1, fun c hc q hq => rjC_eq (hs c hc q hq).1⟩
def rud (rs : List Rl) (c : Nat) : Prop := ∃ r ∈ rs, rC r = -1 ∨ rC r = (c : Int)
/-- a call that needs a guard -/
def nds (ps : PS) (S : List Int32) (l : List Fn) (f i : Nat) : Prop := opA (fnA l f) i = 26 ∧ (rud (pR ps) (ix (orA (fnA l f) i)) ∨ ∃ b, lM l (RCJ (RJs ps S)) (nn ps S) f i b ∧ b < nn ps S ∧ ¬ styO (TT ps S) b (offs ps (ix (orA (fnA l f) i))) (offs ps (ix (orA (fnA l f) i) + 1)))
/-- only states -/
theorem lM_lt {RC : R3} (hok : pgOK l) (hn : 0 < n) (hRC : ∀ c, c < 16 → ∀ q, q < n → ∀ b, RC c q b → b < n) {b : Nat} (h : lM l RC n f i b) : b < n := by
  refine h (fun _ _ b => b < n) (fun _ b => b < n) (fun _ b => b < n) ⟨hn, fun f hf i hi => ?_⟩
  intro _
  have aff : ∀ b, aft RC n l[f] f i (fun _ _ b => b < n) (fun _ b => b < n) b → b < n := by
    intro b hb
    unfold aft at hb
    split at hb
    · exact hb
    · split at hb
      · rename_i ho
        obtain ⟨q, _, h2, h3⟩ := hb
        have hio := (hok.2.2.1 f hf).2.2.2.2.2.2.2.2.2.2.1 _ (List.getElem_mem hi)
        rw [opA_at hi] at ho
        obtain ⟨k, hk, ek⟩ := hio.2.2.2.2 (by omega)
        rw [orA_at hi, ek, nI_ix (by omega)] at h3
        exact hRC k hk q h2 b h3
      · exact hb
  exact ⟨fun _ h => h, fun _ => ⟨fun _ h => h, fun _ h => h⟩, fun _ _ h => h, fun _ _ _ _ _ b h => by rcases h with h | ⟨_, h⟩ <;> exact h, fun _ b h => aff b h, fun _ b h => aff b h⟩
theorem tyC.lt (h : plC s p ps S) (hm : mkd ps S) : ∀ c, c < 16 → ∀ q, q < nn ps S → ∀ b, RCJ (RJs ps S) c q b → b < nn ps S := by
  intro c hc q hq b hb
  obtain ⟨_, _, ht, hs⟩ := h
  have h1 := (hs c hc q hq).1
  have e : RJs ps S c q = (sJ s (p + 15)) (c * 63 + q) := (rjC_eq h1).symm
  have hb : bJ (RJs ps S c q) b = true := hb
  rw [e, h1 b] at hb
  obtain ⟨x, h2, h3, h4⟩ := hb
  have h16 : offs ps (c + 1) ≤ offs ps 16 := offs_mono ps (by omega)
  exact (ht.2.2.2.2 q x hq (by omega)).2 b h4
theorem c_needs {Q : Int32 → Prop} (hok : pgOK l) (hm : mkd ps S) (hp : pgC s g l) (hpl : plC s p ps S) (hru : ruC s p (pR ps)) (hmy : myC s g l (RJs ps S) (nn ps S)) (hf : f < l.length) (hi : i < (fC l[f]).length) (H : ∀ r : Bool, (r = true ↔ nds ps S l f i) → Q (bI r)) : W_X0_needs s g p (nI (f * 400 + i)) Q := by
  have h4 := (hok.2.2.1 f hf).2.2.2.2.2.2.2.2.1
  have h12 := hok.2.1
  have hco := (hp.2 f hf).2.2.2.2.2.2.1 i hi
  have hio := (hok.2.2.1 f hf).2.2.2.2.2.2.2.2.2.2.1 _ (List.getElem_mem hi)
  rw [← opA_at hi, ← orA_at hi] at hco
  have o29 : opA l[f] i ≤ 29 := by rw [opA_at hi]; exact hio.1
  have hin : vp_in (nI (f * 400 + i)) 4800 := nI_inU (by omega) (by omega)
  unfold W_X0_needs
  rw [nI_ix (n := f * 400 + i) (by omega), hco.1, nI_inj (by omega) (by omega)]
  unfold nds at H
  rw [fnA_at hf] at H
  refine ⟨hin, fun h26 => ⟨hin, ?_⟩, fun hne => H false ⟨fun h => absurd h (by decide), fun h => absurd h.1 hne⟩⟩
  obtain ⟨k, hk, ek⟩ : ∃ k, k < 16 ∧ orA l[f] i = nI k := by rw [opA_at hi] at h26; rw [orA_at hi]; exact hio.2.2.2.2 (Or.inl h26)
  rw [hco.2, ek]
  rw [ek, nI_ix (by omega)] at H
  intro x3 e3
  subst e3
  rw [bit_at (by omega)]
  have hr := hru k hk
  have hone : ((if bt ((sI s p 6)) k = true then (1 : Int32) else 0) = 1) ↔ bt ((sI s p 6)) k = true := by
    by_cases c : bt ((sI s p 6)) k = true
    · rw [if_pos c]; exact ⟨fun _ => c, fun _ => rfl⟩
    · rw [if_neg c]; exact ⟨fun h => absurd h (by decide), fun h => absurd h c⟩
  rw [hone, hr]
  refine ⟨fun h => H true ⟨fun _ => ⟨h26, Or.inl h⟩, fun _ => rfl⟩, fun hnr => ⟨hin, nI_inU (by omega) (by omega), ?_⟩⟩
  rw [nI_ix (by omega), newJ]
  have hst : ∀ b, b < nn ps S → (bJ ((sJ s (p + 16)) k) b = true ↔ styO (TT ps S) b (offs ps k) (offs ps (k + 1))) := fun b hb => (hpl.2.2.2 k hk b hb).2
  have hbn : ∀ b, lM l (RCJ (RJs ps S)) (nn ps S) f i b → b < nn ps S := fun b hb => lM_lt hok hpl.2.2.1.1 (tyC.lt hpl hm) hb
  have hmb := hmy f hf i hi
  refine ⟨fun hsub => H false ⟨fun h => absurd h (by decide), fun h => ?_⟩, fun hns => H true ⟨fun _ => ⟨h26, Or.inr ?_⟩, fun _ => rfl⟩⟩
  · exfalso
    rcases h.2 with h | ⟨b, h1, h2, h3⟩
    · exact hnr h
    · exact h3 ((hst b h2).mp (hsub b ((hmb b).mpr h1)))
  · apply Classical.byContradiction
    intro hn
    apply hns
    intro b hb
    have hl := (hmb b).mp hb
    have hlt := hbn b hl
    rw [hst b hlt]
    apply Classical.byContradiction
    intro hns2
    exact hn ⟨b, hl, hlt, hns2⟩
theorem oI_neg1 {x : Int} (h1 : -1 ≤ x) (h2 : x ≤ 15) : Int32.ofInt x < 0 ↔ x = -1 := by
  rw [Int32.lt_iff_toInt_lt, Int32.toInt_ofInt_of_le (by omega) (by omega), show (0 : Int32).toInt = 0 from rfl]; omega
theorem oI_nI {x : Int} {k : Nat} (h1 : -1 ≤ x) (h2 : x ≤ 15) (hk : k < 16) : Int32.ofInt x = nI k ↔ x = (k : Int) := by
  rw [← Int32.toInt_inj, Int32.toInt_ofInt_of_le (by omega) (by omega), nI_toIntU (by omega)]
theorem k_needs {Q : Int32 → Prop} (hq : q ≤ 1) (hok : pgOK l) (hm : mkd ps S) (hp : pgM s q l) (hpl : plM s ps S) (hmy : myM s q l (RJs ps S) (nn ps S)) (hf : f < l.length) (hi : i < (fC l[f]).length) (H : ∀ r : Bool, (r = true ↔ nds ps S l f i) → Q (bI r)) : W_X12_needs s (nI q) (nI f) (nI i) Q := by
  have h4 := (hok.2.2.1 f hf).2.2.2.2.2.2.2.2.1
  have h12 := hok.2.1
  have hco := (hp.2 f hf).2.2.2.2.2.2.1 i hi
  have hio := (hok.2.2.1 f hf).2.2.2.2.2.2.2.2.2.2.1 _ (List.getElem_mem hi)
  rw [← opA_at hi, ← orA_at hi] at hco
  have o29 : opA l[f] i ≤ 29 := by rw [opA_at hi]; exact hio.1
  have hin : vp_in (nI (4800 * q + 400 * f + i)) 14400 := nI_inU (by omega) (by omega)
  obtain ⟨hpoM, _, _, htM, _, hsF⟩ := id hpl
  have hrs := hpoM.2.1
  have hrl : (pR ps).length ≤ 24 := by have h1 := hm.2.1.1; have h2 := hm.2.1.2.1; omega
  have hwf := hm.1.2.2.2.2.2.1
  unfold W_X12_needs
  rw [nI_mul, nI_mul, nI_addU, nI_addU]
  intro x1 e1
  subst e1
  rw [nI_ix (n := 4800 * q + 400 * f + i) (by omega), hco.1, nI_inj (by omega) (by omega)]
  unfold nds at H
  rw [fnA_at hf] at H
  refine ⟨hin, fun h26 => ⟨hin, ?_⟩, fun hne => H false ⟨fun h => absurd h (by decide), fun h => absurd h.1 hne⟩⟩
  obtain ⟨k, hk, ek⟩ : ∃ k, k < 16 ∧ orA l[f] i = nI k := by rw [opA_at hi] at h26; rw [orA_at hi]; exact hio.2.2.2.2 (Or.inl h26)
  rw [hco.2, ek]
  rw [ek, nI_ix (by omega)] at H
  intro x4 e4
  subst e4
  intro P41 hP41
  rw [hrs.1] at hP41
  have hmb := hmy f hf i hi
  suffices hL : ∀ (r j : Nat), j + r = (pR ps).length → (∀ (a : Nat) (ha : a < (pR ps).length), a < j → ¬ (rC (pR ps)[a] = -1 ∨ rC (pR ps)[a] = (k : Int))) → P41 (nI j) from hL _ 0 (Nat.zero_add _) (fun a ha h0 => by omega)
  intro r
  induction r with
  | zero =>
    intro j hj hno
    obtain rfl : j = (pR ps).length := by omega
    apply hP41
    refine ⟨fun _ => ?_, fun hz => absurd ((nI_leU (by omega) (by omega)).mpr (Nat.le_refl _)) hz⟩
    have hnr : ¬ rud (pR ps) k := by
      rintro ⟨r, hr, h⟩
      obtain ⟨a, ha, ea⟩ := List.getElem_of_mem hr
      subst ea
      exact hno a ha ha h
    intro P83 hP83
    rw [htM.2.2.2.1] at hP83
    have hn63 := htM.2.1
    suffices hS : ∀ (r j : Nat), j + r = nn ps S → (∀ b, b < j → lM l (RCJ (RJs ps S)) (nn ps S) f i b → styO (TT ps S) b (offs ps k) (offs ps (k + 1))) → P83 (nI j) from hS _ 0 (Nat.zero_add _) (fun b hb => by omega)
    intro r
    induction r with
    | zero =>
      intro j hj hall
      obtain rfl : j = nn ps S := by omega
      apply hP83
      refine ⟨fun _ => H false ⟨fun h => absurd h (by decide), fun h => ?_⟩, fun hz => absurd ((nI_leU (by omega) (by omega)).mpr (Nat.le_refl _)) hz⟩
      exfalso
      rcases h.2 with h | ⟨b, h1, h2, h3⟩
      · exact hnr h
      · exact h3 (hall b h2 h1)
    | succ r ih =>
      intro j hj hall
      have hjn : j < nn ps S := by omega
      apply hP83
      refine ⟨fun hz => absurd ((nI_leU (by omega) (by omega)).mp hz) (by omega), fun _ => ⟨hin, ?_⟩⟩
      intro P127 hP127
      rw [bitJ_at (by omega), cmp0]
      have nx : (lM l (RCJ (RJs ps S)) (nn ps S) f i j → styO (TT ps S) j (offs ps k) (offs ps (k + 1))) → P127 := fun hh => hP127 (fun x8 e8 => by
        subst e8; rw [nI_s]
        refine ih (j + 1) (by omega) (fun b hb hl => ?_)
        by_cases c : b = j
        · subst c; exact hh hl
        · exact hall b (by omega) hl)
      cases hb : bJ (sJ s 196 (4800 * q + 400 * f + i)) j with
      | false =>
        refine ⟨fun _ => nx (fun hl => absurd ((hmb j).mpr hl) (by rw [hb]; decide)), fun hz => absurd hz (by decide)⟩
      | true =>
        refine ⟨fun hz => absurd rfl hz, fun _ => ?_⟩
        rw [nI_mul, nI_addU, nI_ix (n := 64 * k + j) (by omega)]
        have hsj := (hsF k hk j hjn).2
        refine ⟨nI_inU (by omega) (by omega), fun hne => nx (fun _ => hsj.2.mp hne), fun h0 => H true ⟨fun _ => ⟨h26, Or.inr ⟨j, (hmb j).mp hb, hjn, fun hh => hsj.2.mpr hh h0⟩⟩, fun _ => rfl⟩⟩
  | succ r ih =>
    intro j hj hno
    have hjl : j < (pR ps).length := by omega
    have hrj := (hrs.2 j hjl).2.2.1
    have hwj := hwf _ (List.getElem_mem hjl)
    have in24 : vp_in (nI j) 24 := nI_inU (by omega) (by omega)
    apply hP41
    refine ⟨fun hz => absurd ((nI_leU (by omega) (by omega)).mp hz) (by omega), fun _ => ⟨in24, ?_⟩⟩
    rw [nI_ix (n := j) (by omega), hrj, oI_neg1 hwj.2.1 hwj.2.2.1, oI_nI hwj.2.1 hwj.2.2.1 hk]
    refine ⟨fun h => H true ⟨fun _ => ⟨h26, Or.inl ⟨_, List.getElem_mem hjl, Or.inl h⟩⟩, fun _ => rfl⟩, fun hn1 => ⟨in24, fun hnk => ?_, fun h => H true ⟨fun _ => ⟨h26, Or.inl ⟨_, List.getElem_mem hjl, Or.inr h⟩⟩, fun _ => rfl⟩⟩⟩
    intro x12 e12
    subst e12; rw [nI_s]
    refine ih (j + 1) (by omega) (fun a ha haj => ?_)
    by_cases c : a = j
    · subst c; rintro (h | h)
      · exact hn1 h
      · exact hnk h
    · exact hno a ha (by omega)
end
