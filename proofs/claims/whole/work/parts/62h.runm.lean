section
variable {l : List Fn} {ps : PS} {S : List Int32} {an : Nat → Int32} {na fu : Nat} {z : MS}
theorem rai_D {c : Int32} {fs : List Fr} : aD (rai l c fs z).1 = aD z := by
  unfold rai; split <;> rfl
theorem xDo_D {o : Nat} {w : Int32} {r : Fr} {fs : List Fr} : aD (xDo l an na o w r fs z).1 = aD z ∨ ((xDo l an na o w r fs z).2 = none ∧ aD (xDo l an na o w r fs z).1 = max (aD z) (aF (xDo l an na o w r fs z).1).length) := by
  unfold xDo
  split; · exact Or.inl rfl
  split
  · left; unfold xInts; split
    · exact rai_D
    · rfl
  split
  · left; unfold xJump; split <;> rfl
  split
  · left; unfold xNew; split
    · exact rai_D
    · rfl
  split
  · left; unfold xGet; split
    · exact rai_D
    · rfl
  split
  · left; unfold xPut; split
    · exact rai_D
    · rfl
  split; · exact Or.inl rfl
  split
  · unfold xCall; split
    · exact Or.inl rai_D
    · exact Or.inr ⟨rfl, rfl⟩
  split; · exact Or.inl rfl
  split
  · left; unfold xRet; split <;> rfl
  exact Or.inl rai_D
theorem exe_D : aD (exe l ps an na z).1 = aD z ∨ ((exe l ps an na z).2 = none ∧ aD (exe l ps an na z).1 = max (aD z) (aF (exe l ps an na z).1).length) := by
  unfold exe
  split
  · exact Or.inl rfl
  · split
    · left; unfold xGuard; split <;> rfl
    · exact xDo_D (z := stp1 z)
end
def dRn (a i : Nat) : Prop := dRm a i ∨ (a = 139 ∧ (i = 0 ∨ i = 89 ∨ i = 96 ∨ i = 112))
section
variable {s : yS} {q na fu : Nat} {l : List Fn} {ps : PS} {S : List Int32} {an : Nat → Int32}
set_option maxHeartbeats 1000000 in
theorem k_runIt {v1 v2 : Int32} {Q : Int32 → yS → Prop} (hq : q = if v1 = 0 then 0 else 1)
    (Hno : (sI s 177 q = 0 ∨ v2 < 0 ∨ ¬ v2 ≤ nI 20000) → ∀ s', frM (fun a i => a = 139 ∧ i = 0) s s' → sI s' 139 0 = 0 → Q (-1) s')
    (hyes : ¬ sI s 177 q = 0 → pgOK l ∧ vAll l = none ∧ pgM s q l) (hm : mkd ps S) (hS1 : S.head? = some 1) (hpl : plM s ps S) (han : anM s an na)
    (H : ¬ sI s 177 q = 0 → ∀ fu, fu ≤ 20000 → v2 = nI fu → ∀ s', frM dRn s s' → mBr s' ps S (rnP l ps an na fu).1 → sI s' 139 96 = nI (aD (rnP l ps an na fu).1) → sI s' 139 0 = 0 → sI s' 139 89 = 1 → sI s' 139 90 = nI (rnP l ps an na fu).2.1 → sI s' 139 91 = (rnP l ps an na fu).2.2 → Q (nI (rnP l ps an na fu).2.1) s') : W_X12_runIt s v1 v2 Q := by
  have hq1 : q ≤ 1 := by rw [hq]; split <;> omega
  unfold W_X12_runIt
  intro s1 e1
  have F1 : frM (fun a i => a = 139 ∧ i = 0) s s1 := by subst e1; exact frM.rfl'.wI ⟨rfl, rfl⟩
  have z1 : sI s1 139 0 = 0 := by subst e1; rw [sI_w, if_pos ⟨rfl, rfl⟩]
  clear e1
  intro P18 hP18
  have main : P18 (nI q) := by
    apply hP18
    rw [nI_ix (n := q) (by omega), F1.1 177 _ (by omega)]
    refine ⟨nI_inU (by omega) (by omega), fun h0 => Hno (Or.inl h0) s1 F1 z1, fun hne => ⟨fun hneg => Hno (Or.inr (Or.inl hneg)) s1 F1 z1, fun hnn => ⟨fun hle => ?_, fun hgt => Hno (Or.inr (Or.inr hgt)) s1 F1 z1⟩⟩⟩
    obtain ⟨hok, hva, hp⟩ := hyes hne
    obtain ⟨fu, efu, hfu⟩ : ∃ fu, v2 = nI fu ∧ fu ≤ 20000 := by
      have h0 : 0 ≤ v2.toInt := by rw [i_ltI] at hnn; exact Int.not_lt.mp hnn
      obtain ⟨c, e, hc⟩ := nI_ofU h0
      refine ⟨c, e, ?_⟩
      rw [e, nI_leU (by omega) (by omega)] at hle; omega
    have HH := H hne fu hfu efu
    subst efu
    have h12 := hok.2.1
    have h0l : 0 < l.length := hok.1
    intro P45 hP45
    have inner : P45 (nI q) := by
      apply hP45
      intro s5 e5 s6 e6 s7 e7 s8 e8 s9 e9 s10 e10 s11 e11 s12 e12 s13 e13
      refine ⟨nI_inU (a := 0) (by omega) (by omega), ?_⟩
      intro s15 e15 s16 e16
      rw [show ix 0 = 0 from rfl] at e15
      have F16 : frM dRn s s16 := by
        have q0 : frM dRn s s1 := F1.mono (fun a i h => by unfold dRn; omega)
        have q5 : frM dRn s s5 := by subst e5; exact q0.wI (by unfold dRn dRm; omega)
        have q6 : frM dRn s s6 := by subst e6; exact q5.wI (by unfold dRn dRm; omega)
        have q7 : frM dRn s s7 := by subst e7; exact q6.wI (by unfold dRn dRm; omega)
        have q8 : frM dRn s s8 := by subst e8; exact q7.wI (by unfold dRn dRm; omega)
        have q9 : frM dRn s s9 := by subst e9; exact q8.wI (by unfold dRn dRm; omega)
        have q10 : frM dRn s s10 := by subst e10; exact q9.wI (by unfold dRn dRm; omega)
        have q11 : frM dRn s s11 := by subst e11; exact q10.wI (by unfold dRn dRm; omega)
        have q12 : frM dRn s s12 := by subst e12; exact q11.wI (by unfold dRn dRm; omega)
        have q13 : frM dRn s s13 := by subst e13; exact q12.wI (by unfold dRn dRm; omega)
        have q15 : frM dRn s s15 := by subst e15; exact q13.wI (by unfold dRn dRm; omega)
        subst e16; exact q15.wI (by unfold dRn dRm; omega)
      have v16 : sI s16 139 0 = 0 ∧ sI s16 139 112 = nI q ∧ sI s16 139 89 = 1 ∧ sI s16 139 90 = nI 3 ∧ sI s16 139 91 = 0 ∧ sI s16 139 92 = 0 ∧ sI s16 139 93 = 0 ∧ sI s16 139 94 = 0 ∧ sI s16 139 95 = 0 ∧ sI s16 139 105 = 0 ∧ sI s16 210 0 = 0 ∧ sI s16 139 97 = 1 := by
        subst e16 e15 e13 e12 e11 e10 e9 e8 e7 e6 e5
        refine ⟨?_, ?_, ?_, ?_, ?_, ?_, ?_, ?_, ?_, ?_, ?_, ?_⟩ <;> simp [sI_w, z1]
      obtain ⟨a0, a112, a89, a90, a91, a92, a93, a94, a95, a105, a210, a97⟩ := v16
      clear e16 e15 e13 e12 e11 e10 e9 e8 e7 e6 e5
      intro P102 hP102
      suffices hL1 : ∀ (d k : Nat) (t : yS), k + d = 6 → frM (fun a i => a = 205) s16 t → (∀ j, j < k → sI t 205 j = 0) → P102 (nI k) t from hL1 6 0 s16 (by omega) frM.rfl' (fun j hj => absurd hj (Nat.not_lt_zero _))
      intro d
      induction d with
      | succ d ih =>
        intro k t hk Ft ht
        apply hP102
        refine ⟨fun hz => absurd ((nI_leU (by omega) (by omega)).mp hz) (by omega), fun _ => ?_⟩
        rw [nI_ix (n := k) (by omega)]
        refine ⟨nI_inU (by omega) (by omega), ?_⟩
        intro s38 e38 x39 e39
        subst e39; rw [nI_s]
        refine ih (k + 1) s38 (by omega) (by subst e38; exact Ft.wI rfl) (fun j hj => ?_)
        subst e38; rw [sI_w]
        by_cases c : j = k
        · subst c; rw [if_pos ⟨rfl, rfl⟩]
        · rw [if_neg (by omega)]; exact ht j (by omega)
      | zero =>
        intro k t hk Ft ht
        obtain rfl : k = 6 := by omega
        apply hP102
        refine ⟨fun _ => ?_, fun hz => absurd (by decide) hz⟩
        intro s19 e19
        have F19 : frM (fun a i => a = 205 ∨ (a = 139 ∧ i = 111)) s16 s19 := by subst e19; exact (Ft.mono (fun a i h => Or.inl h)).wI (by omega)
        have k19 : ∀ j, j < 6 → sI s19 205 j = 0 := fun j hj => by subst e19; rw [sI_w, if_neg (by omega)]; exact ht j hj
        refine k_enter (K := 0) (by omega) (by subst e19; rw [sI_w, if_pos ⟨rfl, rfl⟩]; rfl) (fun s20 F20 b111 b211 b212 b213 b214 => ?_)
        intro P136 hP136 s36 e36
        have F36 : frM (fun a i => a = 205 ∨ (a = 139 ∧ (i = 111 ∨ i = 96)) ∨ (211 ≤ a ∧ a ≤ 214)) s16 s36 := by
          subst e36; exact ((F19.mono (fun a i h => by omega)).trans (F20.mono (fun a i h => by omega))).wI (by omega)
        have F36' : frM dRn s s36 := F16.trans (F36.mono (fun a i h => by unfold dRn dRm; omega))
        have n36 : ∀ a i, ¬ (a = 139 ∧ i = 96) → sI s36 a i = sI s20 a i := fun a i h => by subst e36; rw [sI_w, if_neg h]
        have c96 : sI s36 139 96 = nI (aD z0) := by subst e36; rw [sI_w, if_pos ⟨rfl, rfl⟩]; rfl
        have h1Q := stQ_one hm hS1
        have st36 : stMm s36 q l ps S an na := by
          refine ⟨hq1, (F36.1 _ _ (by omega)).trans a112, hp.fr (fun a i ha => F36'.1 _ _ (by unfold dRn dRm; omega)), hpl.fr (fun a i ha => F36'.1 _ _ (by unfold dRn dRm; omega)) (fun a i ha => F36'.2.1 _ _ (by unfold dRn dRm; omega)), (F36'.1 _ _ (by unfold dRn dRm; omega)).trans han.1, han.2.1, fun i hi => (F36'.1 _ _ (by unfold dRn dRm; omega)).trans (han.2.2 i hi)⟩
        have B36 : mBr s36 ps S z0 := by
          refine ⟨⟨(F36.1 _ _ (by omega)).trans a95, fun a ha => absurd ha (Nat.not_lt_zero _)⟩, ⟨(F36.1 _ _ (by omega)).trans a92, (F36.1 _ _ (by omega)).trans a93, (F36.1 _ _ (by omega)).trans a94⟩, ⟨(F36.1 _ _ (by omega)).trans a97, h1Q.1, fun k hk => ?_, fun k hk => ⟨0, Nat.zero_le _, rfl⟩⟩, fun i hi => absurd hi (Nat.not_lt_zero _)⟩
          rw [n36 _ _ (by omega), F20.1 _ _ (by omega)]; exact k19 k hk
        have M36 : mMr s36 z0 := by
          refine ⟨⟨⟨?_, ?_, ?_, Nat.zero_le _, fun i hi => absurd hi (Nat.not_lt_zero _), fun j hj => ?_⟩, trivial⟩, ?_, ⟨(F36.1 _ _ (by omega)).trans a105, fun k hk => ?_, fun k h1 h2 => ?_⟩⟩
          · rw [n36 _ _ (by omega)]; exact b211
          · rw [n36 _ _ (by omega)]; exact b212
          · rw [n36 _ _ (by omega)]; exact b213
          · rw [n36 _ _ (by omega)]; exact b214 j hj
          · rw [n36 _ _ (by omega)]; exact b111
          · have hk : k ≤ 0 := hk
            obtain rfl : k = 0 := by omega
            rw [F36.1 _ _ (by omega)]; exact a210
          · have hk : k ≤ 0 := h2
            omega
        have e90 : sI s36 139 90 = nI 3 := (F36.1 _ _ (by omega)).trans a90
        have e91 : sI s36 139 91 = 0 := (F36.1 _ _ (by omega)).trans a91
        have k0 : sI s36 139 0 = 0 := (F36.1 _ _ (by omega)).trans a0
        have k89 : sI s36 139 89 = 1 := (F36.1 _ _ (by omega)).trans a89
        -- the end
        have fin : ∀ (t u : yS), frM (fun a i => dRm a i ∨ (a = 139 ∧ i = 96)) s36 t → u = wI t 139 111 0 → mBr t ps S (rnP l ps an na fu).1 → sI t 139 96 = nI (aD (rnP l ps an na fu).1) → sI t 139 90 = nI (rnP l ps an na fu).2.1 → sI t 139 91 = (rnP l ps an na fu).2.2 → Q (sI u 139 90) u := by
          intro t u Ft eu hB h96 h90 h91
          have nu : ∀ a i, ¬ (a = 139 ∧ i = 111) → sI u a i = sI t a i := fun a i h => by subst eu; rw [sI_w, if_neg h]
          rw [nu _ _ (by omega), h90]
          refine HH u ?_ (hB.fr (fun a i ha => nu _ _ (by omega))) ((nu _ _ (by omega)).trans h96) ?_ ?_ ((nu _ _ (by omega)).trans h90) ((nu _ _ (by omega)).trans h91)
          · subst eu; exact (F36'.trans (Ft.mono (fun a i h => by unfold dRn; rcases h with h | h; exact Or.inl h; omega))).wI (by unfold dRn dRm; omega)
          · rw [nu _ _ (by omega), Ft.1 _ _ (by unfold dRm; omega)]; exact k0
          · rw [nu _ _ (by omega), Ft.1 _ _ (by unfold dRm; omega)]; exact k89
        suffices hL : ∀ (k n : Nat) (z : MS) (t : yS), n + k = 8020401 → n ≤ 401 * aS z + tpP z → rnP l ps an na fu = runP l ps an na fu k z → aS z ≤ fu → MOK l z → frM (fun a i => dRm a i ∨ (a = 139 ∧ i = 96)) s36 t → mMr t z → mBr t ps S z → sI t 139 96 = nI (aD z) → sI t 139 90 = nI 3 → sI t 139 91 = 0 → P136 t from
          hL 8020401 0 z0 s36 (by omega) (Nat.zero_le _) rfl (Nat.zero_le _) (z0_ok hok hva) frM.rfl' M36 B36 c96 e90 e91
        intro k
        induction k with
        | zero =>
          intro n z t hn hph _ hsf hz _ _ _ _ _ _
          have := tpP_lt hok hz
          omega
        | succ k ih =>
          intro n z t hn hph hrn hsf hz Ft hM hB h96 h90 h91
          have hlt := tpP_lt hok hz
          have stt := st36.fr (s' := t) (fun a i h => Ft.1 a i h) (fun a i h => Ft.2.1 a i h)
          apply hP136
          obtain ⟨hfs, hdp, hd40, hmm, hrs, hos⟩ := id hz
          cases hF : aF z with
          | nil => rw [hF] at hfs; exact hfs.elim
          | cons r fs =>
          have hMF := hM.1
          have hM1 := hM.2.1
          rw [hF] at hMF hfs hdp hM1
          rw [List.length_cons] at hdp hM1
          obtain ⟨⟨hf, hpp, hty, hsk, hlo⟩, hcs⟩ := hfs
          have hfn := fnA_at hf
          have hfo := hok.2.2.1 _ hf
          have h400 := hfo.2.2.2.2.2.2.2.2.1
          obtain ⟨⟨f1, f2, f3, f4, f5, f6⟩, fw⟩ := id hMF
          have inK : vp_in (nI fs.length) 40 := nI_inU (by omega) (by omega)
          rw [hM1, hB.2.1.1, nI_leU (by omega) (by omega)]
          refine ⟨fun h => absurd h (by rw [nI_0U, nI_leU (by omega) (by omega)]; omega), fun _ => ⟨fun hle => ?_, fun hgt => ?_⟩⟩
          · -- no fuel
            rw [runP_fu (by omega)] at hrn
            intro s23 e23
            exact fin t s23 Ft e23 (by rw [hrn]; exact hB) (by rw [hrn]; exact h96) (by rw [hrn]; exact h90) (by rw [hrn]; exact h91)
          · have hco := (stt.2.2.1.2 _ hf).2.2.2.2.2.2.1 _ hpp
            rw [← opA_at hpp, ← orA_at hpp] at hco
            have hio := hfo.2.2.2.2.2.2.2.2.2.2.1 _ (List.getElem_mem hpp)
            rw [show (fC l[jF r])[jP r] = (opA l[jF r] (jP r), orA l[jF r] (jP r)) by rw [opA_at hpp, orA_at hpp]] at hio
            obtain ⟨i1, _, _, _, i5⟩ := hio
            dsimp only at i1 i5
            -- a round is over
            have rnd : ∀ t2 : yS, frM dRm t t2 → mBr t2 ps S (exe l ps an na z).1 → (∀ x, (exe l ps an na z).2 = some x → sI t2 139 90 = nI x.1 ∧ sI t2 139 91 = x.2 ∧ sI t2 139 111 = 0) → ((exe l ps an na z).2 = none → mMr t2 (exe l ps an na z).1 ∧ sI t2 139 90 = nI 3 ∧ sI t2 139 91 = 0) → ∀ P227 : Int32 → Prop, (∀ (y31 : Int32), (∀ s32 : yS, s32 = wI t2 139 96 y31 → 
                P136 s32) → P227 y31) → 
                (((sI t2 139 111) ≤ (sI t2 139 96) → P227 (sI t2 139 96))
                ∧ (¬ (sI t2 139 111) ≤ (sI t2 139 96) → P227 (sI t2 139 111))) := by
              intro t2 F2 B2 hS hN P227 hP227
              have t96 : sI t2 139 96 = nI (aD z) := (F2.1 _ _ (by unfold dRm; omega)).trans h96
              have Ft2 : frM (fun a i => dRm a i ∨ (a = 139 ∧ i = 96)) s36 t2 := Ft.trans (F2.mono (fun a i h => Or.inl h))
              cases hx : (exe l ps an na z).2 with
              | some e =>
                rw [runP_end (by omega) hx] at hrn
                obtain ⟨b1, b2, b3⟩ := hS e hx
                have hDD : aD (exe l ps an na z).1 = aD z := by
                  rcases exe_D (l := l) (ps := ps) (an := an) (na := na) (z := z) with h | h
                  · exact h
                  · rw [hx] at h; exact so_no h.1
                rw [b3, t96]
                refine ⟨fun _ => hP227 _ ?_, fun h => absurd (by rw [nI_0U, nI_leU (by omega) (by omega)]; omega) h⟩
                intro s32 e32
                have n32 : ∀ a i, ¬ (a = 139 ∧ i = 96) → sI s32 a i = sI t2 a i := fun a i h => by subst e32; rw [sI_w, if_neg h]
                apply hP136
                rw [n32 _ _ (by omega), b3]
                refine ⟨fun _ => ?_, fun h => absurd (by decide) h⟩
                intro s22 e22
                refine fin s32 s22 (by subst e32; exact Ft2.wI (by omega)) e22 ?_ ?_ ?_ ?_
                · rw [hrn]; exact B2.fr (fun a i ha => n32 _ _ (by omega))
                · rw [hrn, hDD]; subst e32; rw [sI_w, if_pos ⟨rfl, rfl⟩]
                · rw [hrn, n32 _ _ (by omega)]; exact b1
                · rw [hrn, n32 _ _ (by omega)]; exact b2
              | none =>
                rw [runP_go (by omega) hx] at hrn
                have hph2 := exe_phi hok hz hx
                have hz2 := exe_ok hok hva hz hx
                obtain ⟨b1, b2, b3⟩ := hN hx
                have hlen2 := hz2.2.1
                have hd2 := hz2.2.2.1
                have hDD : aD (exe l ps an na z).1 = max (aD z) (aF (exe l ps an na z).1).length := by
                  rcases exe_D (l := l) (ps := ps) (an := an) (na := na) (z := z) with h | h
                  · rw [h] at hlen2 ⊢; omega
                  · exact h.2
                have nx : ∀ s32 : yS, s32 = wI t2 139 96 (nI (aD (exe l ps an na z).1)) → P136 s32 := by
                  intro s32 e32
                  have n32 : ∀ a i, ¬ (a = 139 ∧ i = 96) → sI s32 a i = sI t2 a i := fun a i h => by subst e32; rw [sI_w, if_neg h]
                  refine ih (n + 1) _ s32 (by omega) (by omega) hrn (by omega) hz2 (by subst e32; exact Ft2.wI (by omega)) ⟨b1.1.fr (fun a i ha => n32 _ _ (by omega)), (n32 _ _ (by omega)).trans b1.2.1, b1.2.2.fr (fun a i ha => n32 _ _ (by omega))⟩ (B2.fr (fun a i ha => n32 _ _ (by omega))) (by subst e32; rw [sI_w, if_pos ⟨rfl, rfl⟩]) ((n32 _ _ (by omega)).trans b2) ((n32 _ _ (by omega)).trans b3)
                rw [b1.2.1, t96, nI_leU (by omega) (by omega)]
                refine ⟨fun hle => hP227 _ ?_, fun hgt => hP227 _ ?_⟩
                · have : aD (exe l ps an na z).1 = aD z := by omega
                  rw [this] at nx; exact nx
                · have : aD (exe l ps an na z).1 = (aF (exe l ps an na z).1).length := by omega
                  rw [this] at nx; exact nx
            have hq112 := stt.2.1
            have here : ∀ {P : Int32 → Prop}, P (nI (4800 * q + 400 * jF r + jP r)) → W_X12_here t P := fun {P} hP => by
              unfold W_X12_here
              rw [hM1, nI_p (by omega), Nat.add_sub_cancel, nI_ix (n := fs.length) (by omega), f1, f2, hq112, nI_mul, nI_mul, nI_addU, nI_addU]
              exact ⟨inK, inK, hP⟩
            have in14 : vp_in (nI (4800 * q + 400 * jF r + jP r)) 14400 := nI_inU (by omega) (by omega)
            refine here ⟨in14, ?_⟩
            rw [nI_ix (n := 4800 * q + 400 * jF r + jP r) (by omega), hco.1]
            intro x26 e26
            subst e26
            refine here ⟨in14, ?_⟩
            rw [nI_ix (n := 4800 * q + 400 * jF r + jP r) (by omega), hco.2]
            intro x29 e29
            subst e29
            intro P204 hP204
            rw [nI_inj (by omega) (by omega)]
            refine ⟨fun n29 => ?_, fun h29 => ?_⟩
            · rw [nI_s]
              intro s33 e33
              have n33 : ∀ a i, ¬ (a = 139 ∧ i = 92) → sI s33 a i = sI t a i := fun a i h => by subst e33; rw [sI_w, if_neg h]
              have F33 : frM dRm t s33 := by subst e33; exact frM.rfl'.wI (by unfold dRm; omega)
              have hexe : exe l ps an na z = xDo l an na (opA l[jF r] (jP r)) (orA l[jF r] (jP r)) r fs (stp1 z) := by
                unfold exe; rw [hF]; dsimp only; rw [hfn, if_neg n29]
              refine k_perform hok hva (stt.fr (s' := s33) (fun a i h => F33.1 a i (fun hd => h (Or.inl hd))) (fun a i h => F33.2.1 a i (fun hd => h (Or.inl hd)))) hz hF (hMF.fr (fun a i ha => n33 _ _ (by omega))) ((n33 _ _ (by omega)).trans hM1) (hM.2.2.fr (fun a i ha => n33 _ _ (by omega))) ?_ ((n33 _ _ (by omega)).trans h90) ((n33 _ _ (by omega)).trans h91) (by omega) (by rw [hfn]) (by rw [hfn]) n29 (fun s' F' B' hS hN => hP204 _ (rnd s' (F33.trans F') (by rw [hexe]; exact B') (by rw [hexe]; exact hS) (by rw [hexe]; exact hN)))
              obtain ⟨⟨q1, q2⟩, ⟨q3, q4, q5⟩, ⟨w1, w2, w3, w4⟩, q8⟩ := hB
              exact ⟨⟨(n33 _ _ (by omega)).trans q1, fun a ha => (n33 _ _ (by omega)).trans (q2 a ha)⟩, ⟨by subst e33; rw [sI_w, if_pos ⟨rfl, rfl⟩]; rfl, (n33 _ _ (by omega)).trans q4, (n33 _ _ (by omega)).trans q5⟩, ⟨(n33 _ _ (by omega)).trans w1, w2, fun k hk => (n33 _ _ (by omega)).trans (w3 k hk), w4⟩, fun i h1 h2 => (n33 _ _ (by omega)).trans (q8 i h1 h2)⟩
            · obtain ⟨c, hc, ec⟩ := i5 (Or.inr h29)
              have hexe : exe l ps an na z = xGuard ps (orA l[jF r] (jP r)) r fs z := by
                unfold exe; rw [hF]; dsimp only; rw [hfn, if_pos h29]
              have htf := vTy_ty hok hva hf
              obtain ⟨_, r', k1, _⟩ := htf.2.2 _ _ hty
              rw [← opA_at hpp, ← orA_at hpp, h29] at k1
              have k1 : (tkI (ix (orA l[jF r] (jP r)) % 4) ((jS r).map Prod.fst)).map (fun _ => (jS r).map Prod.fst) = some r' := k1
              obtain ⟨u, hu⟩ : ∃ u, tkI (ix (orA l[jF r] (jP r)) % 4) ((jS r).map Prod.fst) = some u := by
                cases hq : tkI (ix (orA l[jF r] (jP r)) % 4) ((jS r).map Prod.fst) with
                | none => rw [hq] at k1; exact no_so k1
                | some u => exact ⟨u, rfl⟩
              have hta := (tkI_at hu).2.1
              rw [List.length_map] at hta
              unfold xGuard at hexe
              rw [ec, nI_ix (by omega)] at hexe hta
              rw [ec]
              rw [hexe] at rnd
              refine k_guardM hc hm stt.2.2.2.1 hMF hM1 (by omega) hB.2.1.2.2 hta hB.2.2.1 (fun hne s' F' p' w' c' n' => hP204 _ ?_) (fun h0 s' F' a0 a1 a2 => hP204 _ ?_)
              · rw [if_neg hne] at rnd
                refine rnd s' (F'.mono (fun a i h => by unfold dSm at h; unfold dRm; omega)) ?_ (fun x hx => no_so hx) (fun _ => ⟨⟨c', n', hM.2.2.fr (fun a i ha => F'.1 _ _ (by unfold dSm; omega))⟩, (F'.1 _ _ (by unfold dSm; omega)).trans h90, (F'.1 _ _ (by unfold dSm; omega)).trans h91⟩)
                obtain ⟨⟨q1, q2⟩, ⟨q3, q4, q5⟩, ⟨w1, w2, w3, w4⟩, q8⟩ := hB
                exact ⟨⟨(F'.1 _ _ (by unfold dSm; omega)).trans q1, fun a ha => (F'.1 _ _ (by unfold dSm; omega)).trans (q2 a ha)⟩, ⟨(F'.1 _ _ (by unfold dSm; omega)).trans q3, (F'.1 _ _ (by unfold dSm; omega)).trans q4, p'⟩, w', fun i h1 h2 => (F'.1 _ _ (by unfold dSm; omega)).trans (q8 i h1 h2)⟩
              · rw [if_pos h0] at rnd
                refine rnd s' (F'.mono (fun a i h => by unfold dSm at h; unfold dRm; omega)) ?_ (fun x hx => ?_) (fun hx => so_no hx)
                · exact (hB.fr (fun a i ha => F'.1 _ _ (by unfold dSm; omega)) : mBr s' ps S z)
                · have hx := Option.some.inj hx
                  subst hx
                  exact ⟨a0, a1, a2⟩
    rw [hq] at inner
    refine ⟨fun h => ?_, fun h => ?_⟩
    · rw [if_pos h] at inner; exact inner
    · rw [if_neg h] at inner; exact inner
  rw [hq] at main
  refine ⟨fun h => ?_, fun h => ?_⟩
  · rw [if_pos h] at main; exact main
  · rw [if_neg h] at main; exact main
end
