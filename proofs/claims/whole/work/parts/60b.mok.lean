section
variable {l : List Fn} {x : Fn} {n : Nat}
theorem okV.mono {m : Nat} {t : Bool} {v : Int32} (h : okV n t v) (hm : n ≤ m) : okV m t v := fun ht => by obtain ⟨k, h1, h2⟩ := h ht; exact ⟨k, by omega, h2⟩
theorem okS.mono {m : Nat} {st : List Vl} (h : okS n st) (hm : n ≤ m) : okS m st := fun y hy => (h y hy).mono hm
theorem okL2.mono {m : Nat} {lo : Nat → Int32} (h : okL2 n x lo) (hm : n ≤ m) : okL2 m x lo := fun j hj => (h j hj).mono hm
theorem okC.mono {m c : Nat} {r : Fr} (h : okC l n c r) (hm : n ≤ m) : okC l m c r := by
  obtain ⟨h1, h2, h3, h4, h5, h6, h7⟩ := h
  exact ⟨h1, h2, h3, h4, h5, h6.mono hm, h7.mono hm⟩
theorem okCs.mono {m : Nat} (hm : n ≤ m) : ∀ {c : Nat} {fs : List Fr}, okCs l n c fs → okCs l m c fs
  | _, [], h => h
  | c, r :: fs, h => ⟨h.1.mono hm, okCs.mono hm h.2⟩
/-! what instructions do to types -/
theorem chg_int {o v : Nat} {st : List Bool} (h : 6 ≤ o ∧ o ≤ 17) : chg l x o v st = (tkI 2 st).map (fun r => false :: r) := by
  unfold chg
  rw [if_neg (by omega), if_neg (by omega), if_neg (by omega), if_neg (by omega), if_neg (by omega), if_neg (by omega), if_pos (by omega)]
theorem chg_if {o v : Nat} {st : List Bool} (h : o = 19 ∨ o = 20 ∨ o = 28) : chg l x o v st = tkT false st := by
  unfold chg
  rw [if_neg (by omega), if_neg (by omega), if_neg (by omega), if_neg (by omega), if_neg (by omega), if_neg (by omega), if_neg (by omega), if_neg (by omega), if_pos h]
theorem tkQ_at : ∀ {k : Nat} {t r : List Bool}, tkQ x k t = some r → r = t.drop k ∧ k ≤ t.length ∧ ∀ j, j < k → t.getD (k - 1 - j) false = rbit x j
  | 0, t, r, h => by
    rw [tkQ] at h; cases h
    exact ⟨rfl, Nat.zero_le _, fun j hj => by omega⟩
  | k + 1, t, r, h => by
    rw [tkQ, Option.bind_eq_some_iff] at h
    obtain ⟨u, h1, h2⟩ := h
    rw [tkT_some] at h1
    obtain ⟨i1, i2, i3⟩ := tkQ_at h2
    subst h1
    refine ⟨by rw [List.drop_succ_cons]; exact i1, by rw [List.length_cons]; omega, fun j hj => ?_⟩
    by_cases c : j = k
    · subst c; rw [show j + 1 - 1 - j = 0 by omega]; rfl
    · rw [show k + 1 - 1 - j = (k - 1 - j) + 1 by omega, List.getD_cons_succ]
      exact i3 j (by omega)
theorem tkI_at {k : Nat} {t r : List Bool} (h : tkI k t = some r) : r = t.drop k ∧ k ≤ t.length ∧ ∀ j, j < k → t.getD j false = false := by
  rw [tkI_some] at h
  subst h
  refine ⟨?_, ?_, fun j hj => ?_⟩
  · rw [List.drop_left' (by rw [List.length_replicate])]
  · rw [List.length_append, List.length_replicate]; omega
  · rw [List.getD_eq_getElem?_getD, List.getElem?_append_left (by rw [List.length_replicate]; exact hj), List.getElem?_replicate]
    split <;> rfl
theorem map_drop' {st : List Vl} {k : Nat} : (st.drop k).map Prod.fst = (st.map Prod.fst).drop k := List.map_drop.symm ▸ rfl
theorem okS.drop {st : List Vl} {k : Nat} (h : okS n st) : okS n (st.drop k) := fun y hy => h y (List.mem_of_mem_drop hy)
theorem okS.cons {st : List Vl} {y : Vl} (h : okS n st) (hy : okV n y.1 y.2) : okS n (y :: st) := fun q hq => by
  rcases List.mem_cons.mp hq with hq | hq
  · subst hq; exact hy
  · exact h q hq
theorem okV.no {v : Int32} : okV n false v := fun h => absurd h (by decide)
theorem okS.getD {st : List Vl} {k : Nat} (h : okS n st) : okV n (st.getD k v0).1 (st.getD k v0).2 := by
  by_cases c : k < st.length
  · rw [getD_at c]; exact h _ (List.getElem_mem c)
  · rw [List.getD_eq_getElem?_getD, List.getElem?_eq_none (by omega)]; exact okV.no
theorem fst_getD {st : List Vl} {k : Nat} (h : k < st.length) : (st.map Prod.fst).getD k false = (st.getD k v0).1 := by
  rw [getD_at (by rw [List.length_map]; exact h), List.getElem_map, getD_at h]
/-! raising -/
def okW (l : List Fn) (n : Nat) (r : Fr) : Prop := ∃ hf : jF r < l.length, jP r < (fC l[jF r]).length ∧ (∃ t, vTy l (jF r) (jP r) = some t) ∧ okL2 n l[jF r] (jL r)
theorem okC.w {c : Nat} {r : Fr} (h : okC l n c r) : okW l n r := by
  obtain ⟨h1, h2, h3, h4, ⟨t, h5, _⟩, h6, h7⟩ := h
  exact ⟨h1, h2, ⟨t, h5⟩, h7⟩
theorem okT.w {r : Fr} (h : okT l n r) : okW l n r := by
  obtain ⟨h1, h2, h3, h4, h5⟩ := h
  exact ⟨h1, h2, ⟨_, h3⟩, h5⟩
theorem hdf_ty (hok : pgOK l) (hva : vAll l = none) {r : Fr} {c : Int32} {h : Hn} (hw : okW l n r) (hh : hdf l r c = some h) : okT l n (jF r, hG h, [(false, c)], jL r) := by
  obtain ⟨h1, h2, ⟨t, h3⟩, h4⟩ := hw
  unfold hdf at hh
  have h5 := List.find?_some hh
  have h6 := List.mem_of_find?_eq_some hh
  rw [fnA_at h1] at h6
  rw [decide_eq_true_eq] at h5
  have ht := vTy_ty hok hva h1
  obtain ⟨_, _, _, _, c3, _, _⟩ := ht.2.2 _ t h3
  have := c3 h h6 h5.1 h5.2.1
  refine ⟨h1, ((hok.2.2.1 _ h1).2.2.2.2.2.2.2.2.2.2.2 h h6).2.2.1, this, fun y hy => ?_, h4⟩
  have hy : y ∈ [((false, c) : Vl)] := hy
  rw [List.mem_singleton] at hy
  subst hy; exact okV.no
theorem rsd_ok (hok : pgOK l) (hva : vAll l = none) {c : Int32} : ∀ {fs : List Fr} {r : Fr} {fs' : List Fr}, okW l n r → okCs l n (jF r) fs → rsd l c (r :: fs) = some fs' → okFs l n fs' ∧ fs'.length ≤ fs.length + 1
  | fs, r, fs', hw, hc, h => by
    rw [rsd] at h
    cases hd : hdf l r c with
    | some k =>
      rw [hd] at h
      cases h
      exact ⟨⟨hdf_ty hok hva hw hd, hc⟩, Nat.le_refl _⟩
    | none =>
      rw [hd] at h
      cases fs with
      | nil => exact no_so h
      | cons q fs =>
        have := rsd_ok hok hva (fs := fs) (r := q) hc.1.w hc.2 h
        exact ⟨this.1, by rw [List.length_cons]; omega⟩
end
section
variable {l : List Fn} {ps : PS} {an : Nat → Int32} {na : Nat} {z : MS}
theorem rai_ok (hok : pgOK l) (hva : vAll l = none) {c : Int32} {r : Fr} {fs : List Fr} (hz : (fs.length + 1 ≤ aD z ∧ aD z ≤ 40) ∧ okM (aR2 z) (aU z) ∧ (aR2 z).length ≤ aS z ∧ aO z ≤ aS z) (hw : okW l (aR2 z).length r) (hc : okCs l (aR2 z).length (jF r) fs) (hn : (rai l c (r :: fs) z).2 = none) : MOK l (rai l c (r :: fs) z).1 := by
  unfold rai at hn ⊢
  cases hr : rsd l c (r :: fs) with
  | none => rw [hr] at hn; exact so_no hn
  | some fs' =>
    have := rsd_ok hok hva hw hc hr
    refine ⟨this.1, ?_, hz.1.2, hz.2⟩
    show fs'.length ≤ aD z
    have := this.2
    omega
set_option maxHeartbeats 1000000 in
theorem exe_ok (hok : pgOK l) (hva : vAll l = none) (hz : MOK l z) (hn : (exe l ps an na z).2 = none) : MOK l (exe l ps an na z).1 := by
  obtain ⟨hfs, hdp, hd40, hmm, hrs, hos⟩ := hz
  unfold exe at hn ⊢
  cases hF : aF z with
  | nil => rw [hF] at hfs; exact hfs.elim
  | cons r fs =>
    rw [hF] at hn hfs hdp
    dsimp only at hn ⊢
    rw [List.length_cons] at hdp
    obtain ⟨⟨hf, hp, hty, hsk, hlo⟩, hcs⟩ := hfs
    have hfn := fnA_at hf
    rw [hfn] at hn ⊢
    have htf := vTy_ty hok hva hf
    obtain ⟨_, r', k1, k2, k3, k4, k5⟩ := htf.2.2 _ _ hty
    rw [← opA_at hp] at k1 k4 k5
    rw [← orA_at hp] at k1 k4
    have hfo := hok.2.2.1 _ hf
    have hio := hfo.2.2.2.2.2.2.2.2.2.2.1 _ (List.getElem_mem hp)
    rw [show (fC l[jF r])[jP r] = (opA l[jF r] (jP r), orA l[jF r] (jP r)) by rw [opA_at hp, orA_at hp]] at hio
    obtain ⟨i1, i2, i3, i4, i5⟩ := hio
    dsimp only at i1 i2 i3 i4 i5
    have hL12 := hfo.2.2.2.1
    have h12 := hok.2.1
    generalize hO : opA l[jF r] (jP r) = o at *
    generalize hW : orA l[jF r] (jP r) = w at *
    have hww : okW l (aR2 z).length r := ⟨hf, hp, ⟨_, hty⟩, hlo⟩
    -- the next instruction
    have nx : ∀ {m : Nat} (st' : List Vl) (lo' : Nat → Int32), ¬ (o = 18 ∨ o = 27 ∨ o = 28) → st'.map Prod.fst = r' → okS m st' → okL2 m l[jF r] lo' → okT l m (jF r, jP r + 1, st', lo') := by
      intro m st' lo' ho hm hs hl
      obtain ⟨d1, d2⟩ := k5 ho
      exact ⟨hf, d1, by show vTy l (jF r) (jP r + 1) = some (st'.map Prod.fst); rw [hm]; exact d2, hs, hl⟩
    by_cases c29 : o = 29
    · -- a guard
      rw [if_pos c29] at hn ⊢
      rw [c29] at k1
      have k1 : (tkI (ix w % 4) ((jS r).map Prod.fst)).map (fun _ => (jS r).map Prod.fst) = some r' := k1
      have hr' : (jS r).map Prod.fst = r' := by
        cases hq : tkI (ix w % 4) ((jS r).map Prod.fst) with
        | none => rw [hq] at k1; exact no_so k1
        | some u => rw [hq] at k1; exact Option.some.inj k1
      unfold xGuard at hn ⊢
      split at hn
      · exact so_no hn
      · rename_i hne
        rw [if_neg hne]
        exact ⟨⟨nx _ _ (by omega) hr' hsk hlo, hcs⟩, hdp, hd40, hmm, hrs, hos⟩
    rw [if_neg c29] at hn ⊢
    have hbase : (fs.length + 1 ≤ aD (stp1 z) ∧ aD (stp1 z) ≤ 40) ∧ okM (aR2 (stp1 z)) (aU (stp1 z)) ∧ (aR2 (stp1 z)).length ≤ aS (stp1 z) ∧ aO (stp1 z) ≤ aS (stp1 z) := ⟨⟨hdp, hd40⟩, hmm, Nat.le_succ_of_le hrs, Nat.le_succ_of_le hos⟩
    -- raising
    have ra : ∀ {c : Int32} {st' : List Vl}, (rai l c ((jF r, jP r, st', jL r) :: fs) (stp1 z)).2 = none → MOK l (rai l c ((jF r, jP r, st', jL r) :: fs) (stp1 z)).1 := fun hh => rai_ok hok hva hbase ⟨hf, hp, ⟨_, hty⟩, hlo⟩ hcs hh
    -- a plain step
    have pl : ∀ {st' : List Vl} {lo' : Nat → Int32}, ¬ (o = 18 ∨ o = 27 ∨ o = 28) → st'.map Prod.fst = r' → okS (aR2 z).length st' → okL2 (aR2 z).length l[jF r] lo' → MOK l (setF (stp1 z) ((jF r, jP r + 1, st', lo') :: fs)) := fun ho hm hs hl => ⟨⟨nx _ _ ho hm hs hl, hcs⟩, hdp, hd40, hmm, Nat.le_succ_of_le hrs, Nat.le_succ_of_le hos⟩
    unfold xDo at hn ⊢
    by_cases c5 : o ≤ 5
    · rw [if_pos c5] at hn ⊢
      unfold xMove
      rw [hfn]
      have ho : ¬ (o = 18 ∨ o = 27 ∨ o = 28) := by omega
      by_cases c0 : o = 0
      · subst c0
        exact pl (st' := (false, w) :: jS r) (lo' := jL r) ho (Option.some.inj k1) (hsk.cons okV.no) hlo
      by_cases c1 : o = 1
      · subst c1
        have k1 : (match (jS r).map Prod.fst with
          | [] => none
          | _ :: u => some u) = some r' := k1
        refine pl (st' := (jS r).drop 1) (lo' := jL r) ho ?_ hsk.drop hlo
        rw [map_drop']
        cases hm : (jS r).map Prod.fst with
        | nil => rw [hm] at k1; exact no_so k1
        | cons a u => rw [hm] at k1; exact Option.some.inj k1
      by_cases c2 : o = 2
      · subst c2
        have k1 : (match (jS r).map Prod.fst with
          | [] => none
          | a :: u => some (a :: a :: u)) = some r' := k1
        refine pl (st' := (jS r).getD 0 v0 :: jS r) (lo' := jL r) ho ?_ (hsk.cons hsk.getD) hlo
        cases hm : jS r with
        | nil => rw [hm] at k1; exact no_so k1
        | cons a u => rw [hm] at k1; exact Option.some.inj k1
      by_cases c3 : o = 3
      · subst c3
        have k1 : (match (jS r).map Prod.fst with
          | a :: b :: u => some (b :: a :: u)
          | _ => none) = some r' := k1
        refine pl (st' := (jS r).getD 1 v0 :: (jS r).getD 0 v0 :: (jS r).drop 2) (lo' := jL r) ho ?_ ((hsk.drop.cons hsk.getD).cons hsk.getD) hlo
        cases hm : jS r with
        | nil => rw [hm] at k1; exact no_so k1
        | cons a u =>
          cases u with
          | nil => rw [hm] at k1; exact no_so k1
          | cons b u => rw [hm] at k1; exact Option.some.inj k1
      by_cases c4 : o = 4
      · subst c4
        obtain ⟨k, hk, ek⟩ := i2 (Or.inl rfl)
        refine pl (st' := (rbit l[jF r] (ix w), jL r (ix w)) :: jS r) (lo' := jL r) ho (Option.some.inj k1) (hsk.cons ?_) hlo
        rw [ek, nI_ix (by omega)]; exact hlo k (by omega)
      · have c5' : o = 5 := by omega
        subst c5'
        obtain ⟨k, hk, ek⟩ := i2 (Or.inr rfl)
        have k1 : tkT (rbit l[jF r] (ix w)) ((jS r).map Prod.fst) = some r' := k1
        rw [tkT_some] at k1
        refine pl (st' := (jS r).drop 1) (lo' := upF (jL r) (ix w) (tpV (jS r) 0)) ho ?_ hsk.drop (fun j hj => ?_)
        · rw [map_drop', k1]; rfl
        · by_cases c : j = ix w
          · subst c
            rw [upF_at]
            cases hm : jS r with
            | nil => rw [hm] at k1; simp at k1
            | cons a u =>
              rw [hm, List.map_cons] at k1
              have h1 := (List.cons.inj k1).1
              rw [← h1]
              exact hsk a (by rw [hm]; exact List.mem_cons_self ..)
          · rw [upF_ne c]; exact hlo j hj
    rw [if_neg c5] at hn ⊢
    by_cases c17 : o ≤ 17
    · rw [if_pos c17] at hn ⊢
      rw [chg_int ⟨by omega, c17⟩] at k1
      obtain ⟨u, hu, hr⟩ : ∃ u, tkI 2 ((jS r).map Prod.fst) = some u ∧ false :: u = r' := by
        cases hq : tkI 2 ((jS r).map Prod.fst) with
        | none => rw [hq] at k1; exact no_so k1
        | some u => rw [hq] at k1; exact ⟨u, rfl, Option.some.inj k1⟩
      have hu := (tkI_at hu).1
      unfold xInts at hn ⊢
      split at hn
      · rename_i h0; rw [if_pos h0]; exact ra hn
      · rename_i h0; rw [if_neg h0]
        refine pl (st' := (false, wk o (tpV (jS r) 1) (tpV (jS r) 0)) :: (jS r).drop 2) (lo' := jL r) (by omega) ?_ (hsk.drop.cons okV.no) hlo
        rw [List.map_cons, map_drop', ← hr, hu]
    rw [if_neg c17] at hn ⊢
    by_cases c20 : o ≤ 20
    · rw [if_pos c20] at hn ⊢
      have hj : 17 < o ∧ o < 21 := by omega
      have kj := k4 hj
      have hjt := (htf.2.1 _ _ kj).2
      unfold xJump at hn ⊢
      by_cases c18 : o = 18
      · rw [if_pos c18]
        subst c18
        have k1 : (jS r).map Prod.fst = r' := Option.some.inj k1
        exact ⟨⟨⟨hf, hjt, by show vTy l (jF r) (ix w) = _; rw [kj, ← k1]; rfl, hsk, hlo⟩, hcs⟩, hdp, hd40, hmm, Nat.le_succ_of_le hrs, Nat.le_succ_of_le hos⟩
      · rw [if_neg c18]
        rw [chg_if (by omega), tkT_some] at k1
        have hm : ((jS r).drop 1).map Prod.fst = r' := by rw [map_drop', k1]; rfl
        split
        · exact ⟨⟨⟨hf, hjt, by show vTy l (jF r) (ix w) = _; rw [kj, ← hm]; rfl, hsk.drop, hlo⟩, hcs⟩, hdp, hd40, hmm, Nat.le_succ_of_le hrs, Nat.le_succ_of_le hos⟩
        · exact pl (by omega) hm hsk.drop hlo
    rw [if_neg c20] at hn ⊢
    by_cases c21 : o = 21
    · rw [if_pos c21] at hn ⊢
      subst c21
      have k1 : (tkT false ((jS r).map Prod.fst)).map (fun u => true :: u) = some r' := k1
      obtain ⟨u, hu, hr⟩ : ∃ u, tkT false ((jS r).map Prod.fst) = some u ∧ true :: u = r' := by
        cases hq : tkT false ((jS r).map Prod.fst) with
        | none => rw [hq] at k1; exact no_so k1
        | some u => rw [hq] at k1; exact ⟨u, rfl, Option.some.inj k1⟩
      rw [tkT_some] at hu
      unfold xNew at hn ⊢
      split at hn
      · rename_i h0; rw [if_pos h0]; exact ra hn
      · rename_i h0; rw [if_neg h0]
        have h1 : ¬ tpV (jS r) 0 < 0 := fun h => h0 (Or.inl h)
        have h2 : ¬ nI 256 < tpV (jS r) 0 := fun h => h0 (Or.inr (Or.inl h))
        have h3 : aU z + ix (tpV (jS r) 0) ≤ 4096 := by
          apply Decidable.byContradiction
          intro h; exact h0 (Or.inr (Or.inr (by show 4096 < aU z + _; omega)))
        have h256 : ix (tpV (jS r) 0) ≤ 256 := by
          have := nI_toIntU (n := 256) (by omega)
          rw [Int32.lt_iff_toInt_lt, this] at h2
          rw [ix_eq]; omega
        have e1 : (aR2 z ++ [(aU z, ix (tpV (jS r) 0))]).length = (aR2 z).length + 1 := by rw [List.length_append]; rfl
        have hmap : ((true, nI ((aR2 z).length + 1)) :: (jS r).drop 1 : List Vl).map Prod.fst = r' := by rw [List.map_cons, map_drop', hu, ← hr]; rfl
        refine ⟨?_, hdp, hd40, ⟨h3, fun y hy => ?_⟩, ?_, Nat.le_succ_of_le hos⟩
        · show okFs l (aR2 z ++ [(aU z, ix (tpV (jS r) 0))]).length _
          rw [e1]
          refine ⟨nx _ _ (by omega) hmap ((hsk.drop.mono (Nat.le_succ _)).cons (fun _ => ⟨_, Nat.le_refl _, rfl⟩)) (hlo.mono (Nat.le_succ _)), hcs.mono (Nat.le_succ _)⟩
        · have hy : y ∈ aR2 z ++ [(aU z, ix (tpV (jS r) 0))] := hy
          show y.1 + y.2 ≤ aU z + ix (tpV (jS r) 0) ∧ _
          rw [List.mem_append, List.mem_singleton] at hy
          rcases hy with hy | hy
          · have := hmm.2 y hy; exact ⟨by omega, this.2⟩
          · subst hy; exact ⟨Nat.le_refl _, h256⟩
        · show (aR2 z ++ [(aU z, ix (tpV (jS r) 0))]).length ≤ aS z + 1
          rw [e1]; omega
    rw [if_neg c21] at hn ⊢
    by_cases c22 : o = 22
    · rw [if_pos c22] at hn ⊢
      subst c22
      have k1 : ((tkT false ((jS r).map Prod.fst)).bind (tkT true)).map (fun u => false :: u) = some r' := k1
      obtain ⟨u, hu, hr⟩ : ∃ u, (tkT false ((jS r).map Prod.fst)).bind (tkT true) = some u ∧ false :: u = r' := by
        cases hq : (tkT false ((jS r).map Prod.fst)).bind (tkT true) with
        | none => rw [hq] at k1; exact no_so k1
        | some u => rw [hq] at k1; exact ⟨u, rfl, Option.some.inj k1⟩
      rw [Option.bind_eq_some_iff] at hu
      obtain ⟨q, hq1, hq2⟩ := hu
      rw [tkT_some] at hq1 hq2
      unfold xGet at hn ⊢
      split at hn
      · rename_i h0; rw [if_pos h0]; exact ra hn
      · rename_i h0; rw [if_neg h0]
        refine pl (st' := _ :: (jS r).drop 2) (lo' := jL r) (by omega) ?_ (hsk.drop.cons okV.no) hlo
        rw [List.map_cons, map_drop', hq1, hq2, ← hr]; rfl
    rw [if_neg c22] at hn ⊢
    by_cases c23 : o = 23
    · rw [if_pos c23] at hn ⊢
      subst c23
      have k1 : (tkI 2 ((jS r).map Prod.fst)).bind (tkT true) = some r' := k1
      rw [Option.bind_eq_some_iff] at k1
      obtain ⟨q, hq1, hq2⟩ := k1
      rw [tkI_some] at hq1
      rw [tkT_some] at hq2
      unfold xPut at hn ⊢
      split at hn
      · rename_i h0; rw [if_pos h0]; exact ra hn
      · rename_i h0; rw [if_neg h0]
        refine ⟨⟨nx _ _ (by omega) ?_ hsk.drop hlo, hcs⟩, hdp, hd40, hmm, Nat.le_succ_of_le hrs, Nat.le_succ_of_le hos⟩
        rw [map_drop', hq1, hq2]; rfl
    rw [if_neg c23] at hn ⊢
    by_cases c24 : o = 24
    · rw [if_pos c24] at hn ⊢
      subst c24
      have k1 : (tkT true ((jS r).map Prod.fst)).map (fun u => false :: u) = some r' := k1
      obtain ⟨u, hu, hr⟩ : ∃ u, tkT true ((jS r).map Prod.fst) = some u ∧ false :: u = r' := by
        cases hq : tkT true ((jS r).map Prod.fst) with
        | none => rw [hq] at k1; exact no_so k1
        | some u => rw [hq] at k1; exact ⟨u, rfl, Option.some.inj k1⟩
      rw [tkT_some] at hu
      unfold xSize
      refine pl (st' := _ :: (jS r).drop 1) (lo' := jL r) (by omega) ?_ (hsk.drop.cons okV.no) hlo
      rw [List.map_cons, map_drop', hu, ← hr]; rfl
    rw [if_neg c24] at hn ⊢
    by_cases c25 : o = 25
    · rw [if_pos c25] at hn ⊢
      subst c25
      obtain ⟨c, hc, ec⟩ := i4 rfl
      have ecx : ix w = c := by rw [ec, nI_ix (by omega)]
      have k1 : (tkQ (l.getD (ix w) dFn) (fP (l.getD (ix w) dFn)) ((jS r).map Prod.fst)).map (fun u => if fR (l.getD (ix w) dFn) = 0 then u else rTy (l.getD (ix w) dFn) :: u) = some r' := k1
      obtain ⟨u, hu, hr⟩ : ∃ u, tkQ (l.getD (ix w) dFn) (fP (l.getD (ix w) dFn)) ((jS r).map Prod.fst) = some u ∧ (if fR (l.getD (ix w) dFn) = 0 then u else rTy (l.getD (ix w) dFn) :: u) = r' := by
        cases hq : tkQ (l.getD (ix w) dFn) (fP (l.getD (ix w) dFn)) ((jS r).map Prod.fst) with
        | none => rw [hq] at k1; exact no_so k1
        | some u => rw [hq] at k1; exact ⟨u, rfl, Option.some.inj k1⟩
      have hqa := tkQ_at hu
      unfold xCall at hn ⊢
      split at hn
      · rename_i h0; rw [if_pos h0]; exact ra (st' := jS r) hn
      · rename_i h0; rw [if_neg h0]
        have hfc := fnA_at hc
        have htc := vTy_ty hok hva hc
        rw [ecx]
        rw [ecx] at hu hqa
        rw [show l.getD c dFn = fnA l c from rfl] at hu hqa
        have hP4 := (hok.2.2.1 c hc).1
        refine ⟨⟨⟨hc, (htc.2.1 0 [] htc.1).2, htc.1, fun y hy => by simp [jS] at hy, fun j hj => ?_⟩, ⟨hf, hp, hO, hW.trans ec, ⟨_, hty, ?_⟩, hsk.drop, hlo⟩, hcs⟩, ?_, ?_, hmm, Nat.le_succ_of_le hrs, Nat.le_succ_of_le hos⟩
        · show okV _ (rbit l[c] j) (if j < fP (fnA l c) then tpV (jS r) (fP (fnA l c) - 1 - j) else 0)
          by_cases cj : j < fP (fnA l c)
          · rw [if_pos cj]
            have h3 := hqa.2.2 j cj
            have hlen := hqa.2.1
            rw [List.length_map] at hlen
            rw [fst_getD (by omega)] at h3
            rw [hfc] at h3 ⊢
            rw [← h3]; exact hsk.getD
          · rw [if_neg cj]; exact fun _ => ⟨0, Nat.zero_le _, rfl⟩
        · show tkQ (fnA l c) (fP (fnA l c)) _ = some (((jS r).drop (fP (fnA l c))).map Prod.fst)
          rw [map_drop', ← hqa.1]; exact hu
        · show fs.length + 1 + 1 ≤ max (aD z) (fs.length + 2)
          omega
        · show max (aD z) (fs.length + 2) ≤ 40
          omega
    rw [if_neg c25] at hn ⊢
    by_cases c26 : o = 26
    · rw [if_pos c26] at hn ⊢
      subst c26
      have k1 : (tkI (ix w % 4) ((jS r).map Prod.fst)).map (fun u => false :: u) = some r' := k1
      obtain ⟨u, hu, hr⟩ : ∃ u, tkI (ix w % 4) ((jS r).map Prod.fst) = some u ∧ false :: u = r' := by
        cases hq : tkI (ix w % 4) ((jS r).map Prod.fst) with
        | none => rw [hq] at k1; exact no_so k1
        | some u => rw [hq] at k1; exact ⟨u, rfl, Option.some.inj k1⟩
      unfold xHost
      refine ⟨⟨nx _ _ (by omega) ?_ (hsk.drop.cons okV.no) hlo, hcs⟩, hdp, hd40, hmm, Nat.le_succ_of_le hrs, ?_⟩
      · rw [List.map_cons, map_drop', ← (tkI_at hu).1, ← hr]
      · show aO z + 1 ≤ aS z + 1
        omega
    rw [if_neg c26] at hn ⊢
    by_cases c27 : o = 27
    · rw [if_pos c27] at hn ⊢
      subst c27
      unfold xRet at hn ⊢
      cases fs with
      | nil => exact so_no hn
      | cons q fs =>
        dsimp only
        rw [hfn]
        obtain ⟨⟨qf, qi, q1, q2, ⟨t, q3, q4⟩, q5, q6⟩, qcs⟩ := hcs
        rw [List.length_cons] at hdp
        have htq := vTy_ty hok hva qf
        obtain ⟨_, r2, m1, m2, m3, m4, m5⟩ := htq.2.2 _ t q3
        rw [← opA_at qi] at m1 m5
        rw [← orA_at qi] at m1
        rw [q1, q2, nI_ix (by omega)] at m1
        have m1 : (tkQ (fnA l (jF r)) (fP (fnA l (jF r))) t).map (fun u => if fR (fnA l (jF r)) = 0 then u else rTy (fnA l (jF r)) :: u) = some r2 := m1
        rw [q4] at m1
        have m1 : (if fR (fnA l (jF r)) = 0 then (jS q).map Prod.fst else rTy (fnA l (jF r)) :: (jS q).map Prod.fst) = r2 := Option.some.inj m1
        rw [hfn] at m1
        have k1 : (if fR l[jF r] = 0 then some ((jS r).map Prod.fst) else tkT (rTy l[jF r]) ((jS r).map Prod.fst)) = some r' := k1
        obtain ⟨d1, d2⟩ := m5 (by rw [q1]; omega)
        refine ⟨⟨⟨qf, d1, ?_, ?_, q6⟩, qcs⟩, ?_, hd40, hmm, Nat.le_succ_of_le hrs, Nat.le_succ_of_le hos⟩
        · show vTy l (jF q) (jP q + 1) = some (List.map Prod.fst (if fR l[jF r] = 0 then jS q else (rTy l[jF r], tpV (jS r) 0) :: jS q))
          rw [d2, ← m1]
          by_cases c : fR l[jF r] = 0
          · rw [if_pos c, if_pos c]
          · rw [if_neg c, if_neg c, List.map_cons]
        · show okS _ (if fR l[jF r] = 0 then jS q else (rTy l[jF r], tpV (jS r) 0) :: jS q)
          by_cases c : fR l[jF r] = 0
          · rw [if_pos c]; exact q5
          · rw [if_neg c]
            rw [if_neg c, tkT_some] at k1
            refine q5.cons ?_
            cases hm : jS r with
            | nil => rw [hm] at k1; simp at k1
            | cons a u =>
              rw [hm, List.map_cons] at k1
              have h1 := (List.cons.inj k1).1
              show okV _ (rTy l[jF r]) a.2
              rw [← h1]
              exact hsk a (by rw [hm]; exact List.mem_cons_self ..)
        · show fs.length + 1 ≤ aD z
          omega
    rw [if_neg c27] at hn ⊢
    exact ra hn
end
