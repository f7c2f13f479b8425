theorem bt_nI {n k : Nat} (hk : k < 32) : bt (nI n) k = n.testBit k := by
  unfold bt
  show (BitVec.ofNat 32 n).getLsbD k = _
  rw [BitVec.getLsbD_ofNat, decide_eq_true hk, Bool.true_and]
theorem rb_bit {x : Fn} {k : Nat} (hk : k < 32) : (nI (fB x) >>> (nI k &&& 31)) &&& 1 = bI (rbit x k) := by
  rw [bit_at hk, bt_nI hk]; unfold rbit bI; rfl
theorem rTy_bI {x : Fn} (h : fR x ≤ 2) (h0 : fR x ≠ 0) : nI (fR x) - 1 = bI (rTy x) := by
  rw [nI_p (by omega)]
  unfold rTy
  by_cases c : fR x = 2
  · rw [decide_eq_true c, c]; rfl
  · rw [decide_eq_false c, show fR x = 1 by omega]; rfl
theorem chg_arith {l : List Fn} {x : Fn} {o v : Nat} {st : List Bool} (h1 : 5 < o) (h2 : o < 18) : chg l x o v st = (tkI 2 st).map (fun r => false :: r) := by
  unfold chg
  rw [if_neg (by omega), if_neg (by omega), if_neg (by omega), if_neg (by omega), if_neg (by omega), if_neg (by omega), if_pos h2]
section
variable {s : yS}
theorem k_moves {q f o : Nat} {v : Int32} {l : List Fn} {st : List Bool} {Q : Int32 → yS → Prop} (hq : q ≤ 2) (hf : f < l.length) (hp : pgM s q l) (hok : pgOK l) (hi : iOK (fL l[f]) (fC l[f]).length l.length (o, v)) (h : skM s st) (hl : st.length ≤ 16)
    (H1 : ∀ r, chg l l[f] o (ix v) st = some r → ∀ s', frM dHk s s' → skM s' r → Q 1 s') (H0 : chg l l[f] o (ix v) st = none → ∀ s', frM dHk s s' → Q 0 s') : W_X12_moves s (nI q) (nI f) (nI o) v Q := by
  obtain ⟨ok1, ok2, ok3, ok4⟩ := hok
  have hfo := ok3 f hf
  obtain ⟨i1, i2, i3, i4, i5⟩ := hi
  dsimp only at i1 i2 i3 i4 i5
  have hfm := hp.2 f hf
  have hL12 := hfo.2.2.2.1
  have hR2 := hfo.2.2.2.2.2.1
  have hc : ∀ k, k ≤ 29 → (nI o = nI k ↔ o = k) := fun k hk => nI_inj (by omega) (by omega)
  have hc0 : nI o = 0 ↔ o = 0 := hc 0 (by omega)
  have hc1 : nI o = 1 ↔ o = 1 := hc 1 (by omega)
  have hin1 : vp_in (nI (12 * q + f)) 36 := nI_inU (by omega) (by omega)
  unfold W_X12_moves
  intro x1 e1
  rw [nI_mul, nI_addU] at e1
  subst e1
  rw [nI_ix (n := 12 * q + f) (by omega), hc0, hc1, hc 2 (by omega), hc 3 (by omega), hc 4 (by omega), hc 5 (by omega), hc 19 (by omega), hc 20 (by omega), hc 28 (by omega), hc 21 (by omega), hc 22 (by omega), hc 23 (by omega), hc 24 (by omega), hc 25 (by omega), hc 26 (by omega), hc 27 (by omega), hc 29 (by omega), nI_leU (by omega) (by omega), hfm.2.2.2.1]
  -- a single take
  have one : ∀ t, chg l l[f] o (ix v) st = tkT t st → W_X12_takes s (bI t) (fun r2 s3 => zb r2 ∧ Q r2 s3) := by
    intro t ht
    refine k_takes h (by omega) (fun r hr s3 F3 k3 => ⟨Or.inr rfl, H1 r (ht.trans hr) s3 F3 k3⟩) (fun hr s3 F3 => ⟨Or.inl rfl, H0 (ht.trans hr) s3 F3⟩)
  -- a take and a put
  have onep : ∀ t u, chg l l[f] o (ix v) st = (tkT t st).map (fun r => u :: r) → W_X12_takes s (bI t) (fun r54 s55 => W_X12_puts s55 (bI u) (fun s56 => zb r54 ∧ Q r54 s56)) := by
    intro t u ht
    refine k_takes h (by omega) (fun r hr s3 F3 k3 => ?_) (fun hr s3 F3 => ?_)
    · refine k_puts k3 (fun s4 F4 k4 => ⟨Or.inr rfl, H1 _ (by rw [ht, hr]; rfl) s4 (F3.trans F4) k4⟩)
    · refine k_putsAny (fun s4 F4 => ⟨Or.inl rfl, H0 (by rw [ht, hr]; rfl) s4 (F3.trans F4)⟩)
  -- ints and a put
  have intp : ∀ n, n ≤ 4 → chg l l[f] o (ix v) st = (tkI n st).map (fun r => false :: r) → W_X12_takesInts s (nI n) (fun r58 s59 => W_X12_puts s59 0 (fun s60 => zb r58 ∧ Q r58 s60)) := by
    intro n hn ht
    refine k_takesInts h (by omega) hn (fun r hr s3 F3 k3 => ?_) (fun hr s3 F3 => ?_)
    · refine k_puts (t := false) k3 (fun s4 F4 k4 => ⟨Or.inr rfl, H1 _ (by rw [ht, hr]; rfl) s4 (F3.trans F4) k4⟩)
    · refine k_putsAny (fun s4 F4 => ⟨Or.inl rfl, H0 (by rw [ht, hr]; rfl) s4 (F3.trans F4)⟩)
  refine ⟨fun n0 => ⟨fun n1 => ⟨fun n2 => ⟨fun n3 => ⟨fun n4 => ⟨fun n5 => ⟨fun h18 => ?_, fun h18 => intp 2 (by omega) (chg_arith (by omega) (by omega))⟩, fun h5 => ?_⟩, fun h4 => ?_⟩, fun h3 => ?_⟩, fun h2 => ?_⟩, fun h1 => ?_⟩, fun h0 => ?_⟩
  · -- from 18 on
    intro P283 hP283
    have h283 : (o = 19 ∨ o = 20 ∨ o = 28) → P283 := fun hh => hP283 (one false (by
      unfold chg
      rw [if_neg n0, if_neg n1, if_neg n2, if_neg n3, if_neg n4, if_neg n5, if_neg (by omega), if_neg (by omega), if_pos hh]))
    refine ⟨fun hh => h283 (Or.inl hh), fun n19 => ⟨fun hh => h283 (Or.inr (Or.inl hh)), fun n20 => ⟨fun n28 => ?_, fun hh => h283 (Or.inr (Or.inr hh))⟩⟩⟩
    refine ⟨fun n21 => ⟨fun n22 => ⟨fun n23 => ⟨fun n24 => ⟨fun n25 => ⟨fun n26 => ?_, fun h26 => ?_⟩, fun h25 => ?_⟩, fun h24 => ?_⟩, fun h23 => ?_⟩, fun h22 => ?_⟩, fun h21 => ?_⟩
    · -- 27, 29, 18
      intro P552 hP552
      have h552 : (o = 18 ∨ o = 29 ∨ (o = 27 ∧ fR l[f] = 0)) → P552 := by
        intro hh
        apply hP552
        refine ⟨fun n29 => ?_, fun h29 => ?_⟩
        · refine H1 st ?_ s frM.rfl' h
          rcases hh with h18' | h29' | ⟨h27, hr⟩
          · subst h18'; rfl
          · exact absurd h29' n29
          · subst h27
            show (if fR l[f] = 0 then some st else tkT (rTy l[f]) st) = some st
            rw [if_pos hr]
        · obtain ⟨k, hk, ek⟩ := i5 (Or.inr h29)
          subst h29
          rw [ek, nI_mod (by omega) (by omega)]
          have hchg : chg l l[f] 29 (ix v) st = (tkI (k % 4) st).map (fun _ => st) := by
            rw [ek, nI_ix (by omega)]; rfl
          have hk4 : k % 4 < 4 := Nat.mod_lt _ (by omega)
          have puts0 : ∀ (r5 : Int32) (q n : Nat) (u : List Bool) (s8 : yS), n + q = k % 4 → r5 = 1 → frM dHk s s8 → skM s8 (List.replicate n false ++ u) → tkI (k % 4) st = some u → ∀ P571 : Int32 → yS → Prop, (∀ (x7 : Int32) (s8 : yS), (((nI (k % 4) ≤ x7 → zb r5 ∧ Q r5 s8)
                    ∧ (¬ nI (k % 4) ≤ x7 → W_X12_puts s8 0 
                     (fun s10 => ∀ x11 : Int32, x11 = (x7 + 1) → 
                     P571 x11 s10)))) → P571 x7 s8) → P571 (nI n) s8 := by
            intro r5 q
            induction q with
            | zero =>
              intro n u s8 hn hr5 F8 k8 htk P571 hP571
              apply hP571
              rw [nI_leU (by omega) (by omega)]
              refine ⟨fun _ => ⟨Or.inr hr5, ?_⟩, fun hz => absurd (by omega) hz⟩
              subst hr5
              refine H1 st (by rw [hchg, htk]; rfl) s8 F8 ?_
              rw [tkI_some] at htk
              rw [show n = k % 4 by omega, ← htk] at k8; exact k8
            | succ q ih =>
              intro n u s8 hn hr5 F8 k8 htk P571 hP571
              apply hP571
              rw [nI_leU (by omega) (by omega)]
              refine ⟨fun hz => absurd hz (by omega), fun _ => k_puts (t := false) k8 (fun s10 F10 k10 => ?_)⟩
              intro x11 e11; subst e11; rw [nI_s]
              exact ih (n + 1) u s10 (by omega) hr5 (F8.trans F10) k10 htk P571 hP571
          have putsA : ∀ (q n : Nat) (s8 : yS), n + q = k % 4 → frM dHk s s8 → tkI (k % 4) st = none → ∀ P571 : Int32 → yS → Prop, (∀ (x7 : Int32) (s8 : yS), (((nI (k % 4) ≤ x7 → zb 0 ∧ Q 0 s8)
                    ∧ (¬ nI (k % 4) ≤ x7 → W_X12_puts s8 0 
                     (fun s10 => ∀ x11 : Int32, x11 = (x7 + 1) → 
                     P571 x11 s10)))) → P571 x7 s8) → P571 (nI n) s8 := by
            intro q
            induction q with
            | zero =>
              intro n s8 hn F8 htk P571 hP571
              apply hP571
              rw [nI_leU (by omega) (by omega)]
              exact ⟨fun _ => ⟨Or.inl rfl, H0 (by rw [hchg, htk]; rfl) s8 F8⟩, fun hz => absurd (by omega) hz⟩
            | succ q ih =>
              intro n s8 hn F8 htk P571 hP571
              apply hP571
              rw [nI_leU (by omega) (by omega)]
              refine ⟨fun hz => absurd hz (by omega), fun _ => k_putsAny (fun s10 F10 => ?_)⟩
              intro x11 e11; subst e11; rw [nI_s]
              exact ih (n + 1) s10 (by omega) (F8.trans F10) htk P571 hP571
          refine k_takesInts h (by omega) (by omega) (fun r hr s6 F6 k6 => ?_) (fun hr s6 F6 => ?_)
          · exact puts0 1 (k % 4) 0 r s6 (by omega) rfl F6 k6 hr
          · exact putsA (k % 4) 0 s6 (by omega) F6 hr
      refine ⟨fun n27 => h552 (by omega), fun h27 => ⟨hin1, fun hle => ?_, fun hgt => ?_⟩⟩
      · have : fR l[f] = 0 := by rw [nI_0U, nI_leU (by omega) (by omega)] at hle; omega
        exact h552 (Or.inr (Or.inr ⟨h27, this⟩))
      · have hr0 : fR l[f] ≠ 0 := fun hh => hgt (by rw [hh]; decide)
        refine ⟨hin1, ?_⟩
        rw [rTy_bI hR2 hr0]
        refine one (rTy l[f]) ?_
        subst h27
        show (if fR l[f] = 0 then some st else tkT (rTy l[f]) st) = _
        rw [if_neg hr0]
    · -- a call outside
      obtain ⟨k, hk, ek⟩ := i5 (Or.inl h26)
      have hk4 : k % 4 < 4 := Nat.mod_lt _ (by omega)
      rw [ek, nI_mod (by omega) (by omega)]
      refine intp (k % 4) (by omega) ?_
      rw [ek, nI_ix (by omega)]; subst h26; rfl
    · -- a call
      obtain ⟨k, hk, ek⟩ := i4 h25
      have hy := ok3 k hk
      have hym := hp.2 k hk
      have hyP := hy.1
      have hyR := hy.2.2.2.2.2.1
      have hchg : chg l l[f] o (ix v) st = (tkQ l[k] (fP l[k]) st).map (fun r => if fR l[k] = 0 then r else rTy l[k] :: r) := by
        rw [ek, nI_ix (by omega)]; subst h25
        show (tkQ (l.getD k dFn) (fP (l.getD k dFn)) st).map _ = _
        rw [getD_at hk]
      rw [ek, nI_mul, nI_addU]
      intro x21 e21
      subst e21
      rw [nI_ix (n := 12 * q + k) (by omega), hym.1]
      refine ⟨nI_inU (by omega) (by omega), ?_⟩
      intro P430 hP430 x37 e37
      subst e37
      have neg : ∀ n, n ≤ 4 → (nI n - 1 < 0 ↔ n = 0) := by
        intro n hn
        have : ∀ n ∈ List.range 5, (nI n - 1 < 0 ↔ n = 0) := by decide
        exact this n (List.mem_range.mpr (by omega))
      have dec : ∀ n, (nI (n + 1) - 1) + (-1) = nI n - 1 := by
        intro n
        rw [nI_p (by omega), Nat.add_sub_cancel]; exact (Int32.sub_eq_add_neg (nI n) 1).symm
      have res : ∀ s25 : yS, frM dHk s s25 → sI s25 182 (12 * q + k) = nI (fR l[k]) := fun s25 F25 => (F25.1 _ _ (by unfold dHk; omega)).trans hym.2.2.2.1
      have bad : ∀ (n : Nat) (s25 : yS), n ≤ 4 → tkQ l[k] (fP l[k]) st = none → frM dHk s s25 → P430 0 (nI n - 1) s25 := by
        intro n
        induction n with
        | zero =>
          intro s25 hn hno F25
          apply hP430
          rw [res s25 F25]
          refine ⟨fun _ => ⟨nI_inU (by omega) (by omega), fun _ => ⟨Or.inl rfl, H0 (by rw [hchg, hno]; rfl) s25 F25⟩, fun _ => ⟨nI_inU (by omega) (by omega), k_putsAny (fun s29 F29 => ⟨Or.inl rfl, H0 (by rw [hchg, hno]; rfl) s29 (F25.trans F29)⟩)⟩⟩, fun hh => absurd ((neg 0 (by omega)).mpr rfl) hh⟩
        | succ n ih =>
          intro s25 hn hno F25
          apply hP430
          refine ⟨fun hh => absurd ((neg (n + 1) hn).mp hh) (by omega), fun _ => ?_⟩
          intro P460 hP460
          refine ⟨fun _ => hP460 _ _ ?_, fun hz => absurd rfl hz⟩
          rw [dec]
          intro x33 e33; subst e33
          exact ih s25 (by omega) hno F25
      suffices hL : ∀ (n : Nat) (u : List Bool) (s25 : yS), n ≤ fP l[k] → tkQ l[k] (fP l[k]) st = tkQ l[k] n u → u.length ≤ 16 → frM dHk s s25 → skM s25 u → P430 1 (nI n - 1) s25 from hL (fP l[k]) st s (by omega) rfl hl frM.rfl' h
      intro n
      induction n with
      | zero =>
        intro u s25 hn he hu F25 k25
        apply hP430
        rw [res s25 F25]
        have he : tkQ l[k] (fP l[k]) st = some u := he
        refine ⟨fun _ => ⟨nI_inU (by omega) (by omega), fun hle => ⟨Or.inr rfl, H1 u ?_ s25 F25 k25⟩, fun hgt => ⟨nI_inU (by omega) (by omega), ?_⟩⟩, fun hh => absurd ((neg 0 (by omega)).mpr rfl) hh⟩
        · have : fR l[k] = 0 := by rw [nI_0U, nI_leU (by omega) (by omega)] at hle; omega
          rw [hchg, he]; show some (if fR l[k] = 0 then u else _) = _; rw [if_pos this]
        · have hr0 : fR l[k] ≠ 0 := fun hh => hgt (by rw [hh]; decide)
          rw [rTy_bI hyR hr0]
          refine k_puts k25 (fun s29 F29 k29 => ⟨Or.inr rfl, H1 _ ?_ s29 (F25.trans F29) k29⟩)
          rw [hchg, he]; show some (if fR l[k] = 0 then u else _) = _; rw [if_neg hr0]
      | succ n ih =>
        intro u s25 hn he hu F25 k25
        rw [tkQ] at he
        apply hP430
        refine ⟨fun hh => absurd ((neg (n + 1) (by omega)).mp hh) (by omega), fun _ => ?_⟩
        intro P460 hP460
        refine ⟨fun hz => absurd hz (by decide), fun _ => ?_⟩
        have rb25 : sI s25 181 (12 * q + k) = nI (fB l[k]) := (F25.1 _ _ (by unfold dHk; omega)).trans hym.2.2.1
        unfold W_X12_isRow
        rw [nI_ix (n := 12 * q + k) (by omega), rb25, nI_p (by omega), Nat.add_sub_cancel, rb_bit (by omega)]
        refine ⟨nI_inU (by omega) (by omega), ?_⟩
        refine k_takes k25 (by omega) (fun r hr s36 F36 k36 => ?_) (fun hr s36 F36 => ?_)
        · refine ⟨fun hz => absurd hz (by decide), fun _ => hP460 _ _ ?_⟩
          intro x33 e33
          have e33' : x33 = nI n - 1 := by rw [e33]; exact dec n
          subst e33'
          rw [hr] at he
          have := tkT_len hr
          exact ih r s36 (by omega) he (by omega) (F25.trans F36) k36
        · refine ⟨fun _ => hP460 _ _ ?_, fun hz => absurd rfl hz⟩
          intro x33 e33
          have e33' : x33 = nI n - 1 := by rw [e33]; exact dec n
          subst e33'
          rw [hr] at he
          exact bad n s36 (by omega) he (F25.trans F36)
    · subst h24; exact onep true false rfl
    · -- PUT
      have hchg : chg l l[f] o (ix v) st = (tkI 2 st).bind (tkT true) := by subst h23; rfl
      refine k_takesInts (n := 2) h (by omega) (by omega) (fun r hr s3 F3 k3 => ?_) (fun hr s3 F3 => ⟨fun _ => H0 (by rw [hchg, hr]; rfl) s3 F3, fun hz => absurd rfl hz⟩)
      have := tkI_len hr
      refine ⟨fun hz => absurd hz (by decide), fun _ => ?_⟩
      refine k_takes (t := true) k3 (by omega) (fun r2 hr2 s4 F4 k4 => ⟨fun hz => absurd hz (by decide), fun _ => H1 r2 (by rw [hchg, hr]; exact hr2) s4 (F3.trans F4) k4⟩) (fun hr2 s4 F4 => ⟨fun _ => H0 (by rw [hchg, hr]; exact hr2) s4 (F3.trans F4), fun hz => absurd rfl hz⟩)
    · -- GET
      have hchg : chg l l[f] o (ix v) st = ((tkT false st).bind (tkT true)).map (fun r => false :: r) := by subst h22; rfl
      have noo : ∀ s3, ((tkT false st).bind (tkT true)) = none → frM dHk s s3 → W_X12_puts s3 0 (fun s50 => zb 0 ∧ Q 0 s50) := fun s3 hn F3 => k_putsAny (fun s4 F4 => ⟨Or.inl rfl, H0 (by rw [hchg, hn]; rfl) s4 (F3.trans F4)⟩)
      refine k_takes (t := false) h (by omega) (fun r hr s3 F3 k3 => ?_) (fun hr s3 F3 => ?_)
      · intro P341 hP341
        have := tkT_len hr
        refine ⟨fun hz => absurd hz (by decide), fun _ => ?_⟩
        refine k_takes (t := true) k3 (by omega) (fun r2 hr2 s4 F4 k4 => ⟨fun hz => absurd hz (by decide), fun _ => hP341 _ _ ?_⟩) (fun hr2 s4 F4 => ⟨fun _ => hP341 _ _ (noo s4 (by rw [hr]; exact hr2) (F3.trans F4)), fun hz => absurd rfl hz⟩)
        refine k_puts (t := false) k4 (fun s5 F5 k5 => ⟨Or.inr rfl, H1 _ ?_ s5 ((F3.trans F4).trans F5) k5⟩)
        rw [hchg, hr]; show (tkT true r).map _ = _; rw [hr2]; rfl
      · intro P341 hP341
        exact ⟨fun _ => hP341 _ _ (noo s3 (by rw [hr]; rfl) F3), fun hz => absurd rfl hz⟩
    · subst h21; exact onep false true rfl
  · -- STORE
    obtain ⟨k, hk, ek⟩ := i2 (Or.inr h5)
    unfold W_X12_isRow
    rw [nI_ix (n := 12 * q + f) (by omega), hfm.2.2.1, ek, rb_bit (by omega)]
    refine ⟨hin1, one _ ?_⟩
    rw [ek, nI_ix (by omega)]; subst h5; rfl
  · -- LOAD
    obtain ⟨k, hk, ek⟩ := i2 (Or.inl h4)
    unfold W_X12_isRow
    rw [nI_ix (n := 12 * q + f) (by omega), hfm.2.2.1, ek, rb_bit (by omega)]
    refine ⟨hin1, k_puts h (fun s' F' k' => H1 _ ?_ s' F' k')⟩
    rw [ek, nI_ix (by omega)]; subst h4; rfl
  · -- SWAP
    subst h3
    intro P104 hP104
    rw [h.1]
    have le1 : nI st.length ≤ 1 ↔ st.length ≤ 1 := nI_leU (b := 1) (by omega) (by omega)
    rw [le1]
    refine ⟨fun hle => hP104 _ ?_, fun hgt => hP104 _ ?_⟩
    · intro P128 hP128
      have hno : chg l l[f] 3 (ix v) st = none := by
        match st, hle with
        | [], _ => rfl
        | [a], _ => rfl
        | a :: b :: r, hh => simp at hh
      refine ⟨fun _ => hP128 _ ?_, fun hz => absurd rfl hz⟩
      intro P152 hP152
      refine ⟨fun _ => hP152 _ ?_, fun hz => absurd rfl hz⟩
      intro P180 hP180
      exact ⟨fun _ => hP180 _ _ ⟨fun _ => ⟨Or.inl rfl, H0 hno s frM.rfl'⟩, fun hz => absurd rfl hz⟩, fun hz => absurd rfl hz⟩
    · match st, hgt, h, hl, H1, H0 with
      | [], hh, _, _, _, _ => exact absurd (by simp) hh
      | [a], hh, _, _, _, _ => exact absurd (by simp) hh
      | a :: b :: r, hh, h, hl, H1, H0 =>
        have hl' : r.length ≤ 14 := by simp at hl; omega
        intro P128 hP128
        have e1 : nI (a :: b :: r).length - 1 = nI (b :: r).length := by rw [List.length_cons (a := a), nI_p (by omega), Nat.add_sub_cancel]
        have e2 : nI (a :: b :: r).length - nI 2 = nI r.length := by rw [List.length_cons, List.length_cons, nI_sub (by omega), show r.length + 1 + 1 - 2 = r.length by omega]
        rw [h.2, h.1, e1, enc_top (t := a) (st := b :: r) (by simp; omega)]
        refine ⟨fun hz => absurd hz (by decide), fun _ => hP128 _ ?_⟩
        intro P152 hP152
        rw [h.2, h.1, e2, enc_2nd (by omega)]
        refine ⟨fun hz => absurd hz (by decide), fun _ => hP152 _ ?_⟩
        intro P180 hP180
        refine ⟨fun hz => absurd hz (by decide), fun _ => ?_⟩
        refine k_takesAny h (by omega) (fun a' r' he s78 F78 k78 => ?_) (fun he => absurd he (by simp))
        cases he
        refine ⟨fun hz => absurd hz (by decide), fun _ => ?_⟩
        refine k_takesAny k78 (by simp; omega) (fun b' r' he s80 F80 k80 => ?_) (fun he => absurd he (by simp))
        cases he
        refine ⟨fun hz => absurd hz (by decide), fun _ => hP180 _ _ ?_⟩
        refine ⟨fun hz => absurd hz (by decide), fun _ => ?_⟩
        refine k_puts k80 (fun s74 F74 k74 => ?_)
        refine k_puts k74 (fun s75 F75 k75 => ⟨Or.inr rfl, H1 _ rfl s75 (((F78.trans F80).trans F74).trans F75) k75⟩)
  · -- DUP
    subst h2
    intro P55 hP55
    rw [h.1]
    have le0 : nI st.length ≤ 0 ↔ st.length ≤ 0 := nI_leU (b := 0) (by omega) (by omega)
    rw [le0]
    refine ⟨fun hle => hP55 _ ?_, fun hgt => hP55 _ ?_⟩
    · intro P80 hP80
      have hst : st = [] := List.length_eq_zero_iff.mp (by omega)
      subst hst
      refine ⟨fun _ => hP80 _ (k_putsAny (fun s' F' => ⟨Or.inl rfl, H0 rfl s' F'⟩)), fun hz => absurd rfl hz⟩
    · match st, hgt, h, hl, H1, H0 with
      | [], hh, _, _, _, _ => exact absurd (by simp) hh
      | a :: r, hh, h, hl, H1, H0 =>
        intro P80 hP80
        have e1 : nI (a :: r).length - 1 = nI r.length := by rw [List.length_cons, nI_p (by omega), Nat.add_sub_cancel]
        rw [h.2, h.1, e1, enc_top (by simp at hl; omega)]
        exact ⟨fun hz => absurd hz (by decide), fun _ => hP80 _ (k_puts h (fun s' F' k' => ⟨Or.inr rfl, H1 _ rfl s' F' k'⟩))⟩
  · -- POP
    subst h1
    refine k_takesAny h (by omega) (fun a r he s' F' k' => ⟨Or.inr rfl, H1 r (by subst he; rfl) s' F' k'⟩) (fun he => ⟨Or.inl rfl, H0 (by subst he; rfl) s frM.rfl'⟩)
  · -- PUSH
    subst h0
    exact k_puts (t := false) h (fun s' F' k' => H1 _ rfl s' F' k')
end
