section
variable {s : yS} {l : List Fn} {r : Fr} {fs : List Fr} {R : List (Nat × Nat)} {q n na : Nat} {ps : PS} {S : List Int32} {an : Nat → Int32} {z : MS}
set_option maxHeartbeats 4000000 in
theorem k_perform {o : Nat} {w : Int32} {Q : yS → Prop} (hok : pgOK l) (hva : vAll l = none) (hs : stMm s q l ps S an na) (hz : MOK l z) (hF0 : aF z = r :: fs) (hF : mFs s (r :: fs)) (h111 : sI s 139 111 = nI (fs.length + 1)) (hR : rwMr s (aR2 z)) (hB : mBr s ps S (stp1 z)) (h90 : sI s 139 90 = nI 3) (h91 : sI s 139 91 = 0) (hfu : aS z < 20000)
    (hO : opA (fnA l (jF r)) (jP r) = o) (hW : orA (fnA l (jF r)) (jP r) = w) (n29 : ¬ o = 29) (H : HM s ps S (xDo l an na o w r fs (stp1 z)) Q) : W_X12_perform s (nI o) w Q := by
  obtain ⟨hq, h112, hp, hpl, han⟩ := id hs
  have h12 := hok.2.1
  have hz' := exe_ok (ps := ps) (an := an) (na := na) hok hva hz
  obtain ⟨hfs, hdp, hd40, hmm, hrs, hos⟩ := hz
  rw [hF0] at hfs hdp
  rw [List.length_cons] at hdp
  obtain ⟨⟨hf, hpp, hty, hsk, hlo⟩, hcs⟩ := hfs
  have hfn := fnA_at hf
  rw [hfn] at hO hW
  have hfo := hok.2.2.1 _ hf
  have h400 := hfo.2.2.2.2.2.2.2.2.1
  have hL12 := hfo.2.2.2.1
  have htf := vTy_ty hok hva hf
  obtain ⟨_, r', k1, k2, k3, k4, k5⟩ := htf.2.2 _ _ hty
  rw [← opA_at hpp] at k1 k4 k5
  rw [← orA_at hpp] at k1 k4
  have hio := hfo.2.2.2.2.2.2.2.2.2.2.1 _ (List.getElem_mem hpp)
  rw [show (fC l[jF r])[jP r] = (opA l[jF r] (jP r), orA l[jF r] (jP r)) by rw [opA_at hpp, orA_at hpp]] at hio
  obtain ⟨i1, i2, i3, i4, i5⟩ := hio
  dsimp only at i1 i2 i3 i4 i5
  have hexe : exe l ps an na z = xDo l an na o w r fs (stp1 z) := by
    unfold exe; rw [hF0]; dsimp only; rw [hfn, hO, hW, if_neg n29]
  rw [hexe] at hz'
  rw [hO] at i1 i2 i3 i4 i5 k1 k4 k5
  rw [hW] at i2 i3 i4 i5 k1 k4
  have hww : okW l (aR2 z).length r := ⟨hf, hpp, ⟨_, hty⟩, hlo⟩
  have ht := hF.tp h111
  obtain ⟨⟨f1, f2, f3, f4, f5, f6⟩, fw⟩ := id hF
  have hslen : ((jS r).map Prod.fst).length = (jS r).length := List.length_map _
  have hRn : (aR2 z).length < 20000 := by omega
  have hlen40 : fs.length < 40 := by omega
  have dr0 : (jS r).drop 0 = jS r := List.drop_zero
  have cx : ∀ k, k ≤ 29 → (nI o = nI k ↔ o = k) := fun k hk => nI_inj (by omega) (by omega)
  have top16 : ∀ {f' pl' : Nat} {st' : List Vl} {lo' : Nat → Int32} {n : Nat}, okT l n (f', pl', st', lo') → st'.length ≤ 16 := fun {f' pl' st' lo' n} ht => by
    obtain ⟨q1, q2, q3, _⟩ := ht
    have := ((vTy_ty hok hva q1).2.1 _ _ q3).1
    rw [List.length_map] at this; exact this
  have dsr : ∀ {u t : yS}, frM dSm u t → frM dRm u t := fun h => h.mono (fun a i h => by unfold dSm at h; unfold dRm; omega)
  have plain : ∀ {q2 : Fr} {fs' : List Fr}, HM s ps S (setF (stp1 z) (q2 :: fs'), none) Q → ∀ s', frM dSm s s' → mFs s' (q2 :: fs') → sI s' 139 111 = nI (fs'.length + 1) → Q s' := fun {q2 fs'} H s' F' c' n' => by
    refine H s' (dsr F') ?_ (fun x hx => no_so hx) (fun _ => ⟨⟨c', n', ?_⟩, ?_, ?_⟩)
    · exact (hB.fr (fun a i ha => F'.1 _ _ (by unfold dSm; omega)) : mBr s' ps S (stp1 z))
    · exact hR.fr (fun a i ha => F'.1 _ _ (by unfold dSm; omega))
    · exact (F'.1 _ _ (by unfold dSm; omega)).trans h90
    · exact (F'.1 _ _ (by unfold dSm; omega)).trans h91
  have over : ∀ {h : Nat} {v : Int32}, HM s ps S (setF (stp1 z) [], some (h, v)) Q → ∀ s', frM (fun a i => dSm a i ∨ (a = 139 ∧ (i = 90 ∨ i = 91))) s s' → sI s' 139 90 = nI h → sI s' 139 91 = v → sI s' 139 111 = 0 → Q s' := fun {h v} H s' F' a0 a1 a2 => by
    refine H s' (F'.mono (fun a i h => by unfold dSm at h; unfold dRm; omega)) ?_ (fun x hx => ?_) (fun hx => so_no hx)
    · exact (hB.fr (fun a i ha => F'.1 _ _ (by unfold dSm; omega)) : mBr s' ps S (stp1 z))
    · have hx := Option.some.inj hx
      subst hx
      exact ⟨a0, a1, a2⟩
  have raise : ∀ {c : Int32} {q2 : Fr}, HM s ps S (rai l c (q2 :: fs) (stp1 z)) Q → raM s (rsd l c (q2 :: fs)) c Q := fun {c q2} H => by
    unfold rai at H
    refine ⟨fun fs' hr s' F' c' p' => ?_, fun hr s' F' a0 a1 a2 => ?_⟩
    · rw [hr] at H
      refine H s' (dsr F') ?_ (fun x hx => no_so hx) (fun _ => ⟨⟨c', p', ?_⟩, ?_, ?_⟩)
      · exact (hB.fr (fun a i ha => F'.1 _ _ (by unfold dSm; omega)) : mBr s' ps S (stp1 z))
      · exact hR.fr (fun a i ha => F'.1 _ _ (by unfold dSm; omega))
      · exact (F'.1 _ _ (by unfold dSm; omega)).trans h90
      · exact (F'.1 _ _ (by unfold dSm; omega)).trans h91
    · rw [hr] at H
      exact over H s' F' a0 a1 a2
  unfold xDo at H hz'
  unfold W_X12_perform
  rw [cx 21 (by omega), cx 22 (by omega), cx 23 (by omega), cx 25 (by omega), cx 26 (by omega), cx 27 (by omega), cx 28 (by omega), cx 18 (by omega), cx 19 (by omega), cx 9 (by omega), cx 10 (by omega), nI_leU (by omega) (by omega), nI_leU (by omega) (by omega), nI_leU (by omega) (by omega), nI_leU (by omega) (by omega)]
  -- moves and the size of a row
  have mvs : o ≤ 5 → W_X12_move s (nI o) w (fun s3 => W_X12_goOn s3 (fun s4 => Q s4)) := fun h5 => by
    rw [if_pos (by omega)] at H hz'
    unfold xMove at H hz'
    have h16' := top16 (hz' rfl).1.1
    refine k_move (l := l) (by omega) hF h111 hlen40 (fun h => ?_) (fun h => ?_) (fun h => ?_) (fun h => ?_) (plain H)
    · obtain ⟨k, hk, ek⟩ := i2 h; exact ⟨k, by omega, ek⟩
    · rw [← hslen]
      rcases h with h | h | h
      · subst h
        have k1 : (match (jS r).map Prod.fst with
          | [] => none
          | _ :: u => some u) = some r' := k1
        cases hm2 : (jS r).map Prod.fst with
        | nil => rw [hm2] at k1; exact no_so k1
        | cons a u => rw [List.length_cons]; omega
      · subst h
        have k1 : (match (jS r).map Prod.fst with
          | [] => none
          | a :: u => some (a :: a :: u)) = some r' := k1
        cases hm2 : (jS r).map Prod.fst with
        | nil => rw [hm2] at k1; exact no_so k1
        | cons a u => rw [List.length_cons]; omega
      · subst h
        have k1 : tkT (rbit l[jF r] (ix w)) ((jS r).map Prod.fst) = some r' := k1
        rw [tkT_some] at k1
        rw [k1, List.length_cons]; omega
    · rw [← hslen]
      subst h
      have k1 : (match (jS r).map Prod.fst with
        | a :: b :: u => some (b :: a :: u)
        | _ => none) = some r' := k1
      cases hm2 : (jS r).map Prod.fst with
      | nil => rw [hm2] at k1; exact no_so k1
      | cons a u =>
        cases u with
        | nil => rw [hm2] at k1; exact no_so k1
        | cons b u => rw [List.length_cons, List.length_cons]; omega
    · rcases h with h | h | h
      · subst h
        have h16' : ((false, w) :: jS r).length ≤ 16 := h16'
        rw [List.length_cons] at h16'; omega
      · subst h
        have h16' : ((jS r).getD 0 v0 :: jS r).length ≤ 16 := h16'
        rw [List.length_cons] at h16'; omega
      · subst h
        have h16' : ((rbit (fnA l (jF r)) (ix w), jL r (ix w)) :: jS r).length ≤ 16 := h16'
        rw [List.length_cons] at h16'; omega
  have row0 : ∀ k, ((jS r).map Prod.fst).getD k false = true → k < (jS r).length → ∃ m, m ≤ (aR2 z).length ∧ tpV (jS r) k = nI m := fun k hk hl => by
    rw [fst_getD hl] at hk
    exact hsk.getD hk
  have siz : o = 24 → W_X12_move s (nI o) w (fun s3 => W_X12_goOn s3 (fun s4 => Q s4)) := fun c24 => by
    subst c24
    rw [if_neg (by omega), if_neg (by omega), if_neg (by omega), if_neg (by omega), if_neg (by omega), if_neg (by omega), if_pos (by omega)] at H hz'
    have k1 : (tkT true ((jS r).map Prod.fst)).map (fun u => false :: u) = some r' := k1
    obtain ⟨u, hu⟩ : ∃ u, tkT true ((jS r).map Prod.fst) = some u := by
      cases hq : tkT true ((jS r).map Prod.fst) with
      | none => rw [hq] at k1; exact no_so k1
      | some u => exact ⟨u, rfl⟩
    rw [tkT_some] at hu
    have hl1 : 1 ≤ (jS r).length := by rw [← hslen, hu, List.length_cons]; omega
    unfold xSize at H
    rw [show aR2 (stp1 z) = aR2 z from rfl] at H
    exact k_size hF h111 hlen40 (by omega) hR.2.1 hl1 (row0 0 (by rw [hu]; rfl) (by omega)) (plain H)
  have big : (o ≤ 17 ∨ 21 ≤ o) → (o ≤ 5 ∨ 18 ≤ o) → ((¬ o = 21 → ∀ P174 : Prop, ((∀ P186 : Int32 → Prop, (∀ (y1 : Int32), (W_X12_reach s y1 
      (fun s2 => Q s2)) → P186 y1) → 
     ((¬ o = 23 → P186 0)
     ∧ (o = 23 → P186 1))) → P174) → 
    ((o = 22 → P174)
    ∧ (¬ o = 22 → ((¬ o = 23 → ((¬ o = 25 → ((¬ o = 26 → ((¬ o = 27 → ((¬ o = 28 → W_X12_move s (nI o) w 
          (fun s3 => W_X12_goOn s3 
          (fun s4 => Q s4)))
         ∧ (o = 28 → W_X12_pop s 
          (fun r5 s6 => W_X12_raise s6 r5 
          (fun s7 => Q s7)))))
        ∧ (o = 27 → W_X12_comeBack s 
         (fun s8 => Q s8))))
       ∧ (o = 26 → W_X12_callOut s w 
        (fun s9 => Q s9))))
      ∧ (o = 25 → W_X12_callIn s w 
       (fun s10 => Q s10))))
     ∧ (o = 23 → P174)))))
   ∧ (o = 21 → W_X12_newRow s 
    (fun s11 => Q s11))) := by
    intro hr1 hr2
    refine ⟨fun n21 => ?_, fun c21 => ?_⟩
    · intro P174 hP174
      refine ⟨fun c22 => ?_, fun n22 => ⟨fun n23 => ⟨fun n25 => ⟨fun n26 => ⟨fun n27 => ⟨fun n28 => ?_, fun h28 => ?_⟩, fun h27 => ?_⟩, fun h26 => ?_⟩, fun h25 => ?_⟩, fun c23 => ?_⟩⟩
      · -- get
        subst c22
        apply hP174
        intro P186 hP186
        refine ⟨fun _ => hP186 0 ?_, fun h => absurd h (by omega)⟩
        rw [if_neg (by omega), if_neg (by omega), if_neg (by omega), if_neg (by omega), if_pos (by omega)] at H hz'
        have k1 : ((tkT false ((jS r).map Prod.fst)).bind (tkT true)).map (fun u => false :: u) = some r' := k1
        obtain ⟨u, hu⟩ : ∃ u, (tkT false ((jS r).map Prod.fst)).bind (tkT true) = some u := by
          cases hq : (tkT false ((jS r).map Prod.fst)).bind (tkT true) with
          | none => rw [hq] at k1; exact no_so k1
          | some u => exact ⟨u, rfl⟩
        rw [Option.bind_eq_some_iff] at hu
        obtain ⟨u2, hq1, hq2⟩ := hu
        rw [tkT_some] at hq1 hq2
        subst hq2
        have hl2 : 2 ≤ (jS r).length := by rw [← hslen, hq1, List.length_cons, List.length_cons]; omega
        unfold xGet at H
        rw [show aR2 (stp1 z) = aR2 z from rfl, show aM (stp1 z) = aM z from rfl] at H
        exact k_reach (v := 0) (mm := aM z) (by omega) hok hq h112 hp hF h111 hlen40 hww hcs hmm hR (by omega) hB.1.2 (by omega) (row0 1 (by rw [hq1]; rfl) (by omega)) (fun _ hn => plain (by rw [if_neg hn] at H; exact H)) (fun _ hn => raise (by rw [if_pos hn] at H; exact H)) (fun h => by omega) (fun h => by omega)
      · -- size, moves
        rcases hr2 with h | h
        · exact mvs h
        · exact siz (by clear i2 i3 i4 i5; omega)
      · -- throw
        subst h28
        clear i2 i3 i4 i5
        rw [if_neg (by omega), if_neg (by omega), if_neg (by omega), if_neg (by omega), if_neg (by omega), if_neg (by omega), if_neg (by omega), if_neg (by omega), if_neg (by omega), if_neg (by omega)] at H hz'
        rw [chg_if (by omega), tkT_some] at k1
        have hl1 : 1 ≤ (jS r).length := by rw [← hslen, k1, List.length_cons]; omega
        refine k_pop1 (d := 0) (e := 1) (st := jS r) rfl hlen40 f4 (by rw [dr0]; exact ht) (by omega) (fun s2 F2 t2 => ?_)
        have F2s : frM dSm s s2 := F2.mono (fun a i h => by unfold dSm; omega)
        have hF2 := hF.stk (s' := s2) (st' := (jS r).drop 1) (pl' := jP r) (fun a i h _ => F2.1 _ _ (by omega)) t2 ((F2.1 _ _ (by omega)).trans f2) (by rw [List.length_drop]; omega)
        exact k_raiseR (r := (jF r, jP r, (jS r).drop 1, jL r)) hok hq F2s ((F2.1 _ _ (by omega)).trans h112) (hp.fr (fun a i ha => F2.1 _ _ (by omega))) hF2.1 hF2.2 hww hcs (by omega) (raise H)
      · -- return
        subst h27
        rw [if_neg (by omega), if_neg (by omega), if_neg (by omega), if_neg (by omega), if_neg (by omega), if_neg (by omega), if_neg (by omega), if_neg (by omega), if_neg (by omega), if_pos (by omega)] at H hz'
        have k1 : (if fR l[jF r] = 0 then some ((jS r).map Prod.fst) else tkT (rTy l[jF r]) ((jS r).map Prod.fst)) = some r' := k1
        have hret : ¬ fR (fnA l (jF r)) = 0 → (jS r).map Prod.fst = rTy l[jF r] :: r' := fun h => by
          rw [hfn] at h; rw [if_neg h, tkT_some] at k1; exact k1
        refine k_comeBack hok hq h112 hp hF h111 hlen40 hf (fun h => by rw [← hslen, hret h, List.length_cons]; omega) (fun q2 fs2 he hRR => ?_) (fun he s' F' a0 a1 a2 => ?_) (fun q2 fs2 he s' F' c' n' => ?_)
        · subst he
          unfold xRet at hz'
          dsimp only at hz'
          have := top16 (hz' rfl).1.1
          rw [if_neg hRR, List.length_cons] at this
          omega
        · subst he
          unfold xRet at H
          exact over H s' F' a0 a1 a2
        · subst he
          unfold xRet at H
          exact plain H s' F' c' n'
      · -- a call outside
        subst h26
        rw [if_neg (by omega), if_neg (by omega), if_neg (by omega), if_neg (by omega), if_neg (by omega), if_neg (by omega), if_neg (by omega), if_neg (by omega), if_pos (by omega)] at H hz'
        obtain ⟨c, hc, ec⟩ := i5 (Or.inl rfl)
        have k1 : (tkI (ix w % 4) ((jS r).map Prod.fst)).map (fun u => false :: u) = some r' := k1
        obtain ⟨u, hu⟩ : ∃ u, tkI (ix w % 4) ((jS r).map Prod.fst) = some u := by
          cases hq : tkI (ix w % 4) ((jS r).map Prod.fst) with
          | none => rw [hq] at k1; exact no_so k1
          | some u => exact ⟨u, rfl⟩
        have hta := tkI_at hu
        rw [ec, nI_ix (by omega)] at hta
        unfold xHost at H hz'
        rw [ec, nI_ix (by omega)] at H hz'
        have h16' := top16 (hz' rfl).1.1
        rw [List.length_cons] at h16'
        rw [ec]
        refine k_callOut (an := an) (na := na) (out := aO z) hc hF h111 hlen40 (by omega) hB.2.1.2.1 han (by rw [← hslen]; exact hta.2.1) (by omega) (fun s' F' o' t' c' n' => ?_)
        refine H s' (F'.mono (fun a i h => by unfold dSm at h; unfold dRm; omega)) ?_ (fun x hx => no_so hx) (fun _ => ⟨⟨c', n', hR.fr (fun a i ha => F'.1 _ _ (by unfold dSm; omega))⟩, (F'.1 _ _ (by unfold dSm; omega)).trans h90, (F'.1 _ _ (by unfold dSm; omega)).trans h91⟩)
        obtain ⟨⟨q1, q2⟩, ⟨q3, q4, q5⟩, ⟨w1, w2, w3, w4⟩, q8⟩ := hB
        refine ⟨⟨(F'.1 _ _ (by unfold dSm; omega)).trans q1, fun a ha => (F'.1 _ _ (by unfold dSm; omega)).trans (q2 a ha)⟩, ⟨(F'.1 _ _ (by unfold dSm; omega)).trans q3, o', (F'.1 _ _ (by unfold dSm; omega)).trans q5⟩, ⟨(F'.1 _ _ (by unfold dSm; omega)).trans w1, w2, fun k hk => (F'.1 _ _ (by unfold dSm; omega)).trans (w3 k hk), w4⟩, fun i h1 h2 => ?_⟩
        have h1 : i < 5 * (aO z + 1) := h1
        show sI s' 207 i = (if aO z < 256 then trN (aT z) (aO z) c (jS r) (ans an na (aO z)) else aT z) i
        rw [t' i]
        have hold : i < 5 * aO z → sI s 207 i = aT z i := fun h => q8 i h h2
        by_cases c256 : aO z < 256
        · rw [if_pos c256, if_pos c256]
          unfold trN
          by_cases d0 : i = 5 * aO z
          · rw [if_pos d0, if_pos d0]
          rw [if_neg d0, if_neg d0]
          by_cases d1 : i = 5 * aO z + 1
          · rw [if_pos d1, if_pos d1]
          rw [if_neg d1, if_neg d1]
          by_cases d2 : i = 5 * aO z + 2
          · rw [if_pos d2, if_pos d2]
          rw [if_neg d2, if_neg d2]
          by_cases d3 : i = 5 * aO z + 3
          · rw [if_pos d3, if_pos d3]
          rw [if_neg d3, if_neg d3]
          by_cases d4 : i = 5 * aO z + 4
          · rw [if_pos d4, if_pos d4]
          rw [if_neg d4, if_neg d4]
          exact hold (by omega)
        · rw [if_neg c256, if_neg c256]; exact hold (by omega)
      · -- a call
        subst h25
        rw [if_neg (by omega), if_neg (by omega), if_neg (by omega), if_neg (by omega), if_neg (by omega), if_neg (by omega), if_neg (by omega), if_pos (by omega)] at H hz'
        obtain ⟨c, hc, ec⟩ := i4 rfl
        have ecx : ix w = c := by rw [ec, nI_ix (by omega)]
        have k1 : (tkQ (l.getD (ix w) dFn) (fP (l.getD (ix w) dFn)) ((jS r).map Prod.fst)).map (fun u => if fR (l.getD (ix w) dFn) = 0 then u else rTy (l.getD (ix w) dFn) :: u) = some r' := k1
        obtain ⟨u, hu⟩ : ∃ u, tkQ (l.getD (ix w) dFn) (fP (l.getD (ix w) dFn)) ((jS r).map Prod.fst) = some u := by
          cases hq : tkQ (l.getD (ix w) dFn) (fP (l.getD (ix w) dFn)) ((jS r).map Prod.fst) with
          | none => rw [hq] at k1; exact no_so k1
          | some u => exact ⟨u, rfl⟩
        have hqa := tkQ_at hu
        rw [ecx, show l.getD c dFn = fnA l c from rfl] at hqa
        unfold xCall at H
        rw [ec]
        rw [ecx] at H
        refine k_callIn hok hq h112 hp hF h111 hlen40 hww hcs hc (by have := hqa.2.1; rw [hslen] at this; exact this) (fun hne s' F' c' n' => ?_) (fun heq => raise (by rw [if_pos heq] at H; exact H))
        rw [if_neg hne] at H
        refine H s' (dsr F') ?_ (fun x hx => no_so hx) (fun _ => ⟨⟨c', n', hR.fr (fun a i ha => F'.1 _ _ (by unfold dSm; omega))⟩, (F'.1 _ _ (by unfold dSm; omega)).trans h90, (F'.1 _ _ (by unfold dSm; omega)).trans h91⟩)
        exact (hB.fr (fun a i ha => F'.1 _ _ (by unfold dSm; omega)) : mBr s' ps S (stp1 z))
      · -- put
        subst c23
        apply hP174
        intro P186 hP186
        refine ⟨fun h => absurd rfl h, fun _ => hP186 1 ?_⟩
        rw [if_neg (by omega), if_neg (by omega), if_neg (by omega), if_neg (by omega), if_neg (by omega), if_pos (by omega)] at H hz'
        have k1 : (tkI 2 ((jS r).map Prod.fst)).bind (tkT true) = some r' := k1
        rw [Option.bind_eq_some_iff] at k1
        obtain ⟨u2, hq1, hq2⟩ := k1
        rw [tkI_some] at hq1
        rw [tkT_some] at hq2
        subst hq2
        have hq1 : (jS r).map Prod.fst = false :: false :: true :: r' := hq1
        have hl3 : 3 ≤ (jS r).length := by rw [← hslen, hq1, List.length_cons, List.length_cons, List.length_cons]; omega
        unfold xPut at H
        rw [show aR2 (stp1 z) = aR2 z from rfl, show aM (stp1 z) = aM z from rfl, show aU (stp1 z) = aU z from rfl] at H
        refine k_reach (v := 1) (mm := aM z) (by omega) hok hq h112 hp hF h111 hlen40 hww hcs hmm hR (by omega) hB.1.2 (by omega) (row0 2 (by rw [hq1]; rfl) (by omega)) (fun h => by omega) (fun h => by omega) (fun _ hn s' F' m' c' n' => ?_) (fun _ hn => raise (by rw [if_pos hn] at H; exact H))
        rw [if_neg hn] at H
        refine H s' (F'.mono (fun a i h => by unfold dSm at h; unfold dRm; omega)) ?_ (fun x hx => no_so hx) (fun _ => ⟨⟨c', n', hR.fr (fun a i ha => F'.1 _ _ (by unfold dSm; omega))⟩, (F'.1 _ _ (by unfold dSm; omega)).trans h90, (F'.1 _ _ (by unfold dSm; omega)).trans h91⟩)
        obtain ⟨⟨q1, q2⟩, ⟨q3, q4, q5⟩, ⟨w1, w2, w3, w4⟩, q8⟩ := hB
        refine ⟨⟨(F'.1 _ _ (by unfold dSm; omega)).trans q1, fun a ha => ?_⟩, ⟨(F'.1 _ _ (by unfold dSm; omega)).trans q3, (F'.1 _ _ (by unfold dSm; omega)).trans q4, (F'.1 _ _ (by unfold dSm; omega)).trans q5⟩, ⟨(F'.1 _ _ (by unfold dSm; omega)).trans w1, w2, fun k hk => (F'.1 _ _ (by unfold dSm; omega)).trans (w3 k hk), w4⟩, fun i h1 h2 => (F'.1 _ _ (by unfold dSm; omega)).trans (q8 i h1 h2)⟩
        show sI s' 208 a = upF (aM z) ((rwF (aR2 z) (ix (tpV (jS r) 2))).1 + ix (tpV (jS r) 1)) (tpV (jS r) 0) a
        rw [m' a]
        by_cases c : a = (rwF (aR2 z) (ix (tpV (jS r) 2))).1 + ix (tpV (jS r) 1)
        · rw [if_pos c, c, upF_at]
        · rw [if_neg c, upF_ne c]; exact q2 a ha
    · -- new
      subst c21
      rw [if_neg (by omega), if_neg (by omega), if_neg (by omega), if_pos (by omega)] at H hz'
      have k1 : (tkT false ((jS r).map Prod.fst)).map (fun u => true :: u) = some r' := k1
      obtain ⟨u, hu⟩ : ∃ u, tkT false ((jS r).map Prod.fst) = some u := by
        cases hq : tkT false ((jS r).map Prod.fst) with
        | none => rw [hq] at k1; exact no_so k1
        | some u => exact ⟨u, rfl⟩
      rw [tkT_some] at hu
      have hl1 : 1 ≤ (jS r).length := by rw [← hslen, hu, List.length_cons]; omega
      unfold xNew at H
      rw [show aU (stp1 z) = aU z from rfl, show aR2 (stp1 z) = aR2 z from rfl, show aM (stp1 z) = aM z from rfl] at H
      refine k_newRow hok hq h112 hp hF h111 hlen40 hww hcs hmm.1 hB.1.1 hR hRn hl1 (fun hn s' F' m' u' R' c' n' => ?_) (fun hn => raise (by rw [if_pos hn] at H; exact H))
      rw [if_neg hn] at H
      refine H s' (F'.mono (fun a i h => by unfold dSm at h; unfold dRm; omega)) ?_ (fun x hx => no_so hx) (fun _ => ⟨⟨c', n', R'⟩, (F'.1 _ _ (by unfold dSm; omega)).trans h90, (F'.1 _ _ (by unfold dSm; omega)).trans h91⟩)
      obtain ⟨⟨q1, q2⟩, ⟨q3, q4, q5⟩, ⟨w1, w2, w3, w4⟩, q8⟩ := hB
      refine ⟨⟨u', fun a ha => ?_⟩, ⟨(F'.1 _ _ (by unfold dSm; omega)).trans q3, (F'.1 _ _ (by unfold dSm; omega)).trans q4, (F'.1 _ _ (by unfold dSm; omega)).trans q5⟩, ⟨(F'.1 _ _ (by unfold dSm; omega)).trans w1, w2, fun k hk => (F'.1 _ _ (by unfold dSm; omega)).trans (w3 k hk), w4⟩, fun i h1 h2 => (F'.1 _ _ (by unfold dSm; omega)).trans (q8 i h1 h2)⟩
      have ha : a < aU z + ix (tpV (jS r) 0) := ha
      show sI s' 208 a = (if aU z ≤ a ∧ a < aU z + ix (tpV (jS r) 0) then 0 else aM z a)
      rw [m' a]
      by_cases c : aU z ≤ a ∧ a < aU z + ix (tpV (jS r) 0)
      · rw [if_pos c, if_pos c]
      · rw [if_neg c, if_neg c]; exact q2 a (show a < aU z by omega)
  intro P64 hP64
  -- jumps
  have jmp : ¬ o ≤ 17 → ¬ 21 ≤ o → ∀ P113 : Int32 → yS → Prop, (∀ (y12 : Int32) (s13 : yS), (((y12 = 0 → vp_in ((sI s13 139 111) - 1) 40 ∧ 
      vp_in ((sI s13 139 111) - 1) 40 ∧ ∀ s16 : yS, s16 = wI s13 212 (ix ((sI s13 139 111) - 1)) ((sI s13 212 (ix ((sI s13 139 111) - 1))) + 1) → 
      Q s16)
     ∧ (¬ y12 = 0 → vp_in ((sI s13 139 111) - 1) 40 ∧ ∀ s18 : yS, s18 = wI s13 212 (ix ((sI s13 139 111) - 1)) w → 
      Q s18))) → P113 y12 s13) → 
    ((o = 18 → P113 1 s)
    ∧ (¬ o = 18 → W_X12_pop s 
     (fun r19 s20 => ∀ P94 : Int32 → Prop, (∀ (y21 : Int32), (∀ P105 : Int32 → Prop, (∀ (y22 : Int32), (((¬ y21 = y22 → P113 0 s20)
       ∧ (y21 = y22 → P113 1 s20))) → P105 y22) → 
      ((¬ o = 19 → P105 0)
      ∧ (o = 19 → P105 1))) → P94 y21) → 
     ((r19 = 0 → P94 0)
     ∧ (¬ r19 = 0 → P94 1))))) := by
    intro h17 h21 P113 hP113
    rw [if_neg (by clear i2 i3 i4 i5; omega), if_neg (by clear i2 i3 i4 i5; omega), if_pos (by clear i2 i3 i4 i5; omega)] at H hz'
    have hj : 17 < o ∧ o < 21 := by clear i2 i3 i4 i5; omega
    obtain ⟨k, hk, ek⟩ := i3 hj
    clear i2 i3 i4 i5
    have hst : ¬ o = 18 → (jS r).map Prod.fst = false :: r' := fun h => by rw [chg_if (by omega), tkT_some] at k1; exact k1
    unfold xJump at H
    have inK : vp_in (nI fs.length) 40 := nI_inU (by omega) (by omega)
    -- the place is set
    have go : ∀ (st' : List Vl) (t u : yS) (pl' : Nat), st'.length ≤ 16 → frM (fun a i => a = 213 ∧ i = fs.length) s t → mTp t fs.length st' → u = wI t 212 fs.length (nI pl') → HM s ps S (setF (stp1 z) ((jF r, pl', st', jL r) :: fs), none) Q → Q u := by
      intro st' t u pl' h16 Ft tt eu hH
      have nu : ∀ a i, ¬ (a = 212 ∧ i = fs.length) → sI u a i = sI t a i := fun a i h => by subst eu; rw [sI_w, if_neg h]
      have hfin := hF.stk (s' := u) (st' := st') (pl' := pl') (fun a i h _ => by rw [nu _ _ (by omega), Ft.1 _ _ (by omega)]) ⟨(nu _ _ (by omega)).trans tt.1, (nu _ _ (by omega)).trans tt.2.1, tt.2.2.fr (fun i _ _ => nu _ _ (by omega))⟩ (by subst eu; rw [sI_w, if_pos ⟨rfl, rfl⟩]) h16
      refine plain hH u ?_ hfin.1 hfin.2
      subst eu; exact (Ft.mono (fun a i h => by unfold dSm; omega)).wI (by unfold dSm; omega)
    have yes : ∀ (st' : List Vl) (t : yS), st'.length ≤ 16 → frM (fun a i => a = 213 ∧ i = fs.length) s t → mTp t fs.length st' → HM s ps S (setF (stp1 z) ((jF r, k, st', jL r) :: fs), none) Q → P113 1 t := by
      intro st' t h16 Ft tt hH
      apply hP113
      rw [tt.1, nI_p (by omega), Nat.add_sub_cancel, nI_ix (n := fs.length) (by omega), ek]
      exact ⟨fun h => absurd h (by decide), fun _ => ⟨inK, fun u eu => go st' t u k h16 Ft tt eu hH⟩⟩
    have no : ∀ (st' : List Vl) (t : yS), st'.length ≤ 16 → frM (fun a i => a = 213 ∧ i = fs.length) s t → mTp t fs.length st' → HM s ps S (setF (stp1 z) ((jF r, jP r + 1, st', jL r) :: fs), none) Q → P113 0 t := by
      intro st' t h16 Ft tt hH
      apply hP113
      rw [tt.1, nI_p (by omega), Nat.add_sub_cancel, nI_ix (n := fs.length) (by omega), Ft.1 212 _ (by omega), f2, nI_s]
      exact ⟨fun _ => ⟨inK, inK, fun u eu => go st' t u (jP r + 1) h16 Ft tt eu hH⟩, fun h => absurd rfl h⟩
    have ekx : ix w = k := by rw [ek, nI_ix (by omega)]
    rw [ekx] at H
    refine ⟨fun h18 => ?_, fun n18 => ?_⟩
    · rw [if_pos h18] at H
      exact yes (jS r) s f4 frM.rfl' ht H
    · rw [if_neg n18] at H
      have hl1 : 1 ≤ (jS r).length := by rw [← hslen, hst n18, List.length_cons]; omega
      have hdl : ((jS r).drop 1).length ≤ 16 := by rw [List.length_drop]; omega
      refine k_pop1 (d := 0) (e := 1) (st := jS r) rfl hlen40 f4 (by rw [dr0]; exact ht) (by omega) (fun s2 F2 t2 => ?_)
      intro P94 hP94
      refine ⟨fun h0 => hP94 0 ?_, fun h0 => hP94 1 ?_⟩
      · intro P105 hP105
        refine ⟨fun n19 => hP105 0 ⟨fun h => absurd rfl h, fun _ => ?_⟩, fun h19 => hP105 1 ⟨fun _ => ?_, fun h => absurd h (by decide)⟩⟩
        · rw [if_pos (Or.inr ⟨by omega, h0⟩)] at H
          exact yes _ s2 hdl F2 t2 H
        · rw [if_neg (by rintro (⟨_, h⟩ | ⟨h, _⟩); exact h h0; omega)] at H
          exact no _ s2 hdl F2 t2 H
      · intro P105 hP105
        refine ⟨fun n19 => hP105 0 ⟨fun _ => ?_, fun h => absurd h (by decide)⟩, fun h19 => hP105 1 ⟨fun h => absurd rfl h, fun _ => ?_⟩⟩
        · rw [if_neg (by rintro (⟨h, _⟩ | ⟨_, h⟩); exact n19 h; exact h0 h)] at H
          exact no _ s2 hdl F2 t2 H
        · rw [if_pos (Or.inl ⟨h19, h0⟩)] at H
          exact yes _ s2 hdl F2 t2 H
  have mid : (o ≤ 5 ∨ 18 ≤ o) → P64 := by
    intro h5
    apply hP64
    intro P149 hP149
    exact ⟨fun h17 => hP149 (big (Or.inl h17) h5), fun n17 => ⟨fun h21 => hP149 (big (Or.inr h21) h5), fun n21 => jmp n17 n21⟩⟩
  refine ⟨fun h5 => mid (Or.inl h5), fun n5 => ⟨fun h18 => mid (Or.inr h18), fun n18 => ?_⟩⟩
  -- ints
  clear jmp mid big mvs siz
  rw [if_neg n5, if_pos (by clear i2 i3 i4 i5; omega)] at H hz'
  clear i2 i3 i4 i5
  rw [chg_int ⟨by omega, by omega⟩] at k1
  obtain ⟨u, hu⟩ : ∃ u, tkI 2 ((jS r).map Prod.fst) = some u := by
    cases hq : tkI 2 ((jS r).map Prod.fst) with
    | none => rw [hq] at k1; exact no_so k1
    | some u => exact ⟨u, rfl⟩
  have hta := tkI_at hu
  have hl2 : 2 ≤ (jS r).length := by rw [← hslen]; exact hta.2.1
  have hdl : ((jS r).drop 2).length + 2 ≤ 16 := by rw [List.length_drop]; omega
  unfold xInts at H
  refine k_pop1 (d := 0) (e := 1) (st := jS r) rfl hlen40 f4 (by rw [dr0]; exact ht) (by omega) (fun s1 F1 t1 => ?_)
  refine k_pop1 (d := 1) (e := 2) (st := jS r) rfl hlen40 f4 t1 (by omega) (fun s2 F2 t2 => ?_)
  have F2' : frM (fun a i => a = 213 ∧ i = fs.length) s s2 := F1.trans F2
  have F2s : frM dSm s s2 := F2'.mono (fun a i h => by unfold dSm; omega)
  have ra : ((o = 9 ∨ o = 10) ∧ tpV (jS r) 0 = 0) → W_X12_raise s2 1 (fun s30 => Q s30) := fun hcnd => by
    rw [if_pos hcnd] at H
    have hF2 := hF.stk (s' := s2) (st' := (jS r).drop 2) (pl' := jP r) (fun a i h _ => F2'.1 _ _ (by omega)) t2 ((F2'.1 _ _ (by omega)).trans f2) (by omega)
    exact k_raiseR (r := (jF r, jP r, (jS r).drop 2, jL r)) hok hq F2s ((F2'.1 _ _ (by omega)).trans h112) (hp.fr (fun a i ha => F2'.1 _ _ (by omega))) hF2.1 hF2.2 hww hcs (by omega) (raise H)
  intro P46 hP46
  have wkd : ¬ ((o = 9 ∨ o = 10) ∧ tpV (jS r) 0 = 0) → P46 := fun hcnd => by
    rw [if_neg hcnd] at H
    apply hP46
    refine k_worked ⟨by omega, by omega⟩ (fun h h0 => hcnd ⟨h, h0⟩) ?_
    exact k_push1 (y := (false, wk o (tpV (jS r) 1) (tpV (jS r) 0))) hlen40 (by omega) t2 (fun s' F' t' => k_go1 hlen40 hF ((F2'.mono (fun a i h => by omega)).trans (F'.mono (fun a i h => by omega))) t' (by rw [List.length_cons]; omega) (plain H))
  intro P34 hP34
  have d34 : (o = 9 ∨ o = 10) → P34 := fun hd => hP34 ⟨fun hne => wkd (fun h => hne h.2), fun h0 => ra ⟨hd, h0⟩⟩
  exact ⟨fun h9 => d34 (Or.inl h9), fun n9 => ⟨fun n10 => wkd (by rintro ⟨h | h, _⟩; exact n9 h; exact n10 h), fun h10 => d34 (Or.inr h10)⟩⟩
end
