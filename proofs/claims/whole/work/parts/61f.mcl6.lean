def anC (s : yS) (an : Nat → Int32) (na : Nat) : Prop := sI s 123 2 = nI na ∧ na ≤ 256 ∧ ∀ i, i < na → sI s 128 i = an i
def stMa (s : yS) (g p : Nat) (l : List Fn) (ps : PS) (S : List Int32) (an : Nat → Int32) (na fu : Nat) : Prop := gOK g ∧ (p = 3 ∨ p = 20) ∧ sR s 123 11 = g + 1 ∧ sR s 123 12 = p + 1 ∧ pgC s g l ∧ plC s p ps S ∧ puC s p ps ∧ sI s 123 13 = nI fu ∧ anC s an na
def cB (s : yS) (ps : PS) (S : List Int32) (z : MS) : Prop := (sI s 124 6 = nI (aU z) ∧ ∀ a, a < aU z → sI s 130 a = aM z a) ∧ (sI s 124 2 = nI (aS z) ∧ sI s 124 3 = nI (aO z) ∧ sI s 124 4 = nI (aP z) ∧ sI s 124 7 = nI (aD z)) ∧ waC s ps S (aX z) (aC z) ∧ ∀ i, i < 5 * aO z → i < 1280 → sI s 129 i = aT z i
def mC (s : yS) (l : List Fn) (ps : PS) (S : List Int32) (z : MS) : Prop := cFs s l (aR2 z) (aF z) ∧ (∀ q fs, aF z = q :: fs → sI s 123 16 = nI (jP q)) ∧ cB s ps S z ∧ sI s 124 0 = -1 ∧ sI s 124 1 = 0
def eC (s : yS) (ps : PS) (S : List Int32) (z : MS) (h : Nat) (v : Int32) : Prop := cB s ps S z ∧ sI s 124 0 = nI h ∧ sI s 124 1 = v
def dRun (a i : Nat) : Prop := (a = 123 ∧ 14 ≤ i ∧ i ≤ 17) ∨ a = 124 ∨ (a = 125 ∧ i = 0) ∨ a = 126 ∨ a = 127 ∨ (129 ≤ a ∧ a ≤ 135)
section
variable {s : yS} {g p na fu : Nat} {l : List Fn} {ps : PS} {S : List Int32} {an : Nat → Int32} {z : MS}
theorem puC.fr2 {s' : yS} (h : puC s p ps) (F : ∀ a i, p ≤ a → a ≤ p + 16 → sI s' a i = sI s a i) : puC s' p ps := by
  rcases h with h | ⟨h, h2⟩
  · exact Or.inl (h.fr (fun a i ha => F a i (by omega) (by omega)))
  · exact Or.inr ⟨(F _ _ (by omega) (by omega)).trans h, h2⟩
theorem stMa.fr {s' : yS} (h : stMa s g p l ps S an na fu) (F : frM dRun s s') : stMa s' g p l ps S an na fu := by
  obtain ⟨h1, h2, h3, h4, h5, h6, h7, h8, h9, h10, h11⟩ := h
  have hgv : g = 37 ∨ g = 55 ∨ g = 73 := h1
  exact ⟨h1, h2, (F.2.2 _ _).trans h3, (F.2.2 _ _).trans h4, h5.fr (fun a i ha => F.1 _ _ (by unfold dRun; omega)), h6.fr (fun a i ha => F.1 _ _ (by unfold dRun; omega)) (fun a i ha => F.2.1 _ _ (by unfold dRun; omega)), h7.fr2 (fun a i h1 h2 => F.1 _ _ (by unfold dRun; omega)), (F.1 _ _ (by unfold dRun; omega)).trans h8, (F.1 _ _ (by unfold dRun; omega)).trans h9, h10, fun i hi => (F.1 _ _ (by unfold dRun; omega)).trans (h11 i hi)⟩
theorem waC.fr {s' : yS} {x : Int32} {f : Nat → Int32} (h : waC s ps S x f) (F : ∀ a i, (a = 125 ∧ i = 0) ∨ a = 126 → sI s' a i = sI s a i) : waC s' ps S x f := ⟨(F _ _ (by omega)).trans h.1, h.2.1, fun k hk => (F _ _ (by omega)).trans (h.2.2.1 k hk), h.2.2.2⟩
theorem cB.fr {s' : yS} (h : cB s ps S z) (F : ∀ a i, (a = 124 ∧ (i = 2 ∨ i = 3 ∨ i = 4 ∨ i = 6 ∨ i = 7)) ∨ (a = 125 ∧ i = 0) ∨ a = 126 ∨ a = 129 ∨ a = 130 → sI s' a i = sI s a i) : cB s' ps S z := by
  obtain ⟨⟨h1, h2⟩, ⟨h3, h4, h5, h6⟩, h7, h8⟩ := h
  exact ⟨⟨(F _ _ (by omega)).trans h1, fun a ha => (F _ _ (by omega)).trans (h2 a ha)⟩, ⟨(F _ _ (by omega)).trans h3, (F _ _ (by omega)).trans h4, (F _ _ (by omega)).trans h5, (F _ _ (by omega)).trans h6⟩, h7.fr (fun a i ha => F _ _ (by omega)), fun i h1 h2 => (F _ _ (by omega)).trans (h8 i h1 h2)⟩
/-- what a round comes to -/
def HQ (s : yS) (l : List Fn) (ps : PS) (S : List Int32) (e : End) (Q : yS → Prop) : Prop := ∀ s', frM dRun s s' → (∀ x, e.2 = some x → eC s' ps S e.1 x.1 x.2) → (e.2 = none → mC s' l ps S e.1) → Q s'
set_option maxHeartbeats 4000000 in
theorem c_step {Q : yS → Prop} (hok : pgOK l) (hva : vAll l = none) (hm : mkd ps S) (hs : stMa s g p l ps S an na fu) (hz : MOK l z) (hM : mC s l ps S z) (hfu : ¬ aS z = fu) (hfu2 : aS z ≤ fu) (hfu3 : fu ≤ 20000) (H : HQ s l ps S (exe l ps an na z) Q) : W_X2_step s Q := by
  obtain ⟨hg, hp3, r11, r12, hp, hpl, hpu, h13, han⟩ := id hs
  have hgv : g = 37 ∨ g = 55 ∨ g = 73 := hg
  have h12 := hok.2.1
  have hz' := exe_ok (ps := ps) (an := an) (na := na) hok hva hz
  obtain ⟨hfs, hdp, hd40, hmm, hrs, hos⟩ := hz
  obtain ⟨hcF, hcp, hcB, he0, he1⟩ := hM
  cases hF : aF z with
  | nil => rw [hF] at hfs; exact hfs.elim
  | cons r fs =>
  rw [hF] at hfs hdp hcF
  rw [List.length_cons] at hdp
  have h16 := hcp r fs hF
  obtain ⟨⟨hf, hpp, hty, hsk, hlo⟩, hcs⟩ := hfs
  have hfn := fnA_at hf
  have hfo := hok.2.2.1 _ hf
  have h400 := hfo.2.2.2.2.2.2.2.2.1
  have hL12 := hfo.2.2.2.1
  have htf := vTy_ty hok hva hf
  obtain ⟨_, r', k1, k2, k3, k4, k5⟩ := htf.2.2 _ _ hty
  rw [← opA_at hpp] at k1 k4 k5
  rw [← orA_at hpp] at k1 k4
  have hio := hfo.2.2.2.2.2.2.2.2.2.2.1 _ (List.getElem_mem hpp)
  rw [show (fC l[jF r])[jP r] = (opA l[jF r] (jP r), orA l[jF r] (jP r)) by rw [opA_at hpp, orA_at hpp]] at hio
  obtain ⟨i1, i2, i3, i4, i5⟩ := hio
  dsimp only at i1 i2 i3 i4 i5
  have hco := (hp.2 _ hf).2.2.2.2.2.2.1 _ hpp
  rw [← opA_at hpp, ← orA_at hpp] at hco
  have hexe : exe l ps an na z = if opA l[jF r] (jP r) = 29 then xGuard ps (orA l[jF r] (jP r)) r fs z else xDo l an na (opA l[jF r] (jP r)) (orA l[jF r] (jP r)) r fs (stp1 z) := by
    unfold exe; rw [hF]; dsimp only; rw [hfn]
  rw [hexe] at H hz'
  have hww : okW l (aR2 z).length r := ⟨hf, hpp, ⟨_, hty⟩, hlo⟩
  obtain ⟨⟨⟨f1, f2, f3, f4⟩, c14, c15, c17⟩, cw⟩ := id hcF
  have hslen : ((jS r).map Prod.fst).length = (jS r).length := List.length_map _
  have hRn : (aR2 z).length < 2147483647 := by omega
  generalize hO : opA l[jF r] (jP r) = o at *
  generalize hW : orA l[jF r] (jP r) = w at *
  have hlen40 : fs.length < 40 := by omega
  unfold W_X2_step
  rw [nI_ix (n := 2) (by omega), hcB.2.1.1, h13, nI_inj (by omega) (by omega)]
  refine ⟨nI_inU (by omega) (by omega), fun _ => ?_, fun hz => absurd hz hfu⟩
  rw [c15, h16, nI_mul, nI_addU]
  intro x2 e2
  subst e2
  have hin : vp_in (nI (jF r * 400 + jP r)) 4800 := nI_inU (by omega) (by omega)
  refine ⟨g, r11, hg.kd, hin, ?_⟩
  rw [nI_ix (n := jF r * 400 + jP r) (by omega), hco.1]
  intro x5 e5
  subst e5
  refine ⟨g, r11, hg.kd, hin, ?_⟩
  rw [hco.2, nI_s]
  intro w e8
  subst e8
  intro s9 e9
  have F9 : frM (fun a i => a = 123 ∧ i = 16) s s9 := by subst e9; exact frM.rfl'.wI ⟨rfl, rfl⟩
  have p9 : sI s9 123 16 = nI (jP r + 1) := by subst e9; rw [sI_w, if_pos ⟨rfl, rfl⟩]
  have F9r : frM dRun s s9 := F9.mono (fun a i h => by unfold dRun; omega)
  have hF9 : cFs s9 l (aR2 z) (r :: fs) := hcF.stk (pl' := jP r) (fun a i h => F9.1 _ _ (by omega)) ((F9.1 _ _ (by omega)).trans c17) (f3.fr (fun i _ _ => F9.1 _ _ (by omega))) f2
  have s9c := hs.fr F9r
  have b9 : cB s9 ps S z := hcB.fr (fun a i ha => F9.1 _ _ (by omega))
  have cx : ∀ k, k ≤ 29 → (nI o = nI k ↔ o = k) := fun k hk => nI_inj (by omega) (by omega)
  -- new stacks are short
  have top16 : ∀ {f' pl' : Nat} {st' : List Vl} {lo' : Nat → Int32} {n : Nat}, okT l n (f', pl', st', lo') → st'.length ≤ 16 := fun {f' pl' st' lo' n} ht => by
    obtain ⟨q1, q2, q3, _⟩ := ht
    have := ((vTy_ty hok hva q1).2.1 _ _ q3).1
    rw [List.length_map] at this; exact this
  rw [cx 29 (by omega)]
  refine ⟨fun n29 => ⟨nI_inU (by omega) (by omega), nI_inU (by omega) (by omega), ?_⟩, fun h29 => ?_⟩
  · rw [if_neg n29] at H hz'
    rw [b9.2.1.1, nI_s]
    intro s12 e12
    have F12 : frM (fun a i => (a = 123 ∧ i = 16) ∨ (a = 124 ∧ i = 2)) s s12 := by subst e12; exact (F9.mono (fun a i h => Or.inl h)).wI (by omega)
    have F12r : frM dRun s s12 := F12.mono (fun a i h => by unfold dRun; omega)
    have n12 : ∀ a i, ¬ (a = 124 ∧ i = 2) → sI s12 a i = sI s9 a i := fun a i h => by subst e12; rw [sI_w, if_neg h]
    have st12 : sI s12 124 2 = nI (aS z + 1) := by subst e12; rw [sI_w, if_pos ⟨rfl, rfl⟩]
    clear e12
    have p12 : sI s12 123 16 = nI (jP r + 1) := (n12 _ _ (by omega)).trans p9
    have hF12 : cFs s12 l (aR2 z) (r :: fs) := hF9.stk (pl' := jP r) (fun a i h => n12 _ _ (by omega)) ((n12 _ _ (by omega)).trans hF9.1.2.2.2) (hF9.1.1.2.2.1.fr (fun i _ _ => n12 _ _ (by omega))) f2
    have s12c := hs.fr F12r
    obtain ⟨_, _, r11', _, hp', _, _, _, han'⟩ := id s12c
    have b12 : cB s12 ps S (stp1 z) := by
      obtain ⟨⟨q1, q2⟩, ⟨q3, q4, q5, q6⟩, q7, q8⟩ := b9
      exact ⟨⟨(n12 _ _ (by omega)).trans q1, fun a ha => (n12 _ _ (by omega)).trans (q2 a ha)⟩, ⟨st12, (n12 _ _ (by omega)).trans q4, (n12 _ _ (by omega)).trans q5, (n12 _ _ (by omega)).trans q6⟩, q7.fr (fun a i ha => n12 _ _ (by omega)), fun i h1 h2 => (n12 _ _ (by omega)).trans (q8 i h1 h2)⟩
    have e012 : sI s12 124 0 = -1 := by rw [F12.1 _ _ (by omega)]; exact he0
    have e112 : sI s12 124 1 = 0 := by rw [F12.1 _ _ (by omega)]; exact he1
    have dsr : ∀ {u t : yS}, frM dStk u t → frM dRun u t := fun h => h.mono (fun a i h => by unfold dStk at h; unfold dRun; omega)
    -- a plain step
    have plain : ∀ {q : Fr} {fs' : List Fr} {s' : yS}, HQ s l ps S (setF (stp1 z) (q :: fs'), none) Q → frM dStk s12 s' → cFs s' l (aR2 z) (q :: fs') → sI s' 123 16 = nI (jP q) → Q s' := fun {q fs' s'} H F' c' p' => by
      refine H s' (F12r.trans (dsr F')) (fun x hx => no_so hx) (fun _ => ⟨c', fun q2 fs2 he => ?_, ?_, ?_, ?_⟩)
      · have he : q :: fs' = q2 :: fs2 := he
        cases he; exact p'
      · exact (b12.fr (fun a i ha => F'.1 _ _ (by unfold dStk; omega)) : cB s' ps S (stp1 z))
      · rw [F'.1 _ _ (by unfold dStk; omega)]; exact e012
      · rw [F'.1 _ _ (by unfold dStk; omega)]; exact e112
    -- raising
    have raise : ∀ {c : Int32} {q : Fr}, HQ s l ps S (rai l c (q :: fs) (stp1 z)) Q → raC s12 l (aR2 z) (rsd l c (q :: fs)) c Q := fun {c q} H => by
      unfold rai at H
      refine ⟨fun fs' hr s' F' c' p' => ?_, fun hr s' F' a0 a1 => ?_⟩
      · rw [hr] at H
        refine H s' (F12r.trans (dsr F')) (fun x hx => no_so hx) (fun _ => ⟨c', p', ?_, ?_, ?_⟩)
        · exact (b12.fr (fun a i ha => F'.1 _ _ (by unfold dStk; omega)) : cB s' ps S (stp1 z))
        · rw [F'.1 _ _ (by unfold dStk; omega)]; exact e012
        · rw [F'.1 _ _ (by unfold dStk; omega)]; exact e112
      · rw [hr] at H
        refine H s' (F12r.trans (F'.mono (fun a i h => by unfold dStk at h; unfold dRun; omega))) (fun x hx => ?_) (fun hx => so_no hx)
        have hx : (1, c) = x := Option.some.inj hx
        subst hx
        exact ⟨(b12.fr (fun a i ha => F'.1 _ _ (by unfold dStk; omega)) : cB s' ps S (stp1 z)), a0, a1⟩
    unfold xDo at H hz'
    rw [nI_ltU (by omega) (by omega), nI_ltU (by omega) (by omega), nI_ltU (by omega) (by omega), nI_ltU (by omega) (by omega)]
    refine ⟨fun g5 => ⟨fun g17 => ⟨fun g20 => ⟨fun g24 => ?_, fun l24 => ?_⟩, fun l20 => ?_⟩, fun l17 => ?_⟩, fun l5 => ?_⟩
    · -- calls and the like
      rw [if_neg (by omega), if_neg (by omega), if_neg (by omega), if_neg (by omega), if_neg (by omega), if_neg (by omega), if_neg (by omega)] at H hz'
      unfold W_X2_doOther
      rw [cx 25 (by omega), cx 26 (by omega), cx 27 (by omega)]
      refine ⟨fun n25 => ⟨fun n26 => ⟨fun n27 => ?_, fun h27 => ?_⟩, fun h26 => ?_⟩, fun h25 => ?_⟩
      · -- throw
        rw [if_neg n25, if_neg n26, if_neg n27] at H
        have h28 : o = 28 := by omega
        subst h28
        clear i2 i3 i4 i5
        rw [chg_if (by omega), tkT_some] at k1
        have hl1 : 1 ≤ (jS r).length := by rw [← hslen, k1, List.length_cons]; omega
        have ht0 : ((jS r).getD 0 v0).1 = false := by rw [← fst_getD (by omega), k1]; rfl
        obtain ⟨⟨⟨f1', f2', f3', f4'⟩, c14', c15', c17'⟩, cw'⟩ := id hF12
        have dr0 : (jS r).drop 0 = jS r := List.drop_zero
        refine c_pop1 (fs := fs) (r := r) (d := 0) (e := 1) (R := aR2 z) rfl hlen40 f2 (by rw [dr0]; exact c17') (by rw [dr0]; exact f3') (by omega) (fun s1 F1 t1 k1' => ?_)
        rw [cvt_n ht0]
        have F1s : frM dStk s12 s1 := F1.mono (fun a i h => by unfold dStk; omega)
        exact c_raise (r := (jF r, jP r, (jS r).drop 1, jL r)) hok hg F1s ((F1s.2.2 _ _).trans r11') (hp'.fr (fun a i ha => F1.1 _ _ (by omega))) (hF12.stk (fun a i h => F1.1 _ _ (by omega)) t1 k1' (by rw [List.length_drop]; omega)) ((F1.1 _ _ (by omega)).trans p12) hww hcs (by omega) (raise H)
      · -- return
        rw [if_neg n25, if_neg n26, if_pos h27] at H hz'
        subst h27
        have k1 : (if fR l[jF r] = 0 then some ((jS r).map Prod.fst) else tkT (rTy l[jF r]) ((jS r).map Prod.fst)) = some r' := k1
        have hret : ¬ fR (fnA l (jF r)) = 0 → (jS r).map Prod.fst = rTy l[jF r] :: r' := fun h => by
          rw [hfn] at h; rw [if_neg h, tkT_some] at k1; exact k1
        refine c_leave hok hg r11' hp' hF12 (by omega) hf (fun h => by rw [← hslen, hret h, List.length_cons]; omega) (fun h => ?_) (fun he => ?_) (fun q fs2 he hR => ?_) (fun he s' F' a0 a1 => ?_) (fun q fs2 he s' F' c' p' => ?_)
        · have hl1 : 1 ≤ (jS r).length := by rw [← hslen, hret h, List.length_cons]; omega
          rw [← fst_getD (by omega), hret h, hfn]; rfl
        · -- the lowest frame is the first function's
          subst he
          rw [hfn]
          exact hfo.2.2.2.2.2.2.1 hcs
        · subst he
          unfold xRet at hz'
          dsimp only at hz'
          have := top16 (hz' rfl).1.1
          rw [if_neg hR, List.length_cons] at this
          omega
        · subst he
          unfold xRet at H
          dsimp only at H
          refine H s' (F12r.trans (F'.mono (fun a i h => by unfold dStk at h; unfold dRun; omega))) (fun x hx => ?_) (fun hx => so_no hx)
          have hx := Option.some.inj hx
          subst hx
          exact ⟨(b12.fr (fun a i ha => F'.1 _ _ (by unfold dStk; omega)) : cB s' ps S (stp1 z)), a0, a1⟩
        · subst he
          unfold xRet at H
          exact plain H F' c' p'
      · -- a call outside
        rw [if_neg n25, if_pos h26] at H hz'
        subst h26
        obtain ⟨c, hc, ec⟩ := i5 (Or.inl rfl)
        have k1 : (tkI (ix w % 4) ((jS r).map Prod.fst)).map (fun u => false :: u) = some r' := k1
        obtain ⟨u, hu⟩ : ∃ u, tkI (ix w % 4) ((jS r).map Prod.fst) = some u := by
          cases hq : tkI (ix w % 4) ((jS r).map Prod.fst) with
          | none => rw [hq] at k1; exact no_so k1
          | some u => exact ⟨u, rfl⟩
        have hta := tkI_at hu
        rw [ec, nI_ix (by omega)] at hta
        unfold xHost at H hz'
        rw [ec, nI_ix (by omega)] at H hz'
        have h16' := top16 (hz' rfl).1.1
        rw [List.length_cons] at h16'
        rw [ec]
        refine c_callOutside (an := an) (na := na) hc hF12 p12 hlen40 (by show aO z < _; omega) b12.2.1.2.1 han' (by rw [← hslen]; exact hta.2.1) (fun i hi => by rw [← fst_getD (by have := hta.2.1; rw [hslen] at this; omega)]; exact hta.2.2 i hi) (by omega) (fun s' F' o' t' c' p' => ?_)
        refine H s' (F12r.trans (F'.mono (fun a i h => by unfold dStk at h; unfold dRun; omega))) (fun x hx => no_so hx) (fun _ => ⟨c', fun q2 fs2 he => ?_, ?_, ?_, ?_⟩)
        · cases he; exact p'
        · obtain ⟨⟨q1, q2⟩, ⟨q3, q4, q5, q6⟩, q7, q8⟩ := b12
          refine ⟨⟨(F'.1 _ _ (by unfold dStk; omega)).trans q1, fun a ha => (F'.1 _ _ (by unfold dStk; omega)).trans (q2 a ha)⟩, ⟨(F'.1 _ _ (by unfold dStk; omega)).trans q3, o', (F'.1 _ _ (by unfold dStk; omega)).trans q5, (F'.1 _ _ (by unfold dStk; omega)).trans q6⟩, q7.fr (fun a i ha => F'.1 _ _ (by unfold dStk; omega)), fun i h1 h2 => ?_⟩
          have h1 : i < 5 * (aO z + 1) := h1
          show sI s' 129 i = (if aO z < 256 then trN (aT z) (aO z) c (jS r) (ans an na (aO z)) else aT z) i
          rw [t' i]
          show (if aO z < 256 then trN (sI s12 129) (aO z) c (jS r) (ans an na (aO z)) i else sI s12 129 i) = _
          have hold : i < 5 * aO z → sI s12 129 i = aT z i := fun h => q8 i h h2
          by_cases c256 : aO z < 256
          · rw [if_pos c256, if_pos c256]
            unfold trN
            by_cases d0 : i = 5 * aO z
            · rw [if_pos d0, if_pos d0]
            rw [if_neg d0, if_neg d0]
            by_cases d1 : i = 5 * aO z + 1
            · rw [if_pos d1, if_pos d1]
            rw [if_neg d1, if_neg d1]
            by_cases d2 : i = 5 * aO z + 2
            · rw [if_pos d2, if_pos d2]
            rw [if_neg d2, if_neg d2]
            by_cases d3 : i = 5 * aO z + 3
            · rw [if_pos d3, if_pos d3]
            rw [if_neg d3, if_neg d3]
            by_cases d4 : i = 5 * aO z + 4
            · rw [if_pos d4, if_pos d4]
            rw [if_neg d4, if_neg d4]
            exact hold (by omega)
          · rw [if_neg c256, if_neg c256]; exact hold (by omega)
        · rw [F'.1 _ _ (by unfold dStk; omega)]; exact e012
        · rw [F'.1 _ _ (by unfold dStk; omega)]; exact e112
      · -- a call
        rw [if_pos h25] at H hz'
        subst h25
        obtain ⟨c, hc, ec⟩ := i4 rfl
        have ecx : ix w = c := by rw [ec, nI_ix (by omega)]
        have k1 : (tkQ (l.getD (ix w) dFn) (fP (l.getD (ix w) dFn)) ((jS r).map Prod.fst)).map (fun u => if fR (l.getD (ix w) dFn) = 0 then u else rTy (l.getD (ix w) dFn) :: u) = some r' := k1
        obtain ⟨u, hu⟩ : ∃ u, tkQ (l.getD (ix w) dFn) (fP (l.getD (ix w) dFn)) ((jS r).map Prod.fst) = some u := by
          cases hq : tkQ (l.getD (ix w) dFn) (fP (l.getD (ix w) dFn)) ((jS r).map Prod.fst) with
          | none => rw [hq] at k1; exact no_so k1
          | some u => exact ⟨u, rfl⟩
        have hqa := tkQ_at hu
        rw [ecx, show l.getD c dFn = fnA l c from rfl] at hqa
        obtain ⟨⟨⟨f1', f2', f3', f4'⟩, c14', c15', c17'⟩, cw'⟩ := id hF12
        unfold xCall at H
        rw [c14', nI_s, nI_inj (by omega) (by omega)]
        refine ⟨fun hne => ?_, fun heq => ?_⟩
        · rw [if_neg hne, ecx] at H
          rw [ec]
          refine c_enter hok hg r11' hp' hF12 p12 (by omega) hc b12.2.1.2.2.2 (by show aD z ≤ 40; exact hd40) (by have := hqa.2.1; rw [hslen] at this; exact this) (fun j hj => ?_) (fun s' F' c' p' m' => ?_)
          · rw [← fst_getD (by have := hqa.2.1; rw [hslen] at this; omega)]; exact hqa.2.2 j hj
          · refine H s' (F12r.trans (F'.mono (fun a i h => by unfold dStk at h; unfold dRun; omega))) (fun x hx => no_so hx) (fun _ => ⟨c', fun q2 fs2 he => ?_, ?_, ?_, ?_⟩)
            · cases he; exact p'
            · obtain ⟨⟨q1, q2⟩, ⟨q3, q4, q5, q6⟩, q7, q8⟩ := b12
              exact ⟨⟨(F'.1 _ _ (by unfold dStk; omega)).trans q1, fun a ha => (F'.1 _ _ (by unfold dStk; omega)).trans (q2 a ha)⟩, ⟨(F'.1 _ _ (by unfold dStk; omega)).trans q3, (F'.1 _ _ (by unfold dStk; omega)).trans q4, (F'.1 _ _ (by unfold dStk; omega)).trans q5, m'⟩, q7.fr (fun a i ha => F'.1 _ _ (by unfold dStk; omega)), fun i h1 h2 => (F'.1 _ _ (by unfold dStk; omega)).trans (q8 i h1 h2)⟩
            · rw [F'.1 _ _ (by unfold dStk; omega)]; exact e012
            · rw [F'.1 _ _ (by unfold dStk; omega)]; exact e112
        · rw [if_pos heq] at H
          exact c_raise hok hg frM.rfl' r11' hp' hF12 p12 hww hcs (by omega) (raise H)
    · -- rows
      rw [if_neg (by omega), if_neg (by omega), if_neg (by omega)] at H hz'
      have hmm12 : ∀ a, a < aU z → sI s12 130 a = aM (stp1 z) a := b12.1.2
      by_cases c21 : o = 21
      · rw [if_pos c21] at H hz'
        subst c21
        have k1 : (tkT false ((jS r).map Prod.fst)).map (fun u => true :: u) = some r' := k1
        obtain ⟨u, hu⟩ : ∃ u, tkT false ((jS r).map Prod.fst) = some u := by
          cases hq : tkT false ((jS r).map Prod.fst) with
          | none => rw [hq] at k1; exact no_so k1
          | some u => exact ⟨u, rfl⟩
        rw [tkT_some] at hu
        have hl1 : 1 ≤ (jS r).length := by rw [← hslen, hu, List.length_cons]; omega
        have ht0 : ((jS r).getD 0 v0).1 = false := by rw [← fst_getD (by omega), hu]; rfl
        unfold xNew at H
        rw [show aU (stp1 z) = aU z from rfl, show aR2 (stp1 z) = aR2 z from rfl] at H
        refine c_doNew hok hg r11' hp' hF12 p12 hlen40 hww hcs hmm.1 b12.1.1 hl1 ht0 (fun hn s' F' m' u' h256 h4096 kp t17 tv lo' p' => ?_) (fun hn => raise (by rw [if_pos hn] at H; exact H))
        rw [if_neg hn] at H
        have hdl : ((jS r).drop 1).length + 1 ≤ 16 := by rw [List.length_drop]; omega
        refine H s' (F12r.trans (F'.mono (fun a i h => by unfold dStk at h; unfold dRun; omega))) (fun x hx => no_so hx) (fun _ => ⟨?_, fun q2 fs2 he => ?_, ?_, ?_, ?_⟩)
        · show cFs s' l (aR2 z ++ [(aU z, ix (tpV (jS r) 0))]) _
          have hFg : cFs s12 l (aR2 z ++ [(aU z, ix (tpV (jS r) 0))]) (r :: fs) := by
            obtain ⟨⟨q1, q2⟩, q3⟩ := hF12
            exact ⟨⟨q1.gr hsk (by rw [hfn]; exact hlo) hRn, q2⟩, q3.gr hRn hcs⟩
          refine hFg.stk kp (by rw [t17]; rfl) (fun i hi => ?_) (by rw [List.length_cons]; omega)
          rw [List.length_cons] at hi
          cases i with
          | zero =>
            show sI s' 131 (16 * fs.length + (((jS r).drop 1).length + 1 - 1 - 0)) = cvt (aR2 z ++ [(aU z, ix (tpV (jS r) 0))]) (true, nI ((aR2 z).length + 1))
            rw [show ((jS r).drop 1).length + 1 - 1 - 0 = ((jS r).drop 1).length by omega, tv]
            unfold cvt
            rw [if_pos rfl]
            show _ = nI ((rwF (aR2 z ++ [(aU z, ix (tpV (jS r) 0))]) (ix (nI ((aR2 z).length + 1)))).1 * 512 + (rwF (aR2 z ++ [(aU z, ix (tpV (jS r) 0))]) (ix (nI ((aR2 z).length + 1)))).2)
            rw [nI_ix (by omega)]
            have hrw : rwF (aR2 z ++ [(aU z, ix (tpV (jS r) 0))]) ((aR2 z).length + 1) = (aU z, ix (tpV (jS r) 0)) := by
              unfold rwF
              rw [if_neg (by omega), Nat.add_sub_cancel, List.getD_eq_getElem?_getD, List.getElem?_append_right (Nat.le_refl _), Nat.sub_self]; rfl
            rw [hrw]
          | succ i =>
            have hdi : i < ((jS r).drop 1).length := by omega
            show sI s' 131 (16 * fs.length + (((jS r).drop 1).length + 1 - 1 - (i + 1))) = cvt (aR2 z ++ [(aU z, ix (tpV (jS r) 0))]) ((jS r).drop 1)[i]
            rw [cvt_gr (n := 0) (hsk.drop _ (List.getElem_mem hdi)) hRn, lo' _ (by omega), show ((jS r).drop 1).length + 1 - 1 - (i + 1) = ((jS r).drop 1).length - 1 - i by omega]
            exact (hF12.1.1.2.2.1.drop 1) i hdi
        · cases he; exact p'
        · obtain ⟨⟨q1, q2⟩, ⟨q3, q4, q5, q6⟩, q7, q8⟩ := b12
          refine ⟨⟨u', fun a ha => ?_⟩, ⟨(F'.1 _ _ (by unfold dStk; omega)).trans q3, (F'.1 _ _ (by unfold dStk; omega)).trans q4, (F'.1 _ _ (by unfold dStk; omega)).trans q5, (F'.1 _ _ (by unfold dStk; omega)).trans q6⟩, q7.fr (fun a i ha => F'.1 _ _ (by unfold dStk; omega)), fun i h1 h2 => (F'.1 _ _ (by unfold dStk; omega)).trans (q8 i h1 h2)⟩
          have ha : a < aU z + ix (tpV (jS r) 0) := ha
          show sI s' 130 a = (if aU z ≤ a ∧ a < aU z + ix (tpV (jS r) 0) then 0 else aM z a)
          rw [m' a]
          by_cases c : aU z ≤ a ∧ a < aU z + ix (tpV (jS r) 0)
          · rw [if_pos c, if_pos c]
          · rw [if_neg c, if_neg c]; exact q2 a (show a < aU z by omega)
        · rw [F'.1 _ _ (by unfold dStk; omega)]; exact e012
        · rw [F'.1 _ _ (by unfold dStk; omega)]; exact e112
      rw [if_neg c21] at H hz'
      by_cases c22 : o = 22
      · rw [if_pos c22] at H hz'
        subst c22
        have k1 : ((tkT false ((jS r).map Prod.fst)).bind (tkT true)).map (fun u => false :: u) = some r' := k1
        obtain ⟨u, hu⟩ : ∃ u, (tkT false ((jS r).map Prod.fst)).bind (tkT true) = some u := by
          cases hq : (tkT false ((jS r).map Prod.fst)).bind (tkT true) with
          | none => rw [hq] at k1; exact no_so k1
          | some u => exact ⟨u, rfl⟩
        rw [Option.bind_eq_some_iff] at hu
        obtain ⟨q, hq1, hq2⟩ := hu
        rw [tkT_some] at hq1 hq2
        subst hq2
        have hl2 : 2 ≤ (jS r).length := by rw [← hslen, hq1, List.length_cons, List.length_cons]; omega
        unfold xGet at H
        rw [show aR2 (stp1 z) = aR2 z from rfl] at H
        refine c_doRowGP (z := stp1 z) (Or.inl rfl) hok hg r11' hp' hF12 p12 hlen40 hww hcs hmm hRn hmm12 hsk (by simp; exact hl2) ⟨?_, ?_, fun h => by omega⟩ (fun _ hn s' F' c' p' => plain (by rw [if_neg hn] at H; exact H) F' c' p') (fun _ hn => raise (by rw [if_pos hn] at H; exact H)) (fun h => by omega) (fun h => by omega)
        · simp only [show ¬ (22 = 23) by decide, if_false]
          rw [← fst_getD (by omega), hq1]; rfl
        · simp only [show ¬ (22 = 23) by decide, if_false]
          rw [← fst_getD (by omega), hq1]; rfl
      rw [if_neg c22] at H hz'
      by_cases c23 : o = 23
      · rw [if_pos c23] at H hz'
        subst c23
        have k1 : (tkI 2 ((jS r).map Prod.fst)).bind (tkT true) = some r' := k1
        rw [Option.bind_eq_some_iff] at k1
        obtain ⟨q, hq1, hq2⟩ := k1
        rw [tkI_some] at hq1
        rw [tkT_some] at hq2
        subst hq2
        have hq1 : (jS r).map Prod.fst = false :: false :: true :: r' := hq1
        have hl3 : 3 ≤ (jS r).length := by rw [← hslen, hq1, List.length_cons, List.length_cons, List.length_cons]; omega
        unfold xPut at H
        rw [show aR2 (stp1 z) = aR2 z from rfl] at H
        refine c_doRowGP (z := stp1 z) (Or.inr rfl) hok hg r11' hp' hF12 p12 hlen40 hww hcs hmm hRn hmm12 hsk (by simp; exact hl3) ⟨?_, ?_, fun _ => ?_⟩ (fun h => by omega) (fun h => by omega) (fun _ hn s' F' m' c' p' => ?_) (fun _ hn => raise (by rw [if_pos hn] at H; exact H))
        · simp only [if_true]
          rw [← fst_getD (by omega), hq1]; rfl
        · simp only [if_true]
          rw [← fst_getD (by omega), hq1]; rfl
        · rw [← fst_getD (by omega), hq1]; rfl
        · rw [if_neg hn] at H
          refine H s' (F12r.trans (F'.mono (fun a i h => by unfold dStk at h; unfold dRun; omega))) (fun x hx => no_so hx) (fun _ => ⟨c', fun q2 fs2 he => ?_, ?_, ?_, ?_⟩)
          · cases he; exact p'
          · obtain ⟨⟨q1, q2⟩, ⟨q3, q4, q5, q6⟩, q7, q8⟩ := b12
            refine ⟨⟨(F'.1 _ _ (by unfold dStk; omega)).trans q1, fun a ha => ?_⟩, ⟨(F'.1 _ _ (by unfold dStk; omega)).trans q3, (F'.1 _ _ (by unfold dStk; omega)).trans q4, (F'.1 _ _ (by unfold dStk; omega)).trans q5, (F'.1 _ _ (by unfold dStk; omega)).trans q6⟩, q7.fr (fun a i ha => F'.1 _ _ (by unfold dStk; omega)), fun i h1 h2 => (F'.1 _ _ (by unfold dStk; omega)).trans (q8 i h1 h2)⟩
            show sI s' 130 a = upF (aM z) ((rwF (aR2 z) (ix (tpV (jS r) 2))).1 + ix (tpV (jS r) 1)) (tpV (jS r) 0) a
            rw [m' a]
            by_cases c : a = (rwF (aR2 z) (ix (tpV (jS r) 2))).1 + ix (tpV (jS r) 1)
            · rw [if_pos c, c, upF_at]
            · rw [if_neg c, upF_ne c]; exact q2 a ha
          · rw [F'.1 _ _ (by unfold dStk; omega)]; exact e012
          · rw [F'.1 _ _ (by unfold dStk; omega)]; exact e112
      rw [if_neg c23, if_pos (by omega)] at H hz'
      have c24 : o = 24 := by omega
      subst c24
      have k1 : (tkT true ((jS r).map Prod.fst)).map (fun u => false :: u) = some r' := k1
      obtain ⟨u, hu⟩ : ∃ u, tkT true ((jS r).map Prod.fst) = some u := by
        cases hq : tkT true ((jS r).map Prod.fst) with
        | none => rw [hq] at k1; exact no_so k1
        | some u => exact ⟨u, rfl⟩
      rw [tkT_some] at hu
      have hl1 : 1 ≤ (jS r).length := by rw [← hslen, hu, List.length_cons]; omega
      have ht0 : ((jS r).getD 0 v0).1 = true := by rw [← fst_getD (by omega), hu]; rfl
      unfold xSize at H
      rw [show aR2 (stp1 z) = aR2 z from rfl] at H
      exact c_doRowS hF12 p12 hlen40 hmm hRn hsk hl1 ht0 (fun s' F' c' p' => plain H F' c' p')
    · -- jumps
      rw [if_neg (by omega), if_neg (by omega), if_pos (by omega)] at H hz'
      have hj : 17 < o ∧ o < 21 := by omega
      obtain ⟨k, hk, ek⟩ := i3 hj
      unfold xJump at H
      have hst : ¬ o = 18 → (jS r).map Prod.fst = false :: r' := fun h => by rw [chg_if (by omega), tkT_some] at k1; exact k1
      refine c_doJump hj ek (by omega) hF12 p12 hlen40 (fun h => by rw [← hslen, hst h, List.length_cons]; omega) (fun h => ?_) (fun h s' F' c' p' => plain (by rw [if_pos h] at H; exact H) F' c' p') (fun h s' F' c' p' => plain (by rw [if_neg h] at H; exact H) F' c' p')
      have hl1 : 1 ≤ (jS r).length := by rw [← hslen, hst h, List.length_cons]; omega
      rw [← fst_getD (by omega), hst h]; rfl
    · -- ints
      rw [if_neg (by omega), if_pos (by omega)] at H hz'
      rw [chg_int ⟨by omega, by omega⟩] at k1
      obtain ⟨u, hu⟩ : ∃ u, tkI 2 ((jS r).map Prod.fst) = some u := by
        cases hq : tkI 2 ((jS r).map Prod.fst) with
        | none => rw [hq] at k1; exact no_so k1
        | some u => exact ⟨u, rfl⟩
      have hta := tkI_at hu
      have hl2 : 2 ≤ (jS r).length := by rw [← hslen]; exact hta.2.1
      unfold xInts at H
      refine c_doInts ⟨by omega, by omega⟩ hok hg r11' hp' hF12 p12 hlen40 hww hcs hl2 ⟨?_, ?_⟩ (fun hn s' F' c' p' => plain (by rw [if_neg hn] at H; exact H) F' c' p') (fun hn => raise (by rw [if_pos hn] at H; exact H))
      · rw [← fst_getD (by omega)]; exact hta.2.2 0 (by omega)
      · rw [← fst_getD (by omega)]; exact hta.2.2 1 (by omega)
    · -- moves
      rw [if_pos (by omega)] at H hz'
      unfold xMove at H hz'
      have h16' := top16 (hz' rfl).1.1
      refine c_doMove (by omega) hF12 p12 hlen40 (fun h => ?_) (fun h => ?_) (fun h => ?_) (fun h => ?_) (fun h => ?_) (fun s' F' c' p' => plain H F' c' p')
      · obtain ⟨k, hk, ek⟩ := i2 h; exact ⟨k, by omega, ek⟩
      · rw [← hslen]
        rcases h with h | h | h
        · subst h
          have k1 : (match (jS r).map Prod.fst with
            | [] => none
            | _ :: u => some u) = some r' := k1
          cases hm2 : (jS r).map Prod.fst with
          | nil => rw [hm2] at k1; exact no_so k1
          | cons a u => rw [List.length_cons]; omega
        · subst h
          have k1 : (match (jS r).map Prod.fst with
            | [] => none
            | a :: u => some (a :: a :: u)) = some r' := k1
          cases hm2 : (jS r).map Prod.fst with
          | nil => rw [hm2] at k1; exact no_so k1
          | cons a u => rw [List.length_cons]; omega
        · subst h
          have k1 : tkT (rbit l[jF r] (ix w)) ((jS r).map Prod.fst) = some r' := k1
          rw [tkT_some] at k1
          rw [k1, List.length_cons]; omega
      · rw [← hslen]
        subst h
        have k1 : (match (jS r).map Prod.fst with
          | a :: b :: u => some (b :: a :: u)
          | _ => none) = some r' := k1
        cases hm2 : (jS r).map Prod.fst with
        | nil => rw [hm2] at k1; exact no_so k1
        | cons a u =>
          cases u with
          | nil => rw [hm2] at k1; exact no_so k1
          | cons b u => rw [List.length_cons, List.length_cons]; omega
      · rcases h with h | h | h
        · subst h
          have h16' : ((false, w) :: jS r).length ≤ 16 := h16'
          rw [List.length_cons] at h16'; omega
        · subst h
          have h16' : ((jS r).getD 0 v0 :: jS r).length ≤ 16 := h16'
          rw [List.length_cons] at h16'; omega
        · subst h
          have h16' : ((rbit (fnA l (jF r)) (ix w), jL r (ix w)) :: jS r).length ≤ 16 := h16'
          rw [List.length_cons] at h16'; omega
      · subst h
        have k1 : tkT (rbit l[jF r] (ix w)) ((jS r).map Prod.fst) = some r' := k1
        rw [tkT_some] at k1
        have hl1 : 1 ≤ (jS r).length := by rw [← hslen, k1, List.length_cons]; omega
        rw [← fst_getD (by omega), k1, hfn]; rfl
  · -- a guard
    rw [if_pos h29] at H hz'
    subst h29
    obtain ⟨c, hc, ec⟩ := i5 (Or.inr rfl)
    have k1 : (tkI (ix w % 4) ((jS r).map Prod.fst)).map (fun _ => (jS r).map Prod.fst) = some r' := k1
    obtain ⟨u, hu⟩ : ∃ u, tkI (ix w % 4) ((jS r).map Prod.fst) = some u := by
      cases hq : tkI (ix w % 4) ((jS r).map Prod.fst) with
      | none => rw [hq] at k1; exact no_so k1
      | some u => exact ⟨u, rfl⟩
    have hta := tkI_at hu
    rw [ec, nI_ix (by omega)] at hta
    unfold xGuard at H
    rw [ec, nI_ix (by omega)] at H
    rw [ec]
    obtain ⟨_, _, _, r12', _, hpl', hpu', _, _⟩ := id s9c
    refine c_guardM hc hp3 r12' hm hpu' hpl' hF9 hlen40 b9.2.1.2.2.1 (by rw [← hslen]; exact hta.2.1) (fun i hi => by rw [← fst_getD (by have := hta.2.1; rw [hslen] at this; omega)]; exact hta.2.2 i hi) b9.2.2.1 (fun hne s' F' p' w' => ?_) (fun h0 s' F' a0 a1 => ?_)
    · rw [if_neg hne] at H
      refine H s' (F9r.trans (F'.mono (fun a i h => by unfold dPa at h; unfold dRun; omega))) (fun x hx => no_so hx) (fun _ => ⟨?_, fun q2 fs2 he => ?_, ?_, ?_, ?_⟩)
      · obtain ⟨⟨⟨f1', f2', f3', f4'⟩, c14', c15', c17'⟩, cw'⟩ := hF9
        exact ⟨⟨⟨(F'.1 _ _ (by unfold dPa; omega)).trans f1', f2', f3'.fr (fun i _ _ => F'.1 _ _ (by unfold dPa; omega)), f4'.fr (fun i _ _ => F'.1 _ _ (by unfold dPa; omega))⟩, (F'.1 _ _ (by unfold dPa; omega)).trans c14', (F'.1 _ _ (by unfold dPa; omega)).trans c15', (F'.1 _ _ (by unfold dPa; omega)).trans c17'⟩, cw'.fr (fun a i ha => F'.1 _ _ (by unfold dPa; omega))⟩
      · cases he; rw [F'.1 _ _ (by unfold dPa; omega)]; exact p9
      · obtain ⟨⟨q1, q2⟩, ⟨q3, q4, q5, q6⟩, q7, q8⟩ := b9
        exact ⟨⟨(F'.1 _ _ (by unfold dPa; omega)).trans q1, fun a ha => (F'.1 _ _ (by unfold dPa; omega)).trans (q2 a ha)⟩, ⟨(F'.1 _ _ (by unfold dPa; omega)).trans q3, (F'.1 _ _ (by unfold dPa; omega)).trans q4, p', (F'.1 _ _ (by unfold dPa; omega)).trans q6⟩, w', fun i h1 h2 => (F'.1 _ _ (by unfold dPa; omega)).trans (q8 i h1 h2)⟩
      · rw [F'.1 _ _ (by unfold dPa; omega), F9.1 _ _ (by omega)]; exact he0
      · rw [F'.1 _ _ (by unfold dPa; omega), F9.1 _ _ (by omega)]; exact he1
    · rw [if_pos h0] at H
      refine H s' (F9r.trans (F'.mono (fun a i h => by unfold dRun; omega))) (fun x hx => ?_) (fun hx => so_no hx)
      have hx := Option.some.inj hx
      subst hx
      exact ⟨(b9.fr (fun a i ha => F'.1 _ _ (by omega)) : cB s' ps S z), a0, a1⟩
end
