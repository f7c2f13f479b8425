theorem bt_shr2 {x : Int32} {k c : Nat} (hk : k < 32) (hc : 32 ≤ k + c) (hc2 : c < 32) : bt (x >>> (nI k &&& 31)) c = bt x 31 := by
  unfold bt
  rw [m31 hk, Int32.toBitVec_shiftRight, BitVec.sshiftRight_eq', sm32 hk, BitVec.getLsbD_sshiftRight, if_neg (by omega), BitVec.msb_eq_getLsbD_last, decide_eq_false (by omega)]
  simp
theorem enc_shr {st : List Bool} {k : Nat} (hl : st.length ≤ 18) (hk : k < 32) : (enc st >>> (nI k &&& 31) = 0 ↔ ∀ j, k ≤ j → j < st.length → bt (enc st) j = false) := by
  have hz : ∀ j, st.length ≤ j → j < 32 → bt (enc st) j = false := fun j h1 h2 => by rw [enc_bt st j (by omega) h2, dif_neg (by omega)]
  constructor
  · intro h j h1 h2
    have := bt_shr (x := enc st) (k := k) (c := j - k) hk (by omega)
    rw [h, bt_0, show k + (j - k) = j by omega] at this
    exact this.symm
  · intro h
    apply bt_ext
    intro c hc
    rw [bt_0]
    by_cases hkc : k + c < 32
    · rw [bt_shr hk hkc]
      by_cases h1 : k + c < st.length
      · exact h _ (by omega) h1
      · exact hz _ (by omega) hkc
    · rw [bt_shr2 hk (by omega) hc]; exact hz 31 (by omega) (by omega)
theorem enc_false (r : List Bool) : enc (false :: r) = enc r := by
  show enc r ||| (0 <<< (nI r.length &&& 31)) = enc r
  rw [Int32.zero_shiftLeft, Int32.or_zero]
theorem enc_rep (r : List Bool) : ∀ n, enc (List.replicate n false ++ r) = enc r
  | 0 => rfl
  | n + 1 => by rw [List.replicate_succ, List.cons_append, enc_false]; exact enc_rep r n
theorem tkI_iff {n : Nat} {st : List Bool} (hl : st.length ≤ 16) (hn : n ≤ st.length) : (enc st >>> (nI (st.length - n) &&& 31) = 0 ↔ ∃ r, tkI n st = some r) := by
  rw [enc_shr (by omega) (by omega)]
  constructor
  · intro h
    refine ⟨st.drop n, ?_⟩
    rw [tkI_some]
    conv => lhs; rw [← List.take_append_drop n st]
    congr 1
    rw [List.eq_replicate_iff]
    refine ⟨by rw [List.length_take]; omega, fun b hb => ?_⟩
    obtain ⟨i, hi, e⟩ := List.getElem_of_mem hb
    rw [List.length_take] at hi
    rw [List.getElem_take] at e
    have := h (st.length - 1 - i) (by omega) (by omega)
    rw [enc_bt st _ (by omega) (by omega), dif_pos (by omega)] at this
    have i2 : st.length - 1 - (st.length - 1 - i) = i := by omega
    simp only [i2] at this
    rw [← e]; exact this
  · rintro ⟨r, hr⟩ j h1 h2
    rw [tkI_some] at hr
    rw [enc_bt st _ (by omega) (by omega), dif_pos h2]
    have hlen : st.length = n + r.length := by rw [hr, List.length_append, List.length_replicate]
    have : st[st.length - 1 - j]? = some false := by
      rw [hr, List.getElem?_append_left (by rw [List.length_replicate, ← hr]; omega), List.getElem?_replicate, if_pos (by rw [← hr]; omega)]
    rw [List.getElem?_eq_getElem (by omega)] at this
    exact Option.some.inj this
section
variable {s : yS}
def skC (s : yS) (st : List Bool) : Prop := (sI s 114 4) = nI st.length ∧ (sI s 114 5) = enc st
def dDt (a i : Nat) : Prop := a = 114 ∧ (i = 4 ∨ i = 5)
theorem c_typeV {a : Bool} {r : List Bool} {Q : Int32 → Prop} (h : skC s (a :: r)) (hl : r.length ≤ 17) (H : Q (bI a)) : W_X9_type s 1 Q := by
  unfold W_X9_type
  rw [h.1, h.2, List.length_cons, nI_p (by omega), Nat.add_sub_cancel, enc_top (by omega)]; exact H
theorem c_type2 {a b : Bool} {r : List Bool} {Q : Int32 → Prop} (h : skC s (a :: b :: r)) (hl : r.length ≤ 16) (H : Q (bI b)) : W_X9_type s (nI 2) Q := by
  unfold W_X9_type
  rw [h.1, h.2, List.length_cons, List.length_cons, nI_sub (by omega), show r.length + 1 + 1 - 2 = r.length by omega, enc_2nd (by omega)]; exact H
theorem c_takeV {t : Bool} {st : List Bool} {Q : Int32 → yS → Prop} (h : skC s st) (hl : st.length ≤ 18)
    (H1 : ∀ r, tkT t st = some r → ∀ s', frM dDt s s' → skC s' r → Q 1 s') (H0 : tkT t st = none → Q 0 s) : W_X9_take s (bI t) Q := by
  unfold W_X9_take
  cases st with
  | nil => rw [h.1]; exact ⟨fun _ => H0 rfl, fun hh => absurd rfl hh⟩
  | cons a r =>
    have hl' : r.length ≤ 17 := by simp at hl; omega
    have hne : ¬ nI (a :: r).length = 0 := fun hh => by rw [nI_0U, nI_inj (by simp; omega) (by omega)] at hh; simp at hh
    rw [h.1]
    refine ⟨fun hh => absurd hh hne, fun _ => ?_⟩
    refine c_typeV h hl' ⟨fun he => ?_, fun hn => H0 ?_⟩
    · rw [List.length_cons, nI_p (by omega), Nat.add_sub_cancel]
      intro s2 e2
      have d2 : sI s2 114 4 = nI r.length := by subst e2; rw [sI_w, if_pos ⟨rfl, rfl⟩]
      have t2 : sI s2 114 5 = enc (a :: r) := by subst e2; rw [sI_w, if_neg (by omega)]; exact h.2
      rw [d2, t2, enc_mask (by omega)]
      intro s3 e3
      refine H1 r ?_ s3 (by subst e3; subst e2; exact (frM.rfl'.wI (by unfold dDt; omega)).wI (by unfold dDt; omega)) ⟨by subst e3; rw [sI_w, if_neg (by omega)]; exact d2, by subst e3; rw [sI_w, if_pos ⟨rfl, rfl⟩]⟩
      show (if a = t then some r else none) = some r
      rw [if_pos (bI_inj.mp he)]
    · show (if a = t then some r else none) = none
      rw [if_neg (fun hh => hn (bI_inj.mpr hh))]
theorem c_putV {t : Bool} {st : List Bool} {Q : Int32 → yS → Prop} (h : skC s st) (H : ∀ s', frM dDt s s' → skC s' (t :: st) → Q 1 s') : W_X9_put s (bI t) Q := by
  unfold W_X9_put
  rw [h.1, h.2]
  intro s1 e1
  have d1 : sI s1 114 4 = nI st.length := by subst e1; rw [sI_w, if_neg (by omega)]; exact h.1
  rw [d1, nI_s]
  intro s2 e2
  refine H s2 (by subst e2; subst e1; exact (frM.rfl'.wI (by unfold dDt; omega)).wI (by unfold dDt; omega)) ⟨by subst e2; rw [sI_w, if_pos ⟨rfl, rfl⟩]; rfl, ?_⟩
  subst e2; rw [sI_w, if_neg (by omega)]; subst e1; rw [sI_w, if_pos ⟨rfl, rfl⟩]; rfl
theorem c_hasInts {n : Nat} {st : List Bool} {Q : Int32 → Prop} (h : skC s st) (hl : st.length ≤ 16) (hn : n ≤ 3)
    (H1 : ∀ r, tkI n st = some r → Q 1) (H0 : tkI n st = none → Q 0) : W_X9_hasInts s (nI n) Q := by
  unfold W_X9_hasInts
  rw [h.1, h.2, nI_ltU (by omega) (by omega)]
  refine ⟨fun hlt => H0 ?_, fun hge => ?_⟩
  · cases hr : tkI n st with
    | none => rfl
    | some r => have := tkI_len hr; omega
  · rw [nI_sub (by omega), tkI_iff hl (by omega)]
    refine ⟨fun hno => H0 ?_, fun ⟨r, hr⟩ => H1 r hr⟩
    cases hr : tkI n st with
    | none => rfl
    | some r => exact absurd ⟨r, hr⟩ hno
theorem c_call {g k : Nat} {l : List Fn} {st : List Bool} {Q : Int32 → yS → Prop} (hg : gOK g) (hr : sR s 114 2 = g + 1) (hk : k < l.length) (hp : pgC s g l) (hok : pgOK l) (h : skC s st) (hl : st.length ≤ 16)
    (H1 : ∀ r, (tkQ l[k] (fP l[k]) st).map (fun r => if fR l[k] = 0 then r else rTy l[k] :: r) = some r → ∀ s', frM dDt s s' → skC s' r → Q 1 s') (H0 : (tkQ l[k] (fP l[k]) st).map (fun r => if fR l[k] = 0 then r else rTy l[k] :: r) = none → ∀ s', frM dDt s s' → Q 0 s') : W_X9_call s (nI k) Q := by
  have hgv : g = 37 ∨ g = 55 ∨ g = 73 := hg
  obtain ⟨ok1, ok2, ok3, ok4⟩ := hok
  have hy := ok3 k hk
  have hym := hp.2 k hk
  have hyP := hy.1
  have hyR := hy.2.2.2.2.2.1
  have hin : vp_in (nI k) 12 := nI_inU (by omega) (by omega)
  have neg : ∀ n, n ≤ 4 → (nI n - 1 < 0 ↔ n = 0) := by
    intro n hn
    have : ∀ n ∈ List.range 5, (nI n - 1 < 0 ↔ n = 0) := by decide
    exact this n (List.mem_range.mpr (by omega))
  have dec : ∀ n, (nI (n + 1) - 1) + (-1) = nI n - 1 := by
    intro n
    rw [nI_p (by omega), Nat.add_sub_cancel]; exact (Int32.sub_eq_add_neg (nI n) 1).symm
  unfold W_X9_call
  refine ⟨g, hr, hg.kd, hin, ?_⟩
  intro P12 hP12 x16 e16
  rw [nI_ix (n := k) (by omega), hym.1] at e16
  subst e16
  suffices hL : ∀ (n : Nat) (u : List Bool) (s4 : yS), n ≤ fP l[k] → tkQ l[k] (fP l[k]) st = tkQ l[k] n u → u.length ≤ 16 → frM dDt s s4 → skC s4 u → P12 (nI n - 1) s4 from hL (fP l[k]) st s (by omega) rfl hl frM.rfl' h
  intro n
  induction n with
  | zero =>
    intro u s4 hn he hu F4 k4
    apply hP12
    have he : tkQ l[k] (fP l[k]) st = some u := he
    have r4 : sR s4 114 2 = g + 1 := (F4.2.2 _ _).trans hr
    have v4 : sI s4 (g + 4) k = nI (fR l[k]) := (F4.1 _ _ (by unfold dDt; omega)).trans hym.2.2.2.1
    rw [nI_ix (n := k) (by omega)]
    refine ⟨fun _ => ⟨g, r4, hg.kd, hin, ?_⟩, fun hh => absurd ((neg 0 (by omega)).mpr rfl) hh⟩
    rw [v4]
    refine ⟨fun h0 => ?_, fun hn0 => ⟨g, r4, hg.kd, hin, ?_⟩⟩
    · have hr0 : fR l[k] = 0 := by rw [nI_0U, nI_inj (by omega) (by omega)] at h0; exact h0
      refine H1 u ?_ s4 F4 k4
      rw [he]; show some (if fR l[k] = 0 then u else _) = _; rw [if_pos hr0]
    · have hr0 : fR l[k] ≠ 0 := fun hh => hn0 (by rw [hh]; rfl)
      rw [v4, rTy_bI hyR hr0]
      refine c_putV k4 (fun s10 F10 k10 => ⟨fun hz => absurd hz (by decide), fun _ => H1 _ ?_ s10 (F4.trans F10) k10⟩)
      rw [he]; show some (if fR l[k] = 0 then u else _) = _; rw [if_neg hr0]
  | succ n ih =>
    intro u s4 hn he hu F4 k4
    rw [tkQ] at he
    apply hP12
    have r4 : sR s4 114 2 = g + 1 := (F4.2.2 _ _).trans hr
    have v4 : sI s4 (g + 3) k = nI (fB l[k]) := (F4.1 _ _ (by unfold dDt; omega)).trans hym.2.2.1
    refine ⟨fun hh => absurd ((neg (n + 1) (by omega)).mp hh) (by omega), fun _ => ⟨g, r4, hg.kd, hin, ?_⟩⟩
    rw [nI_ix (n := k) (by omega), v4, nI_p (by omega), Nat.add_sub_cancel, rb_bit (by omega)]
    refine c_takeV k4 (by omega) (fun r hr' s14 F14 k14 => ⟨fun _ => ?_, fun hz => absurd hz (by decide)⟩) (fun hr' => ⟨fun hz => absurd rfl hz, fun _ => H0 ?_ s4 F4⟩)
    · intro x15 e15
      have e15' : x15 = nI n - 1 := by rw [e15]; exact (Int32.sub_eq_add_neg (nI n) 1).symm
      subst e15'
      rw [hr'] at he
      have := tkT_len hr'
      exact ih r s14 (by omega) he (by omega) (F4.trans F14) k14
    · rw [he, hr']; rfl
theorem c_change {g f o : Nat} {v : Int32} {l : List Fn} {st : List Bool} {Q : Int32 → yS → Prop} (hg : gOK g) (hr : sR s 114 2 = g + 1) (hf : f < l.length) (hfn : (sI s 114 3) = nI f) (hp : pgC s g l) (hok : pgOK l) (hi : iOK (fL l[f]) (fC l[f]).length l.length (o, v)) (h : skC s st) (hl : st.length ≤ 16)
    (H1 : ∀ r, chg l l[f] o (ix v) st = some r → ∀ s', frM dDt s s' → skC s' r → Q 1 s') (H0 : chg l l[f] o (ix v) st = none → ∀ s', frM dDt s s' → Q 0 s') : W_X9_change s (nI o) v Q := by
  have hgv : g = 37 ∨ g = 55 ∨ g = 73 := hg
  obtain ⟨ok1, ok2, ok3, ok4⟩ := id hok
  have hfo := ok3 f hf
  obtain ⟨i1, i2, i3, i4, i5⟩ := hi
  dsimp only at i1 i2 i3 i4 i5
  have hfm := hp.2 f hf
  have hL12 := hfo.2.2.2.1
  have hR2 := hfo.2.2.2.2.2.1
  have hinf : vp_in (nI f) 12 := nI_inU (by omega) (by omega)
  have hto : (nI o).toInt = (o : Int) := nI_toIntU (by omega)
  -- a single take
  have one : ∀ t, chg l l[f] o (ix v) st = tkT t st → W_X9_take s (bI t) (fun r2 s3 => zb r2 ∧ Q r2 s3) := by
    intro t ht
    exact c_takeV h (by omega) (fun r hr s3 F3 k3 => ⟨Or.inr rfl, H1 r (ht.trans hr) s3 F3 k3⟩) (fun hr => ⟨Or.inl rfl, H0 (ht.trans hr) s frM.rfl'⟩)
  -- two ints taken, one put
  have two : ∀ t u, chg l l[f] o (ix v) st = ((tkT false st).bind (tkT t)).map (fun r => u :: r) → W_X9_take s 0 
   (fun r35 s36 => ((r35 = 0 → Q 0 s36)
   ∧ (¬ r35 = 0 → W_X9_take s36 (bI t)
    (fun r37 s38 => ((r37 = 0 → Q 0 s38)
    ∧ (¬ r37 = 0 → W_X9_put s38 (bI u)
     (fun r39 s40 => ((r39 = 0 → Q 0 s40)
     ∧ (¬ r39 = 0 → Q 1 s40))))))))) := by
    intro t u ht
    refine c_takeV (t := false) h (by omega) (fun r hr s3 F3 k3 => ⟨fun hz => absurd hz (by decide), fun _ => ?_⟩) (fun hr => ⟨fun _ => H0 (by rw [ht, hr]; rfl) s frM.rfl', fun hz => absurd rfl hz⟩)
    have := tkT_len hr
    refine c_takeV k3 (by omega) (fun r2 hr2 s4 F4 k4 => ⟨fun hz => absurd hz (by decide), fun _ => ?_⟩) (fun hr2 => ⟨fun _ => H0 (by rw [ht, hr]; show (tkT t r).map _ = _; rw [hr2]; rfl) s3 F3, fun hz => absurd rfl hz⟩)
    exact c_putV k4 (fun s5 F5 k5 => ⟨fun hz => absurd hz (by decide), fun _ => H1 _ (by rw [ht, hr]; show (tkT t r).map _ = _; rw [hr2]; rfl) s5 ((F3.trans F4).trans F5) k5⟩)
  have tI2 : tkI 2 st = (tkT false st).bind (tkT false) := by
    show (tkT false st).bind (fun u => (tkT false u).bind (fun w => some w)) = _
    congr 1
    funext u
    cases tkT false u <;> rfl
  have arith : 5 < o → o < 18 → W_X9_take s 0 
   (fun r35 s36 => ((r35 = 0 → Q 0 s36)
   ∧ (¬ r35 = 0 → W_X9_take s36 0
    (fun r37 s38 => ((r37 = 0 → Q 0 s38)
    ∧ (¬ r37 = 0 → W_X9_put s38 0
     (fun r39 s40 => ((r39 = 0 → Q 0 s40)
     ∧ (¬ r39 = 0 → Q 1 s40))))))))) := fun h1 h2 => two false false (by rw [chg_arith h1 h2, tI2])
  unfold W_X9_change
  rw [hto]
  refine ⟨fun hh => by omega, fun e => ?_, fun e => ?_, fun e => ?_, fun e => ?_, fun e => ?_, fun e => ?_, fun e => arith (by omega) (by omega), fun e => arith (by omega) (by omega), fun e => arith (by omega) (by omega), fun e => arith (by omega) (by omega), fun e => arith (by omega) (by omega), fun e => arith (by omega) (by omega), fun e => arith (by omega) (by omega), fun e => arith (by omega) (by omega), fun e => arith (by omega) (by omega), fun e => arith (by omega) (by omega), fun e => arith (by omega) (by omega), fun e => arith (by omega) (by omega), fun e => ?_, fun e => ?_, fun e => ?_, fun e => ?_, fun e => ?_, fun e => ?_, fun e => ?_, fun e => ?_, fun e => ?_, fun e => ?_, fun e => ?_, fun e => ?_⟩
  · -- PUSH
    have e : o = 0 := by omega
    subst e
    exact c_putV (t := false) h (fun s' F' k' => ⟨Or.inr rfl, H1 _ rfl s' F' k'⟩)
  · -- POP
    have e : o = 1 := by omega
    subst e
    rw [h.1, show nI st.length ≤ 0 ↔ st.length ≤ 0 from nI_leU (b := 0) (by omega) (by omega)]
    match st, h, hl, H1, H0 with
    | [], h, hl, H1, H0 => exact ⟨fun _ => H0 rfl s frM.rfl', fun hz => absurd (by simp) hz⟩
    | a :: r, h, hl, H1, H0 =>
      refine ⟨fun hz => by simp at hz, fun _ => ?_⟩
      refine c_typeV h (by simp at hl; omega) ?_
      refine c_takeV h (by omega) (fun r2 hr2 s' F' k' => ⟨fun hz => absurd hz (by decide), fun _ => H1 r2 ?_ s' F' k'⟩) (fun hr2 => ?_)
      · rw [tkT_some] at hr2; cases hr2; rfl
      · exact absurd hr2 (by show ¬ (if a = a then some r else none) = none; rw [if_pos rfl]; simp)
  · -- DUP
    have e : o = 2 := by omega
    subst e
    rw [h.1, show nI st.length ≤ 0 ↔ st.length ≤ 0 from nI_leU (b := 0) (by omega) (by omega)]
    match st, h, hl, H1, H0 with
    | [], h, hl, H1, H0 => exact ⟨fun _ => H0 rfl s frM.rfl', fun hz => absurd (by simp) hz⟩
    | a :: r, h, hl, H1, H0 =>
      refine ⟨fun hz => by simp at hz, fun _ => ?_⟩
      refine c_typeV h (by simp at hl; omega) ?_
      exact c_putV h (fun s' F' k' => ⟨fun hz => absurd hz (by decide), fun _ => H1 _ rfl s' F' k'⟩)
  · -- SWAP
    have e : o = 3 := by omega
    subst e
    unfold W_X9_swap
    rw [h.1, nI_leU (by omega) (by omega)]
    match st, h, hl, H1, H0 with
    | [], h, hl, H1, H0 => exact ⟨fun hz => by simp at hz, fun _ => ⟨Or.inl rfl, H0 rfl s frM.rfl'⟩⟩
    | [a], h, hl, H1, H0 => exact ⟨fun hz => by simp at hz, fun _ => ⟨Or.inl rfl, H0 rfl s frM.rfl'⟩⟩
    | a :: b :: r, h, hl, H1, H0 =>
      have hl' : r.length ≤ 14 := by simp at hl; omega
      refine ⟨fun _ => ?_, fun hz => absurd (by simp) hz⟩
      refine c_typeV h (by simp; omega) ?_
      refine c_type2 h (by omega) ?_
      refine c_takeV h (by omega) (fun r2 hr2 s4 F4 k4 => ⟨fun hz => absurd hz (by decide), fun _ => ?_⟩) (fun hr2 => absurd hr2 (by show ¬ (if a = a then some (b :: r) else none) = none; rw [if_pos rfl]; simp))
      rw [tkT_some] at hr2
      cases hr2
      refine c_takeV k4 (by simp; omega) (fun r3 hr3 s6 F6 k6 => ⟨fun hz => absurd hz (by decide), fun _ => ?_⟩) (fun hr3 => absurd hr3 (by show ¬ (if b = b then some r else none) = none; rw [if_pos rfl]; simp))
      rw [tkT_some] at hr3
      cases hr3
      refine c_putV k6 (fun s8 F8 k8 => ⟨fun hz => absurd hz (by decide), fun _ => ?_⟩)
      exact c_putV k8 (fun s10 F10 k10 => ⟨fun hz => absurd hz (by decide), fun _ => ⟨Or.inr rfl, H1 _ rfl s10 (((F4.trans F6).trans F8).trans F10) k10⟩⟩)
  · -- LOAD
    have e : o = 4 := by omega
    obtain ⟨k, hk, ek⟩ := i2 (Or.inl e)
    refine ⟨g, hr, hg.kd, ?_⟩
    rw [hfn, nI_ix (n := f) (by omega), hfm.2.2.1, ek, rb_bit (by omega)]
    refine ⟨hinf, c_putV h (fun s' F' k' => ⟨Or.inr rfl, H1 _ ?_ s' F' k'⟩)⟩
    rw [ek, nI_ix (by omega)]; subst e; rfl
  · -- STORE
    have e : o = 5 := by omega
    obtain ⟨k, hk, ek⟩ := i2 (Or.inr e)
    refine ⟨g, hr, hg.kd, ?_⟩
    rw [hfn, nI_ix (n := f) (by omega), hfm.2.2.1, ek, rb_bit (by omega)]
    refine ⟨hinf, one _ ?_⟩
    rw [ek, nI_ix (by omega)]; subst e; rfl
  · -- JUMP
    have e : o = 18 := by omega
    subst e
    exact H1 st rfl s frM.rfl' h
  · have e : o = 19 := by omega
    subst e; exact one false rfl
  · have e : o = 20 := by omega
    subst e; exact one false rfl
  · -- NEW
    have e : o = 21 := by omega
    subst e
    refine c_takeV (t := false) h (by omega) (fun r hr s3 F3 k3 => ⟨fun hz => absurd hz (by decide), fun _ => ?_⟩) (fun hr => ⟨fun _ => H0 (by show (tkT false st).map _ = _; rw [hr]; rfl) s frM.rfl', fun hz => absurd rfl hz⟩)
    exact c_putV (t := true) k3 (fun s5 F5 k5 => ⟨fun hz => absurd hz (by decide), fun _ => H1 _ (by show (tkT false st).map _ = _; rw [hr]; rfl) s5 (F3.trans F5) k5⟩)
  · -- GET
    have e : o = 22 := by omega
    subst e; exact two true false rfl
  · -- PUT
    have e : o = 23 := by omega
    subst e
    have hchg : chg l l[f] 23 (ix v) st = ((tkT false st).bind (tkT false)).bind (tkT true) := by rw [← tI2]; rfl
    refine c_takeV (t := false) h (by omega) (fun r hr s3 F3 k3 => ⟨fun hz => absurd hz (by decide), fun _ => ?_⟩) (fun hr => ⟨fun _ => H0 (by rw [hchg, hr]; rfl) s frM.rfl', fun hz => absurd rfl hz⟩)
    have := tkT_len hr
    refine c_takeV (t := false) k3 (by omega) (fun r2 hr2 s4 F4 k4 => ⟨fun hz => absurd hz (by decide), fun _ => ?_⟩) (fun hr2 => ⟨fun _ => H0 (by rw [hchg, hr]; show (tkT false r).bind _ = _; rw [hr2]; rfl) s3 F3, fun hz => absurd rfl hz⟩)
    have := tkT_len hr2
    exact c_takeV (t := true) k4 (by omega) (fun r3 hr3 s5 F5 k5 => ⟨fun hz => absurd hz (by decide), fun _ => H1 r3 (by rw [hchg, hr]; show (tkT false r).bind _ = _; rw [hr2]; exact hr3) s5 ((F3.trans F4).trans F5) k5⟩) (fun hr3 => ⟨fun _ => H0 (by rw [hchg, hr]; show (tkT false r).bind _ = _; rw [hr2]; exact hr3) s4 (F3.trans F4), fun hz => absurd rfl hz⟩)
  · -- SIZE
    have e : o = 24 := by omega
    subst e
    refine c_takeV (t := true) h (by omega) (fun r hr s3 F3 k3 => ⟨fun hz => absurd hz (by decide), fun _ => ?_⟩) (fun hr => ⟨fun _ => H0 (by show (tkT true st).map _ = _; rw [hr]; rfl) s frM.rfl', fun hz => absurd rfl hz⟩)
    exact c_putV (t := false) k3 (fun s5 F5 k5 => ⟨fun hz => absurd hz (by decide), fun _ => H1 _ (by show (tkT true st).map _ = _; rw [hr]; rfl) s5 (F3.trans F5) k5⟩)
  · -- CALL
    have e : o = 25 := by omega
    obtain ⟨k, hk, ek⟩ := i4 e
    have hchg : chg l l[f] o (ix v) st = (tkQ l[k] (fP l[k]) st).map (fun r => if fR l[k] = 0 then r else rTy l[k] :: r) := by
      rw [ek, nI_ix (by omega)]; subst e
      show (tkQ (l.getD k dFn) (fP (l.getD k dFn)) st).map _ = _
      rw [getD_at hk]
    rw [ek]
    exact c_call hg hr hk hp hok h hl (fun r hr s' F' k' => ⟨Or.inr rfl, H1 r (hchg.trans hr) s' F' k'⟩) (fun hr s' F' => ⟨Or.inl rfl, H0 (hchg.trans hr) s' F'⟩)
  · -- HOST
    have e : o = 26 := by omega
    obtain ⟨k, hk, ek⟩ := i5 (Or.inl e)
    have hk4 : k % 4 < 4 := Nat.mod_lt _ (by omega)
    have hchg : chg l l[f] o (ix v) st = (tkI (k % 4) st).map (fun r => false :: r) := by
      rw [ek, nI_ix (by omega)]; subst e; rfl
    rw [ek, nI_mod (by omega) (by omega)]
    refine c_hasInts h hl (by omega) (fun r hr => ⟨fun hz => absurd hz (by decide), fun _ => ?_⟩) (fun hr => ⟨fun _ => H0 (by rw [hchg, hr]; rfl) s frM.rfl', fun hz => absurd rfl hz⟩)
    have hlen := tkI_len hr
    unfold W_X9_takeInts
    rw [h.1, nI_sub (by omega)]
    intro s1 e1
    have k1 : skC s1 r := by
      refine ⟨by subst e1; rw [sI_w, if_pos ⟨rfl, rfl⟩, show st.length - k % 4 = r.length by omega], ?_⟩
      subst e1; rw [sI_w, if_neg (by omega), h.2]
      rw [tkI_some] at hr; rw [hr, enc_rep]
    refine ⟨fun hz => absurd hz (by decide), fun _ => ?_⟩
    exact c_putV (t := false) k1 (fun s5 F5 k5 => ⟨fun hz => absurd hz (by decide), fun _ => H1 _ (by rw [hchg, hr]; rfl) s5 ((show frM dDt s s1 by subst e1; exact frM.rfl'.wI (by unfold dDt; omega)).trans F5) k5⟩)
  · -- RETURN
    have e : o = 27 := by omega
    subst e
    refine ⟨g, hr, hg.kd, ?_⟩
    rw [hfn, nI_ix (n := f) (by omega), hfm.2.2.2.1]
    refine ⟨hinf, fun h0 => ?_, fun hn0 => ⟨g, hr, hg.kd, ?_⟩⟩
    · have hr0 : fR l[f] = 0 := by rw [nI_0U, nI_inj (by omega) (by omega)] at h0; exact h0
      refine H1 st ?_ s frM.rfl' h
      show (if fR l[f] = 0 then some st else tkT (rTy l[f]) st) = some st
      rw [if_pos hr0]
    · have hr0 : fR l[f] ≠ 0 := fun hh => hn0 (by rw [hh]; rfl)
      have hchg : chg l l[f] 27 (ix v) st = tkT (rTy l[f]) st := by
        show (if fR l[f] = 0 then some st else tkT (rTy l[f]) st) = _
        rw [if_neg hr0]
      rw [hfm.2.2.2.1, rTy_bI hR2 hr0]
      exact ⟨hinf, c_takeV h (by omega) (fun r hr s3 F3 k3 => ⟨fun hz => absurd hz (by decide), fun _ => H1 r (hchg.trans hr) s3 F3 k3⟩) (fun hr => ⟨fun _ => H0 (hchg.trans hr) s frM.rfl', fun hz => absurd rfl hz⟩)⟩
  · have e : o = 28 := by omega
    subst e; exact one false rfl
  · -- GUARD
    have e : o = 29 := by omega
    obtain ⟨k, hk, ek⟩ := i5 (Or.inr e)
    have hk4 : k % 4 < 4 := Nat.mod_lt _ (by omega)
    have hchg : chg l l[f] o (ix v) st = (tkI (k % 4) st).map (fun _ => st) := by
      rw [ek, nI_ix (by omega)]; subst e; rfl
    rw [ek, nI_mod (by omega) (by omega)]
    exact c_hasInts h hl (by omega) (fun r hr => ⟨Or.inr rfl, H1 st (by rw [hchg, hr]; rfl) s frM.rfl' h⟩) (fun hr => ⟨Or.inl rfl, H0 (by rw [hchg, hr]; rfl) s frM.rfl'⟩)
end
