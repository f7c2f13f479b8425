/-! ===== PURE: types of a stack ===== -/
def enc : List Bool → Int32
  | [] => 0
  | t :: st => enc st ||| (bI t <<< (nI st.length &&& 31))
theorem bt_bI (t : Bool) (k : Nat) : bt (bI t) k = (t && decide (k = 0)) := by
  cases t
  · show bt 0 k = _; rw [bt_0]; rfl
  · show bt 1 k = _; rw [bt_1]; rfl
theorem bt_bIs {t : Bool} {n k : Nat} (hn : n < 32) (hk : k < 32) : bt (bI t <<< (nI n &&& 31)) k = (t && decide (k = n)) := by
  rw [bt_shl hn, bt_bI, decide_eq_true hk, Bool.true_and]
  by_cases h : k < n
  · rw [decide_eq_true h, decide_eq_false (show ¬ k = n by omega)]; simp
  · rw [decide_eq_false h]
    by_cases e : k = n
    · subst e; simp
    · rw [decide_eq_false e, decide_eq_false (show ¬ k - n = 0 by omega)]; simp
theorem enc_bt : ∀ (st : List Bool) (k : Nat), st.length ≤ 20 → k < 32 → bt (enc st) k = (if h : k < st.length then st[st.length - 1 - k] else false)
  | [], k, _, _ => by show bt 0 k = _; rw [bt_0]; simp
  | t :: st, k, hl, hk => by
    rw [List.length_cons] at hl
    rw [show enc (t :: st) = enc st ||| (bI t <<< (nI st.length &&& 31)) from rfl, bt_or, bt_bIs (by omega) hk, enc_bt st k (by omega) hk]
    by_cases h : k < st.length
    · rw [dif_pos h, dif_pos (show k < (t :: st).length by simp; omega), decide_eq_false (show ¬ k = st.length by omega), Bool.and_false, Bool.or_false]
      have e : (t :: st).length - 1 - k = (st.length - 1 - k) + 1 := by simp; omega
      simp only [e, List.getElem_cons_succ]
    · rw [dif_neg h, Bool.false_or]
      by_cases e : k = st.length
      · subst e; rw [decide_eq_true rfl, Bool.and_true, dif_pos (show st.length < (t :: st).length by simp)]
        have e : (t :: st).length - 1 - st.length = 0 := by simp
        simp only [e, List.getElem_cons_zero]
      · rw [decide_eq_false e, Bool.and_false, dif_neg (show ¬ k < (t :: st).length by simp; omega)]
theorem enc_inj {a b : List Bool} (h : a.length = b.length) (hl : a.length ≤ 20) (he : enc a = enc b) : a = b := by
  apply List.ext_getElem h
  intro i h1 h2
  have e1 := enc_bt a (a.length - 1 - i) hl (by omega)
  have e2 := enc_bt b (a.length - 1 - i) (by omega) (by omega)
  rw [he, e2, dif_pos (by omega), dif_pos (by omega)] at e1
  have i1 : a.length - 1 - (a.length - 1 - i) = i := by omega
  have i2 : b.length - 1 - (a.length - 1 - i) = i := by omega
  simp only [i1, i2] at e1
  exact e1.symm
theorem msk {n : Nat} (h : n ≤ 20) {k : Nat} (hk : k < 32) : bt ((1 <<< (nI n &&& 31)) - 1) k = decide (k < n) := by
  have e : (1 <<< (nI n &&& 31)) - 1 = nI (2 ^ n - 1) := by
    have : ∀ n ∈ List.range 21, (1 <<< (nI n &&& 31)) - 1 = nI (2 ^ n - 1) := by decide
    exact this n (List.mem_range.mpr (by omega))
  rw [e]
  unfold bt
  show (BitVec.ofNat 32 (2 ^ n - 1)).getLsbD k = _
  rw [BitVec.getLsbD_ofNat, decide_eq_true hk, Bool.true_and, Nat.testBit_two_pow_sub_one]
theorem enc_mask {t : Bool} {st : List Bool} (h : st.length ≤ 19) : enc (t :: st) &&& ((1 <<< (nI st.length &&& 31)) - 1) = enc st := by
  apply bt_ext
  intro k hk
  rw [bt_and, msk (by omega) hk, show enc (t :: st) = enc st ||| (bI t <<< (nI st.length &&& 31)) from rfl, bt_or, bt_bIs (by omega) hk, enc_bt st k (by omega) hk]
  by_cases h : k < st.length
  · rw [decide_eq_true h, decide_eq_false (show ¬ k = st.length by omega)]; simp
  · rw [decide_eq_false h, dif_neg h]; simp
theorem enc_top {t : Bool} {st : List Bool} (h : st.length ≤ 19) : (enc (t :: st) >>> (nI st.length &&& 31)) &&& 1 = bI t := by
  rw [bit_at (by omega), enc_bt (t :: st) st.length (by simp; omega) (by omega), dif_pos (by simp)]
  have e : (t :: st).length - 1 - st.length = 0 := by simp
  simp only [e, List.getElem_cons_zero]
  cases t <;> rfl
theorem enc_2nd {t u : Bool} {st : List Bool} (h : st.length ≤ 18) : (enc (t :: u :: st) >>> (nI st.length &&& 31)) &&& 1 = bI u := by
  rw [bit_at (by omega), enc_bt (t :: u :: st) st.length (by simp; omega) (by omega), dif_pos (by simp; omega)]
  have e : (t :: u :: st).length - 1 - st.length = 1 := by simp
  simp only [e, List.getElem_cons_succ, List.getElem_cons_zero]
  cases u <;> rfl
theorem bI_inj {a b : Bool} : bI a = bI b ↔ a = b := by cases a <;> cases b <;> decide
/-! what instructions take and put -/
def tkT (t : Bool) : List Bool → Option (List Bool)
  | [] => none
  | a :: r => if a = t then some r else none
def tkI : Nat → List Bool → Option (List Bool)
  | 0, st => some st
  | n + 1, st => (tkT false st).bind (tkI n)
def rbit (x : Fn) (k : Nat) : Bool := (fB x).testBit k
def tkQ (x : Fn) : Nat → List Bool → Option (List Bool)
  | 0, st => some st
  | n + 1, st => (tkT (rbit x n) st).bind (tkQ x n)
def dFn : Fn := (0, 0, 0, 0, [], [])
def rTy (x : Fn) : Bool := decide (fR x = 2)
def chg (l : List Fn) (x : Fn) (o v : Nat) (st : List Bool) : Option (List Bool) :=
  if o = 0 then some (false :: st)
  else if o = 1 then (match st with
    | [] => none
    | _ :: r => some r)
  else if o = 2 then (match st with
    | [] => none
    | a :: r => some (a :: a :: r))
  else if o = 3 then (match st with
    | a :: b :: r => some (b :: a :: r)
    | _ => none)
  else if o = 4 then some (rbit x v :: st)
  else if o = 5 then tkT (rbit x v) st
  else if o < 18 then (tkI 2 st).map (fun r => false :: r)
  else if o = 18 then some st
  else if o = 19 ∨ o = 20 ∨ o = 28 then tkT false st
  else if o = 21 then (tkT false st).map (fun r => true :: r)
  else if o = 22 then ((tkT false st).bind (tkT true)).map (fun r => false :: r)
  else if o = 23 then (tkI 2 st).bind (tkT true)
  else if o = 24 then (tkT true st).map (fun r => false :: r)
  else if o = 25 then (tkQ (l.getD v dFn) (fP (l.getD v dFn)) st).map (fun r => if fR (l.getD v dFn) = 0 then r else rTy (l.getD v dFn) :: r)
  else if o = 26 then (tkI (v % 4) st).map (fun r => false :: r)
  else if o = 27 then (if fR x = 0 then some st else tkT (rTy x) st)
  else (tkI (v % 4) st).map (fun _ => st)
theorem tkT_some {t : Bool} {st r : List Bool} : tkT t st = some r ↔ st = t :: r := by
  cases st with
  | nil => simp [tkT]
  | cons a u =>
    show (if a = t then some u else none) = some r ↔ _
    by_cases h : a = t
    · rw [if_pos h]; subst h; simp
    · rw [if_neg h]; simp [h]
theorem tkI_some : ∀ {n : Nat} {st r : List Bool}, tkI n st = some r ↔ st = List.replicate n false ++ r
  | 0, st, r => by simp [tkI]
  | n + 1, st, r => by
    rw [tkI, Option.bind_eq_some_iff]
    constructor
    · rintro ⟨u, h1, h2⟩
      rw [tkT_some] at h1; rw [tkI_some] at h2
      subst h1; subst h2; rfl
    · intro h
      refine ⟨List.replicate n false ++ r, tkT_some.mpr h, tkI_some.mpr rfl⟩
theorem tkT_len {t : Bool} {st r : List Bool} (h : tkT t st = some r) : st.length = r.length + 1 := by rw [tkT_some] at h; subst h; rfl
theorem tkI_len {n : Nat} {st r : List Bool} (h : tkI n st = some r) : st.length = r.length + n := by
  rw [tkI_some] at h; subst h; rw [List.length_append, List.length_replicate]; omega
/-! the reference -/
section
variable {s : yS}
def skM (s : yS) (st : List Bool) : Prop := (sI s 139 114) = nI st.length ∧ (sI s 139 115) = enc st
def dHk (a i : Nat) : Prop := a = 139 ∧ (i = 114 ∨ i = 115)
theorem k_takes {t : Bool} {st : List Bool} {Q : Int32 → yS → Prop} (h : skM s st) (hl : st.length ≤ 18)
    (H1 : ∀ r, tkT t st = some r → ∀ s', frM dHk s s' → skM s' r → Q 1 s') (H0 : tkT t st = none → ∀ s', frM dHk s s' → Q 0 s') : W_X12_takes s (bI t) Q := by
  unfold W_X12_takes
  rw [h.1]
  cases st with
  | nil => exact ⟨fun hh => absurd rfl hh, fun _ => H0 rfl s frM.rfl'⟩
  | cons a r =>
    have hl' : r.length ≤ 17 := by simp at hl; omega
    have e0 : nI (a :: r).length - 1 = nI r.length := by rw [List.length_cons, nI_p (by omega), Nat.add_sub_cancel]
    have hne : ¬ nI (a :: r).length = 0 := fun hh => by rw [nI_0U, nI_inj (by simp; omega) (by omega)] at hh; simp at hh
    refine ⟨fun _ => ?_, fun hh => absurd hh hne⟩
    rw [e0]
    intro s1 e1
    have k1 : sI s1 139 115 = enc (a :: r) := by subst e1; rw [sI_w, if_neg (by omega)]; exact h.2
    have h1 : sI s1 139 114 = nI r.length := by subst e1; rw [sI_w, if_pos ⟨rfl, rfl⟩]
    rw [k1, h1, enc_top (by omega), enc_mask (by omega)]
    intro x2 e2
    subst e2
    intro s3 e3
    have F3 : frM dHk s s3 := by subst e3; subst e1; exact (frM.rfl'.wI (by unfold dHk; omega)).wI (by unfold dHk; omega)
    have k3 : skM s3 r := ⟨by subst e3; rw [sI_w, if_neg (by omega)]; exact h1, by subst e3; rw [sI_w, if_pos ⟨rfl, rfl⟩]⟩
    refine ⟨fun h2 => absurd h2 (by cases t <;> decide), fun _ => ⟨fun hn => ?_, fun he => ?_⟩⟩
    · refine H0 ?_ s3 F3
      show (if a = t then some r else none) = none
      rw [if_neg (fun hh => hn (bI_inj.mpr hh.symm))]
    · refine H1 r ?_ s3 F3 k3
      show (if a = t then some r else none) = some r
      rw [if_pos (bI_inj.mp he).symm]
theorem k_takesAny {st : List Bool} {Q : Int32 → yS → Prop} (h : skM s st) (hl : st.length ≤ 18)
    (H1 : ∀ a r, st = a :: r → ∀ s', frM dHk s s' → skM s' r → Q 1 s') (H0 : st = [] → Q 0 s) : W_X12_takes s (nI 2) Q := by
  unfold W_X12_takes
  rw [h.1]
  cases st with
  | nil => exact ⟨fun hh => absurd rfl hh, fun _ => H0 rfl⟩
  | cons a r =>
    have hl' : r.length ≤ 17 := by simp at hl; omega
    have e0 : nI (a :: r).length - 1 = nI r.length := by rw [List.length_cons, nI_p (by omega), Nat.add_sub_cancel]
    have hne : ¬ nI (a :: r).length = 0 := fun hh => by rw [nI_0U, nI_inj (by simp; omega) (by omega)] at hh; simp at hh
    refine ⟨fun _ => ?_, fun hh => absurd hh hne⟩
    rw [e0]
    intro s1 e1
    have k1 : sI s1 139 115 = enc (a :: r) := by subst e1; rw [sI_w, if_neg (by omega)]; exact h.2
    have h1 : sI s1 139 114 = nI r.length := by subst e1; rw [sI_w, if_pos ⟨rfl, rfl⟩]
    rw [k1, h1, enc_top (by omega), enc_mask (by omega)]
    intro x2 e2 s3 e3
    have F3 : frM dHk s s3 := by subst e3; subst e1; exact (frM.rfl'.wI (by unfold dHk; omega)).wI (by unfold dHk; omega)
    have k3 : skM s3 r := ⟨by subst e3; rw [sI_w, if_neg (by omega)]; exact h1, by subst e3; rw [sI_w, if_pos ⟨rfl, rfl⟩]⟩
    exact ⟨fun _ => H1 a r rfl s3 F3 k3, fun hh => absurd rfl hh⟩
theorem k_puts {t : Bool} {st : List Bool} {Q : yS → Prop} (h : skM s st) (H : ∀ s', frM dHk s s' → skM s' (t :: st) → Q s') : W_X12_puts s (bI t) Q := by
  unfold W_X12_puts
  rw [h.1, h.2]
  intro s1 e1
  have h1 : sI s1 139 114 = nI st.length := by subst e1; rw [sI_w, if_neg (by omega)]; exact h.1
  rw [h1, nI_s]
  intro s2 e2
  refine H s2 (by subst e2; subst e1; exact (frM.rfl'.wI (by unfold dHk; omega)).wI (by unfold dHk; omega)) ⟨by subst e2; rw [sI_w, if_pos ⟨rfl, rfl⟩]; rfl, ?_⟩
  subst e2; rw [sI_w, if_neg (by omega)]; subst e1; rw [sI_w, if_pos ⟨rfl, rfl⟩]; rfl
theorem k_putsAny {v : Int32} {Q : yS → Prop} (H : ∀ s', frM dHk s s' → Q s') : W_X12_puts s v Q := by
  unfold W_X12_puts
  intro s1 e1 s2 e2
  exact H s2 (by subst e2; subst e1; exact (frM.rfl'.wI (by unfold dHk; omega)).wI (by unfold dHk; omega))
theorem k_takesInts {n : Nat} {st : List Bool} {Q : Int32 → yS → Prop} (h : skM s st) (hl : st.length ≤ 18) (hn : n ≤ 4)
    (H1 : ∀ r, tkI n st = some r → ∀ s', frM dHk s s' → skM s' r → Q 1 s') (H0 : tkI n st = none → ∀ s', frM dHk s s' → Q 0 s') : W_X12_takesInts s (nI n) Q := by
  unfold W_X12_takesInts
  intro P4 hP4
  have bad : ∀ (q k : Nat) (s3 : yS), k + q = n → tkI n st = none → frM dHk s s3 → P4 0 (nI k) s3 := by
    intro q
    induction q with
    | zero =>
      intro k s3 hk hno F3
      apply hP4
      rw [nI_leU (by omega) (by omega)]
      exact ⟨fun _ => ⟨Or.inl rfl, H0 hno s3 F3⟩, fun hh => absurd (by omega) hh⟩
    | succ q ih =>
      intro k s3 hk hno F3
      apply hP4
      rw [nI_leU (by omega) (by omega)]
      refine ⟨fun hh => absurd hh (by omega), fun _ => ?_⟩
      intro P26 hP26
      refine ⟨fun _ => hP26 _ _ ?_, fun hz => absurd rfl hz⟩
      intro x7 e7; subst e7; rw [nI_s]
      exact ih (k + 1) s3 (by omega) hno F3
  suffices hL : ∀ (q k : Nat) (u : List Bool) (s3 : yS), k + q = n → tkI n st = tkI q u → u.length ≤ 18 → frM dHk s s3 → skM s3 u → P4 1 (nI k) s3 from hL n 0 st s (by omega) rfl hl frM.rfl' h
  intro q
  induction q with
  | zero =>
    intro k u s3 hk he hu F3 k3
    apply hP4
    rw [nI_leU (by omega) (by omega)]
    exact ⟨fun _ => ⟨Or.inr rfl, H1 u he s3 F3 k3⟩, fun hh => absurd (by omega) hh⟩
  | succ q ih =>
    intro k u s3 hk he hu F3 k3
    rw [tkI] at he
    apply hP4
    rw [nI_leU (by omega) (by omega)]
    refine ⟨fun hh => absurd hh (by omega), fun _ => ?_⟩
    intro P26 hP26
    refine ⟨fun hz => absurd hz (by decide), fun _ => ?_⟩
    refine k_takes (t := false) k3 hu (fun r hr s9 F9 k9 => ?_) (fun hr s9 F9 => ?_)
    · refine ⟨fun hz => absurd hz (by decide), fun _ => hP26 _ _ ?_⟩
      intro x7 e7; subst e7; rw [nI_s]
      rw [hr] at he
      have := tkT_len hr
      exact ih (k + 1) r s9 (by omega) he (by omega) (F3.trans F9) k9
    · refine ⟨fun _ => hP26 _ _ ?_, fun hz => absurd rfl hz⟩
      intro x7 e7; subst e7; rw [nI_s]
      rw [hr] at he
      exact bad q (k + 1) s9 (by omega) he (F3.trans F9)
end
