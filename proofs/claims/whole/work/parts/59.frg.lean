/-! ===== PURE: guards put in ===== -/
def gcn (nd : Nat → Bool) : Nat → Nat
  | 0 => 0
  | i + 1 => gcn nd i + (if nd i = true then 1 else 0)
def mv (nd : Nat → Bool) (i : Nat) : Nat := i + gcn nd i
def insN (nd : Nat → Bool) (y : Nat × Int32) : Nat × Int32 := (y.1, if 17 < y.1 ∧ y.1 < 21 then nI (mv nd (ix y.2)) else y.2)
def blk (nd : Nat → Bool) (i : Nat) (y : Nat × Int32) : List (Nat × Int32) := if nd i = true then [(29, y.2), insN nd y] else [insN nd y]
def fcd (nd : Nat → Bool) : List (Nat × Int32) → Nat → List (Nat × Int32)
  | [], _ => []
  | y :: c, i => blk nd i y ++ fcd nd c (i + 1)
def hnN (nd : Nat → Bool) (h : Hn) : Hn := (mv nd (hF h), mv nd (hT h), mv nd (hG h), hA h, hC h)
def frF (nd : Nat → Bool) (x : Fn) : Fn := (fP x, fL x, fB x, fR x, fcd nd (fC x) 0, (fH x).map (hnN nd))
def mixP (nd : Nat → Nat → Bool) (k : Nat) (l : List Fn) : List Fn := l.mapIdx (fun f x => if f < k then frF (nd f) x else x)
section
variable {nd : Nat → Bool} {x : Fn} {i j : Nat}
theorem mv_0 : mv nd 0 = 0 := rfl
theorem mv_s : mv nd (i + 1) = mv nd i + (if nd i = true then 2 else 1) := by
  unfold mv
  rw [gcn]
  split <;> omega
theorem mv_lt (h : i < j) : mv nd i < mv nd j := by
  induction j with
  | zero => omega
  | succ j ih =>
    rw [mv_s]
    by_cases c : i = j
    · subst c; split <;> omega
    · have := ih (by omega)
      split <;> omega
theorem mv_le (h : i ≤ j) : mv nd i ≤ mv nd j := by
  by_cases c : i = j
  · subst c; exact Nat.le_refl _
  · exact Nat.le_of_lt (mv_lt (by omega))
theorem mv_iff : mv nd i < mv nd j ↔ i < j := by
  constructor
  · intro h
    apply Decidable.byContradiction
    intro hn
    have := mv_le (nd := nd) (i := j) (j := i) (by omega)
    omega
  · exact mv_lt
theorem mv_ge : i ≤ mv nd i := by unfold mv; omega
theorem gcn_le : gcn nd i ≤ i := by
  induction i with
  | zero => exact Nat.le_refl _
  | succ i ih => rw [gcn]; split <;> omega
theorem mv_pos {n : Nat} (h : j < mv nd n) : ∃ i, i < n ∧ mv nd i ≤ j ∧ j < mv nd (i + 1) := by
  induction n with
  | zero => rw [mv_0] at h; omega
  | succ n ih =>
    by_cases c : j < mv nd n
    · obtain ⟨i, h1, h2⟩ := ih c; exact ⟨i, by omega, h2⟩
    · exact ⟨n, by omega, by omega, h⟩
theorem blk_len {y : Nat × Int32} : (blk nd i y).length = if nd i = true then 2 else 1 := by
  unfold blk; split <;> rfl
theorem fcd_len : ∀ (c : List (Nat × Int32)) (i : Nat), mv nd i + (fcd nd c i).length = mv nd (i + c.length)
  | [], i => rfl
  | y :: c, i => by
    rw [fcd, List.length_append, blk_len, List.length_cons, show i + (c.length + 1) = i + 1 + c.length by omega, ← fcd_len c (i + 1), mv_s]
    omega
theorem frF_len : (fC (frF nd x)).length = mv nd (fC x).length := by
  have := fcd_len (nd := nd) (fC x) 0
  rw [mv_0, Nat.zero_add, Nat.zero_add] at this
  exact this
theorem fcd_drop : ∀ (c : List (Nat × Int32)) (k i : Nat), i ≤ c.length → (fcd nd c k).drop (mv nd (k + i) - mv nd k) = fcd nd (c.drop i) (k + i)
  | c, k, 0, _ => by rw [Nat.add_zero, Nat.sub_self, List.drop_zero, List.drop_zero]
  | [], k, i + 1, h => by simp at h
  | y :: c, k, i + 1, h => by
    rw [List.length_cons] at h
    have ih := fcd_drop c (k + 1) i (by omega)
    rw [fcd, List.drop_succ_cons, show k + (i + 1) = k + 1 + i by omega, ← ih]
    have e : mv nd (k + 1 + i) - mv nd k = (blk nd k y).length + (mv nd (k + 1 + i) - mv nd (k + 1)) := by
      rw [blk_len]
      have h1 := mv_s (nd := nd) (i := k)
      have h2 := mv_le (nd := nd) (i := k + 1) (j := k + 1 + i) (by omega)
      omega
    rw [e, List.drop_append]
    have e2 : (blk nd k y).drop ((blk nd k y).length + (mv nd (k + 1 + i) - mv nd (k + 1))) = [] := List.drop_eq_nil_of_le (by omega)
    rw [e2, List.nil_append, Nat.add_sub_cancel_left]
theorem frF_at (hi : i < (fC x).length) : (fC (frF nd x)).drop (mv nd i) = blk nd i (fC x)[i] ++ fcd nd ((fC x).drop (i + 1)) (i + 1) := by
  have := fcd_drop (nd := nd) (fC x) 0 i (by omega)
  rw [mv_0, Nat.zero_add, Nat.sub_zero, List.drop_eq_getElem_cons hi, fcd] at this
  exact this
theorem getD_drop {α : Type} {l r : List α} {k : Nat} {a d : α} (h : l.drop k = a :: r) : l.getD k d = a := by
  have : l[k]? = some a := by
    rw [← Nat.add_zero k, ← List.getElem?_drop, h]; rfl
  rw [List.getD_eq_getElem?_getD, this]; rfl
/-- what stands where in the forged code -/
theorem frF_ins (hi : i < (fC x).length) : (fC (frF nd x)).getD (mv nd (i + 1) - 1) (0, 0) = insN nd (fC x)[i] ∧ (nd i = true → (fC (frF nd x)).getD (mv nd i) (0, 0) = (29, (fC x)[i].2)) := by
  have h := frF_at (nd := nd) hi
  unfold blk at h
  have hs := mv_s (nd := nd) (i := i)
  cases hn : nd i with
  | false =>
    rw [hn, if_neg (by decide)] at h hs
    rw [hs, Nat.add_sub_cancel]
    exact ⟨getD_drop h, fun hh => absurd hh (by decide)⟩
  | true =>
    rw [hn, if_pos rfl] at h hs
    rw [hs]
    refine ⟨?_, fun _ => getD_drop h⟩
    have h2 := congrArg List.tail h
    rw [List.tail_drop] at h2
    have h2 : (fC (frF nd x)).drop (mv nd i + 1) = insN nd (fC x)[i] :: fcd nd ((fC x).drop (i + 1)) (i + 1) := h2
    exact getD_drop h2
theorem frF_op (hi : i < (fC x).length) : opA (frF nd x) (mv nd (i + 1) - 1) = opA x i ∧ orA (frF nd x) (mv nd (i + 1) - 1) = (if 17 < opA x i ∧ opA x i < 21 then nI (mv nd (ix (orA x i))) else orA x i) := by
  have h := (frF_ins (nd := nd) hi).1
  unfold opA orA
  rw [h, getD_at hi]
  exact ⟨rfl, rfl⟩
theorem frF_gd (hi : i < (fC x).length) (hn : nd i = true) : opA (frF nd x) (mv nd i) = 29 ∧ orA (frF nd x) (mv nd i) = orA x i := by
  have h := (frF_ins (nd := nd) hi).2 hn
  unfold opA orA
  rw [h, getD_at hi]
  exact ⟨rfl, rfl⟩
end
/-! heads -/
def hdE (l l' : List Fn) : Prop := l.length = l'.length ∧ ∀ k, fP (l.getD k dFn) = fP (l'.getD k dFn) ∧ fB (l.getD k dFn) = fB (l'.getD k dFn) ∧ fR (l.getD k dFn) = fR (l'.getD k dFn)
theorem tkQ_cong {x x' : Fn} (h : fB x = fB x') : ∀ (n : Nat) (st : List Bool), tkQ x n st = tkQ x' n st
  | 0, st => rfl
  | n + 1, st => by
    rw [tkQ, tkQ]
    have : rbit x n = rbit x' n := by unfold rbit; rw [h]
    rw [this]
    congr 1
    funext u; exact tkQ_cong h n u
theorem chg_cong {l l' : List Fn} {x x' : Fn} {o v : Nat} {st : List Bool} (hl : hdE l l') (hB : fB x = fB x') (hR : fR x = fR x') : chg l x o v st = chg l' x' o v st := by
  have h1 : ∀ k, rbit x k = rbit x' k := fun k => by unfold rbit; rw [hB]
  have h2 : rTy x = rTy x' := by unfold rTy; rw [hR]
  have h3 := hl.2 v
  have h4 : rTy (l.getD v dFn) = rTy (l'.getD v dFn) := by unfold rTy; rw [h3.2.2]
  unfold chg
  rw [h1, hR, h2, h3.1, h3.2.2, h4, tkQ_cong h3.2.1]
theorem vLook_cong {l l' : List Fn} {x : Fn} {f i : Nat} {st : List Bool} {y : Nat × Int32} {V : VS} (hl : hdE l l') : vLook l x f i st y V = vLook l' x f i st y V := by
  unfold vLook; rw [chg_cong hl rfl rfl]
theorem vLoop_cong {l l' : List Fn} {x : Fn} {f : Nat} (hl : hdE l l') : ∀ (r : Nat) (V : VS), vLoop l x f r V = vLoop l' x f r V
  | 0, V => rfl
  | r + 1, V => by
    rw [vLoop, vLoop]
    cases lsW (fC x).length V.2 with
    | none => rfl
    | some i =>
      dsimp only
      rw [vLook_cong hl]
      congr 1
      funext u; exact vLoop_cong hl r u
theorem vFun_cong {l l' : List Fn} {x : Fn} {f : Nat} (hl : hdE l l') : vFun l x f = vFun l' x f := vLoop_cong hl _ _
section
variable {l : List Fn} {x : Fn} {f n : Nat}
/-! stacks that fit are found -/
theorem vCom_fit {i : Nat} {st : List Bool} {V : VS} {M : Nat → Option (List Bool)} (hm : mleq V.1 M) (h : M i = some st) : ∃ V', vCom f i st V = .ok V' ∧ mleq V'.1 M := by
  unfold vCom cmT
  cases hv : V.1 i with
  | none =>
    refine ⟨_, rfl, fun j u hj => ?_⟩
    have hj : upF V.1 i (some st) j = some u := hj
    by_cases c : j = i
    · subst c; rw [upF_at] at hj; rw [h]; exact hj
    · rw [upF_ne c] at hj; exact hm j u hj
  | some u =>
    have := hm i u hv
    rw [h] at this
    have hus : u = st := (Option.some.inj this).symm
    dsimp only
    rw [if_pos hus]
    exact ⟨V, rfl, hm⟩
theorem vHs_fit {i : Nat} {M : Nat → Option (List Bool)} : ∀ (hs : List Hn) (V : VS), mleq V.1 M → (∀ h ∈ hs, hF h ≤ i → i < hT h → M (hG h) = some [false]) → ∃ V', vHs f i hs V = .ok V' ∧ mleq V'.1 M
  | [], V, hm, _ => ⟨V, rfl, hm⟩
  | k :: hs, V, hm, hh => by
    rw [vHs]
    by_cases c : hF k ≤ i ∧ i < hT k
    · rw [if_pos c]
      obtain ⟨V1, e1, m1⟩ := vCom_fit (f := f) hm (hh k (List.mem_cons_self ..) c.1 c.2)
      obtain ⟨V2, e2, m2⟩ := vHs_fit hs V1 m1 (fun h hm => hh h (List.mem_cons_of_mem _ hm))
      exact ⟨V2, by rw [e1]; exact e2, m2⟩
    · rw [if_neg c]
      exact vHs_fit hs V hm (fun h hm => hh h (List.mem_cons_of_mem _ hm))
theorem vLook_fit {i : Nat} {st : List Bool} {V : VS} {M : Nat → Option (List Bool)} (hm : mleq V.1 M) (hi : i < (fC x).length) (hst : M i = some st) (ho : okAt l x M i) : ∃ V', vLook l x f i st (fC x)[i] V = .ok V' ∧ mleq V'.1 M := by
  obtain ⟨_, r, h1, h2, h3, h4, h5⟩ := ho st hst
  unfold vLook
  rw [h1]
  dsimp only
  rw [if_neg (by omega)]
  obtain ⟨V1, e1, m1⟩ := vHs_fit (f := f) (fH x) V hm h3
  rw [e1]
  show ∃ V', vEnd f i (fC x).length (fC x)[i].1 (fC x)[i].2 r V1 = .ok V' ∧ _
  unfold vEnd
  have last : ∀ V2 : VS, mleq V2.1 M → ∃ V', (if (fC x)[i].1 = 18 ∨ (fC x)[i].1 = 27 ∨ (fC x)[i].1 = 28 then .ok V2 else if i + 1 = (fC x).length then .error (8, 512 * f + i) else vCom f (i + 1) r V2 : PE VS) = .ok V' ∧ mleq V'.1 M := by
    intro V2 m2
    by_cases c : (fC x)[i].1 = 18 ∨ (fC x)[i].1 = 27 ∨ (fC x)[i].1 = 28
    · rw [if_pos c]; exact ⟨V2, rfl, m2⟩
    · have := h5 c
      rw [if_neg c, if_neg (by omega)]
      exact vCom_fit m2 this.2
  by_cases c : 17 < (fC x)[i].1 ∧ (fC x)[i].1 < 21
  · rw [if_pos c]
    obtain ⟨V2, e2, m2⟩ := vCom_fit (f := f) m1 (h4 c)
    obtain ⟨V3, e3, m3⟩ := last V2 m2
    exact ⟨V3, by rw [e2]; exact e3, m3⟩
  · rw [if_neg c]
    exact last V1 m1
theorem vLoop_fit {M : Nat → Option (List Bool)} (hfo : fOK f l.length x) (ht : ∀ i, okAt l x M i) : ∀ (r : Nat) (V : VS), mleq V.1 M → vOK (fC x).length V → ∃ V', vLoop l x f r V = .ok V'
  | 0, V, _, _ => ⟨V, rfl⟩
  | r + 1, V, hm, hok => by
    rw [vLoop]
    cases hls : lsW (fC x).length V.2 with
    | none => exact ⟨V, rfl⟩
    | some i =>
      obtain ⟨hi, hw, _⟩ := lsW_some hls
      obtain ⟨st, hst⟩ : ∃ st, V.1 i = some st := by
        cases hq : V.1 i with
        | none => exact absurd hq (hok.1 i hw)
        | some st => exact ⟨st, rfl⟩
      dsimp only
      rw [hst, getD_at hi]
      obtain ⟨V1, e1, m1⟩ := vLook_fit (f := f) (V := (V.1, upF V.2 i false)) hm hi (hm i st hst) (ht i)
      have ok1 := (vLook_step hfo e1 hok.dr hi rfl hst).1.2.1
      show ∃ V', bnd (vLook l x f i st (fC x)[i] (V.1, upF V.2 i false)) (vLoop l x f r) = .ok V'
      rw [e1]
      exact vLoop_fit hfo ht r V1 m1 ok1
theorem vFun_fit {M : Nat → Option (List Bool)} (hfo : fOK f l.length x) (ht : tyF l x M) : ∃ V, vFun l x f = .ok V := by
  refine vLoop_fit hfo ht.2.2 _ _ (fun j u hj => ?_) (V0_ok hfo.2.2.2.2.2.2.2.1)
  have hj : upF (fun _ => none) 0 (some []) j = some u := hj
  by_cases c : j = 0
  · subst c; rw [upF_at] at hj; rw [← hj]; exact ht.1
  · rw [upF_ne c] at hj; exact no_so hj
end
