/-! ===== PURE: a function is verified ===== -/
abbrev VS : Type := (Nat → Option (List Bool)) × (Nat → Bool)
def upF {α : Type} (f : Nat → α) (k : Nat) (v : α) : Nat → α := fun j => if j = k then v else f j
theorem upF_at {α : Type} {f : Nat → α} {k : Nat} {v : α} : upF f k v k = v := if_pos rfl
theorem upF_ne {α : Type} {f : Nat → α} {k j : Nat} {v : α} (h : j ≠ k) : upF f k v j = f j := if_neg h
def cmT (i : Nat) (st : List Bool) (V : VS) : Option VS := match V.1 i with
  | none => some (upF V.1 i (some st), upF V.2 i true)
  | some u => if u = st then some V else none
def vCom (f i : Nat) (st : List Bool) (V : VS) : PE VS := match cmT i st V with
  | none => .error (7, 512 * f + i)
  | some V' => .ok V'
def vHs (f i : Nat) : List Hn → VS → PE VS
  | [], V => .ok V
  | h :: hs, V => if hF h ≤ i ∧ i < hT h then bnd (vCom f (hG h) [false] V) (vHs f i hs) else vHs f i hs V
def vEnd (f i n o : Nat) (v : Int32) (st : List Bool) (V : VS) : PE VS := bnd (if 17 < o ∧ o < 21 then vCom f (ix v) st V else .ok V) (fun V => if o = 18 ∨ o = 27 ∨ o = 28 then .ok V else if i + 1 = n then .error (8, 512 * f + i) else vCom f (i + 1) st V)
def vLook (l : List Fn) (x : Fn) (f i : Nat) (st : List Bool) (y : Nat × Int32) (V : VS) : PE VS := match chg l x y.1 (ix y.2) st with
  | none => .error (5, 512 * f + i)
  | some r => if 16 < r.length then .error (6, 512 * f + i) else bnd (vHs f i (fH x) V) (vEnd f i (fC x).length y.1 y.2 r)
def lsW (n : Nat) (W : Nat → Bool) : Option Nat := (List.range n).find? W
def vLoop (l : List Fn) (x : Fn) (f : Nat) : Nat → VS → PE VS
  | 0, V => .ok V
  | r + 1, V => match lsW (fC x).length V.2 with
    | none => .ok V
    | some i => bnd (vLook l x f i ((V.1 i).getD []) ((fC x).getD i (0, 0)) (V.1, upF V.2 i false)) (vLoop l x f r)
def V0 : VS := (upF (fun _ => none) 0 (some []), upF (fun _ => false) 0 true)
def vFun (l : List Fn) (x : Fn) (f : Nat) : PE VS := vLoop l x f (fC x).length V0
/-! what holds -/
section
variable {l : List Fn} {x : Fn} {f n : Nat}
theorem lsW_some {W : Nat → Bool} {i : Nat} (h : lsW n W = some i) : i < n ∧ W i = true ∧ ∀ j, j < i → W j = false := by
  unfold lsW at h
  rw [List.find?_eq_some_iff_getElem] at h
  obtain ⟨h1, k, hk, e, hno⟩ := h
  rw [List.length_range] at hk
  rw [List.getElem_range] at e
  subst e
  refine ⟨hk, h1, fun j hj => ?_⟩
  have := hno j hj
  rw [List.getElem_range] at this
  simpa using this
theorem lsW_none {W : Nat → Bool} (h : lsW n W = none) : ∀ j, j < n → W j = false := by
  unfold lsW at h
  rw [List.find?_eq_none] at h
  intro j hj
  have := h j (List.mem_range.mpr hj)
  simpa using this
theorem lsW_of {W : Nat → Bool} {i : Nat} (hi : i < n) (h1 : W i = true) (h2 : ∀ j, j < i → W j = false) : lsW n W = some i := by
  unfold lsW
  rw [List.find?_eq_some_iff_getElem]
  refine ⟨h1, i, by rw [List.length_range]; exact hi, List.getElem_range _, fun j hj => ?_⟩
  rw [List.getElem_range, h2 j hj]; rfl
theorem lsW_no {W : Nat → Bool} (h : ∀ j, j < n → W j = false) : lsW n W = none := by
  unfold lsW
  rw [List.find?_eq_none]
  intro j hj
  rw [h j (List.mem_range.mp hj)]; simp
def pend (V : VS) (i : Nat) : Bool := (V.1 i).isNone || V.2 i
def mleq (M M' : Nat → Option (List Bool)) : Prop := ∀ i st, M i = some st → M' i = some st
/-- as it always is on the way -/
def vOK (n : Nat) (V : VS) : Prop := (∀ i, V.2 i = true → V.1 i ≠ none) ∧ (∀ i st, V.1 i = some st → st.length ≤ 16 ∧ i < n)
def vKeep (V V' : VS) : Prop := (∀ i, pend V' i = pend V i) ∧ mleq V.1 V'.1 ∧ (∀ i, V.2 i = true → V'.2 i = true)
theorem vKeep.rfl' {V : VS} : vKeep V V := ⟨fun _ => rfl, fun _ _ h => h, fun _ h => h⟩
theorem vKeep.trans {V V' V'' : VS} (h : vKeep V V') (k : vKeep V' V'') : vKeep V V'' := ⟨fun i => (k.1 i).trans (h.1 i), fun i st e => k.2.1 i st (h.2.1 i st e), fun i e => k.2.2 i (h.2.2 i e)⟩
theorem cmT_keep {i : Nat} {st : List Bool} {V V' : VS} (h : cmT i st V = some V') : vKeep V V' ∧ V'.1 i = some st ∧ (∀ j, V.1 j = none → V'.1 j ≠ none → V'.2 j = true) := by
  unfold cmT at h
  split at h
  · rename_i hn
    cases h
    refine ⟨⟨fun j => ?_, fun j u hj => ?_, fun j hj => ?_⟩, upF_at, fun j h1 h2 => ?_⟩
    · by_cases c : j = i
      · subst c
        show ((upF V.1 j (some st) j).isNone || upF V.2 j true j) = ((V.1 j).isNone || V.2 j)
        rw [upF_at, upF_at, hn]; rfl
      · show ((upF V.1 i (some st) j).isNone || upF V.2 i true j) = ((V.1 j).isNone || V.2 j)
        rw [upF_ne c, upF_ne c]
    · by_cases c : j = i
      · subst c; rw [hn] at hj; exact absurd hj (by simp)
      · show upF V.1 i (some st) j = some u; rw [upF_ne c]; exact hj
    · by_cases c : j = i
      · subst c; exact upF_at
      · show upF V.2 i true j = true; rw [upF_ne c]; exact hj
    · by_cases c : j = i
      · subst c; exact upF_at
      · exfalso; apply h2; show upF V.1 i (some st) j = none; rw [upF_ne c]; exact h1
  · rename_i u hu
    split at h
    · rename_i e
      cases h
      exact ⟨vKeep.rfl', by rw [hu, e], fun j h1 h2 => absurd h1 h2⟩
    · exact absurd h (by simp)
theorem cmT_ok {i : Nat} {st : List Bool} {V V' : VS} (h : cmT i st V = some V') (ho : vOK n V) (hi : i < n) (hs : st.length ≤ 16) : vOK n V' := by
  unfold cmT at h
  split at h
  · cases h
    refine ⟨fun j hj => ?_, fun j u hj => ?_⟩
    · by_cases c : j = i
      · subst c; show upF V.1 j (some st) j ≠ none; rw [upF_at]; simp
      · show upF V.1 i (some st) j ≠ none
        rw [upF_ne c]; apply ho.1
        have hj : upF V.2 i true j = true := hj
        rw [upF_ne c] at hj; exact hj
    · have hj : upF V.1 i (some st) j = some u := hj
      by_cases c : j = i
      · subst c; rw [upF_at] at hj; cases hj; exact ⟨hs, hi⟩
      · rw [upF_ne c] at hj; exact ho.2 j u hj
  · split at h
    · cases h; exact ho
    · exact absurd h (by simp)
/-- an instruction is right, where the stacks are M -/
def okAt (l : List Fn) (x : Fn) (M : Nat → Option (List Bool)) (i : Nat) : Prop := ∀ st, M i = some st → ∃ (hi : i < (fC x).length) (r : List Bool), chg l x (fC x)[i].1 (ix (fC x)[i].2) st = some r ∧ r.length ≤ 16 ∧ (∀ h ∈ fH x, hF h ≤ i → i < hT h → M (hG h) = some [false]) ∧ (17 < (fC x)[i].1 ∧ (fC x)[i].1 < 21 → M (ix (fC x)[i].2) = some r) ∧ (¬ ((fC x)[i].1 = 18 ∨ (fC x)[i].1 = 27 ∨ (fC x)[i].1 = 28) → i + 1 < (fC x).length ∧ M (i + 1) = some r)
theorem okAt.mono {M M' : Nat → Option (List Bool)} {i : Nat} (h : okAt l x M i) (hm : mleq M M') (hi : M i ≠ none) : okAt l x M' i := by
  intro st hst
  have hM : M i = some st := by
    cases hu : M i with
    | none => exact absurd hu hi
    | some u => rw [hm i u hu] at hst; rw [← hst]
  obtain ⟨hlt, r, h1, h2, h3, h4, h5⟩ := h st hM
  exact ⟨hlt, r, h1, h2, fun k hk a b => hm _ _ (h3 k hk a b), fun a => hm _ _ (h4 a), fun a => ⟨(h5 a).1, hm _ _ (h5 a).2⟩⟩
theorem vCom_ok {i : Nat} {st : List Bool} {V V' : VS} (h : vCom f i st V = .ok V') : cmT i st V = some V' := by
  unfold vCom at h
  split at h
  · exact absurd h (by simp)
  · rename_i hh; cases h; exact hh
/-- what a step keeps -/
def vStep (n : Nat) (V V' : VS) : Prop := vKeep V V' ∧ vOK n V' ∧ (∀ j, V.1 j = none → V'.1 j ≠ none → V'.2 j = true)
theorem vStep.rfl' {V : VS} (h : vOK n V) : vStep n V V := ⟨vKeep.rfl', h, fun j h1 h2 => absurd h1 h2⟩
theorem vStep.trans {V V' V'' : VS} (h : vStep n V V') (k : vStep n V' V'') : vStep n V V'' := by
  refine ⟨h.1.trans k.1, k.2.1, fun j h1 h2 => ?_⟩
  by_cases c : V'.1 j = none
  · exact k.2.2 j c h2
  · exact k.1.2.2 j (h.2.2 j h1 c)
theorem vCom_step {i : Nat} {st : List Bool} {V V' : VS} (h : vCom f i st V = .ok V') (ho : vOK n V) (hi : i < n) (hs : st.length ≤ 16) : vStep n V V' ∧ V'.1 i = some st := by
  have hc := vCom_ok h
  have := cmT_keep hc
  exact ⟨⟨this.1, cmT_ok hc ho hi hs, this.2.2⟩, this.2.1⟩
theorem vHs_step {i : Nat} : ∀ (hs : List Hn) (V V' : VS), vHs f i hs V = .ok V' → vOK n V → (∀ h ∈ hs, hG h < n) → vStep n V V' ∧ ∀ h ∈ hs, hF h ≤ i → i < hT h → V'.1 (hG h) = some [false]
  | [], V, V', h, ho, _ => by
    rw [vHs] at h; cases h; exact ⟨vStep.rfl' ho, fun h hh => by simp at hh⟩
  | h0 :: hs, V, V', h, ho, hg => by
    rw [vHs] at h
    split at h
    · cases h1 : vCom f (hG h0) [false] V with
      | error e => rw [h1] at h; exact absurd h (by simp [bnd])
      | ok V1 =>
        rw [h1] at h
        have h : vHs f i hs V1 = .ok V' := h
        have s1 := vCom_step h1 ho (hg h0 (by simp)) (by simp)
        have s2 := vHs_step hs V1 V' h s1.1.2.1 (fun k hk => hg k (by simp [hk]))
        refine ⟨s1.1.trans s2.1, fun k hk a b => ?_⟩
        rw [List.mem_cons] at hk
        rcases hk with hk | hk
        · subst hk; exact s2.1.1.2.1 _ _ s1.2
        · exact s2.2 k hk a b
    · rename_i hno
      have s2 := vHs_step hs V V' h ho (fun k hk => hg k (by simp [hk]))
      refine ⟨s2.1, fun k hk a b => ?_⟩
      rw [List.mem_cons] at hk
      rcases hk with hk | hk
      · subst hk; exact absurd ⟨a, b⟩ hno
      · exact s2.2 k hk a b
theorem vEnd_step {i o : Nat} {v : Int32} {st : List Bool} {V V' : VS} (h : vEnd f i n o v st V = .ok V') (ho : vOK n V) (hi : i < n) (hs : st.length ≤ 16) (hv : 17 < o ∧ o < 21 → ix v < n) : vStep n V V' ∧ (17 < o ∧ o < 21 → V'.1 (ix v) = some st) ∧ (¬ (o = 18 ∨ o = 27 ∨ o = 28) → i + 1 < n ∧ V'.1 (i + 1) = some st) := by
  unfold vEnd at h
  have key : ∀ V1 : VS, (if o = 18 ∨ o = 27 ∨ o = 28 then .ok V1 else if i + 1 = n then .error (8, 512 * f + i) else vCom f (i + 1) st V1 : PE VS) = .ok V' → vOK n V1 → vStep n V1 V' ∧ (¬ (o = 18 ∨ o = 27 ∨ o = 28) → i + 1 < n ∧ V'.1 (i + 1) = some st) := by
    intro V1 hh ho1
    split at hh
    · rename_i hc; cases hh; exact ⟨vStep.rfl' ho1, fun hn => absurd hc hn⟩
    · split at hh
      · exact absurd hh (by simp)
      · have := vCom_step hh ho1 (by omega) hs
        exact ⟨this.1, fun _ => ⟨by omega, this.2⟩⟩
  by_cases c : 17 < o ∧ o < 21
  · rw [if_pos c] at h
    cases h1 : vCom f (ix v) st V with
    | error e => rw [h1] at h; exact absurd h (by simp [bnd])
    | ok V1 =>
      rw [h1] at h
      have s1 := vCom_step h1 ho (hv c) hs
      have s2 := key V1 h s1.1.2.1
      exact ⟨s1.1.trans s2.1, fun _ => s2.1.1.2.1 _ _ s1.2, s2.2⟩
  · rw [if_neg c] at h
    have s2 := key V h ho
    exact ⟨s2.1, fun hh => absurd hh c, s2.2⟩
theorem vLook_step {i : Nat} {st : List Bool} {y : Nat × Int32} {V V' : VS} (hfo : fOK f l.length x) (h : vLook l x f i st y V = .ok V') (ho : vOK (fC x).length V) (hi : i < (fC x).length) (hy : y = (fC x)[i]) (hst : V.1 i = some st) : vStep (fC x).length V V' ∧ okAt l x V'.1 i := by
  have hio := hfo.2.2.2.2.2.2.2.2.2.2.1 _ (List.getElem_mem hi)
  have hho := hfo.2.2.2.2.2.2.2.2.2.2.2
  unfold vLook at h
  cases hc : chg l x y.1 (ix y.2) st with
  | none => rw [hc] at h; exact absurd h (by simp)
  | some r =>
    rw [hc] at h
    dsimp only at h
    split at h
    · exact absurd h (by simp)
    · rename_i h16
      cases h1 : vHs f i (fH x) V with
      | error e => rw [h1] at h; exact absurd h (by simp [bnd])
      | ok V1 =>
        rw [h1] at h
        have h : vEnd f i (fC x).length y.1 y.2 r V1 = .ok V' := h
        have s1 := vHs_step (fH x) V V1 h1 ho (fun k hk => (hho k hk).2.2.1)
        have s2 := vEnd_step h s1.1.2.1 hi (by omega) (fun hh => by
          subst hy
          obtain ⟨k, hk, e⟩ := hio.2.2.1 hh
          have hc400 := hfo.2.2.2.2.2.2.2.2.1
          rw [e, nI_ix (by omega)]; exact hk)
        refine ⟨s1.1.trans s2.1, ?_⟩
        intro u hu
        have hus : u = st := by
          have := (s1.1.trans s2.1).1.2.1 i st hst
          rw [this] at hu; cases hu; rfl
        subst hus
        subst hy
        exact ⟨hi, r, hc, by omega, fun k hk a b => s2.1.1.2.1 _ _ (s1.2 k hk a b), s2.2.1, s2.2.2⟩
/-- all that waits or is right -/
def vRight (l : List Fn) (x : Fn) (V : VS) : Prop := ∀ i, V.1 i ≠ none → V.2 i = true ∨ okAt l x V.1 i
theorem vLoop_ok (hfo : fOK f l.length x) : ∀ (r : Nat) (V V' : VS), vLoop l x f r V = .ok V' → vOK (fC x).length V → vRight l x V → mleq V.1 V'.1 ∧ vOK (fC x).length V' ∧ vRight l x V' ∧ ((List.range (fC x).length).countP (pend V) ≤ r → ∀ i, V'.2 i = false)
  | 0, V, V', h, ho, hr => by
    rw [vLoop] at h; cases h
    refine ⟨fun _ _ h => h, ho, hr, fun hc i => ?_⟩
    cases hw : V.2 i with
    | false => rfl
    | true =>
      exfalso
      have hne := ho.1 i hw
      obtain ⟨st, hst⟩ : ∃ st, V.1 i = some st := by
        cases hv : V.1 i with
        | none => exact absurd hv hne
        | some st => exact ⟨st, rfl⟩
      have hin := (ho.2 i st hst).2
      have : 0 < (List.range (fC x).length).countP (pend V) := List.countP_pos_iff.mpr ⟨i, List.mem_range.mpr hin, by unfold pend; rw [hw, Bool.or_true]⟩
      omega
  | r + 1, V, V', h, ho, hr => by
    rw [vLoop] at h
    cases hls : lsW (fC x).length V.2 with
    | none =>
      rw [hls] at h; cases h
      refine ⟨fun _ _ h => h, ho, hr, fun _ i => ?_⟩
      cases hw : V.2 i with
      | false => rfl
      | true =>
        obtain ⟨st, hst⟩ : ∃ st, V.1 i = some st := by
          cases hv : V.1 i with
          | none => exact absurd hv (ho.1 i hw)
          | some st => exact ⟨st, rfl⟩
        have := lsW_none hls i (ho.2 i st hst).2
        rw [hw] at this; exact this
    | some i =>
      rw [hls] at h
      obtain ⟨hi, hwi, _⟩ := lsW_some hls
      obtain ⟨st, hst⟩ : ∃ st, V.1 i = some st := by
        cases hv : V.1 i with
        | none => exact absurd hv (ho.1 i hwi)
        | some st => exact ⟨st, rfl⟩
      dsimp only at h
      rw [hst, getD_at hi] at h
      have h : bnd (vLook l x f i st (fC x)[i] (V.1, upF V.2 i false)) (vLoop l x f r) = .ok V' := h
      cases h1 : vLook l x f i st (fC x)[i] (V.1, upF V.2 i false) with
      | error e => rw [h1] at h; exact absurd h (by simp [bnd])
      | ok V1 =>
        rw [h1] at h
        have h : vLoop l x f r V1 = .ok V' := h
        have ho' : vOK (fC x).length (V.1, upF V.2 i false) := by
          refine ⟨fun j hj => ?_, ho.2⟩
          have hj : upF V.2 i false j = true := hj
          by_cases c : j = i
          · subst c; rw [upF_at] at hj; exact absurd hj (by decide)
          · rw [upF_ne c] at hj; exact ho.1 j hj
        have s1 := vLook_step hfo h1 ho' hi rfl hst
        have hr1 : vRight l x V1 := by
          intro j hj
          by_cases c : j = i
          · subst c; exact Or.inr s1.2
          · by_cases cn : V.1 j = none
            · exact Or.inl (s1.1.2.2 j cn hj)
            · rcases hr j cn with hw | hk
              · exact Or.inl (s1.1.1.2.2 j (by show upF V.2 i false j = true; rw [upF_ne c]; exact hw))
              · exact Or.inr (hk.mono s1.1.1.2.1 cn)
        have := vLoop_ok hfo r V1 V' h s1.1.2.1 hr1
        refine ⟨fun j u hj => this.1 j u (s1.1.1.2.1 j u hj), this.2.1, this.2.2.1, fun hc => this.2.2.2 ?_⟩
        have e1 : (List.range (fC x).length).countP (pend V1) = (List.range (fC x).length).countP (pend (V.1, upF V.2 i false)) := by
          apply List.countP_congr
          intro j _; rw [s1.1.1.1 j]
        have e2 : (List.range (fC x).length).countP (pend (V.1, upF V.2 i false)) < (List.range (fC x).length).countP (pend V) := by
          apply countP_lt
          · intro j _ hj
            have hj : ((V.1 j).isNone || upF V.2 i false j) = true := hj
            show ((V.1 j).isNone || V.2 j) = true
            by_cases c : j = i
            · subst c; rw [hwi, Bool.or_true]
            · rw [upF_ne c] at hj; exact hj
          · refine ⟨i, List.mem_range.mpr hi, by show ((V.1 i).isNone || V.2 i) = true; rw [hwi, Bool.or_true], ?_⟩
            show ((V.1 i).isNone || upF V.2 i false i) = false
            rw [upF_at, hst]; rfl
        omega
theorem V0_ok (hn : 1 ≤ n) : vOK n V0 := by
  refine ⟨fun i hi => ?_, fun i st hi => ?_⟩
  · have hi : upF (fun _ => false) 0 true i = true := hi
    show upF (fun _ => none) 0 (some []) i ≠ none
    by_cases c : i = 0
    · subst c; rw [upF_at]; simp
    · rw [upF_ne c] at hi; exact absurd hi (by decide)
  · have hi : upF (fun _ => none) 0 (some []) i = some st := hi
    by_cases c : i = 0
    · subst c; rw [upF_at] at hi; cases hi; exact ⟨by simp, by omega⟩
    · rw [upF_ne c] at hi; exact absurd hi (by simp)
/-- the stacks of a verified function -/
def tyF (l : List Fn) (x : Fn) (M : Nat → Option (List Bool)) : Prop := M 0 = some [] ∧ (∀ i st, M i = some st → st.length ≤ 16 ∧ i < (fC x).length) ∧ ∀ i, okAt l x M i
theorem vFun_ok {V : VS} (hfo : fOK f l.length x) (h : vFun l x f = .ok V) : tyF l x V.1 ∧ ∀ i, V.2 i = false := by
  have hn := hfo.2.2.2.2.2.2.2.1
  have hr0 : vRight l x V0 := by
    intro i hi
    left
    show upF (fun _ => false) 0 true i = true
    by_cases c : i = 0
    · subst c; exact upF_at
    · exfalso; apply hi; show upF (fun _ => none) 0 (some []) i = none; rw [upF_ne c]
  have := vLoop_ok hfo _ _ _ h (V0_ok hn) hr0
  have hw := this.2.2.2 (by have := List.countP_le_length (l := List.range (fC x).length) (p := pend V0); rw [List.length_range] at this; exact this)
  refine ⟨⟨this.1 0 [] (show upF (fun _ => none) 0 (some []) 0 = some [] from upF_at), this.2.1.2, fun i st hst => ?_⟩, hw⟩
  rcases this.2.2.1 i (by rw [hst]; simp) with hh | hh
  · rw [hw i] at hh; exact absurd hh (by decide)
  · exact hh st hst
end
