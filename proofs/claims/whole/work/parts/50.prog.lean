/-! ===== PURE: programs read from bytes ===== -/
abbrev Hn : Type := Nat × Nat × Nat × Bool × Int32
def hF (h : Hn) : Nat := h.1
def hT (h : Hn) : Nat := h.2.1
def hG (h : Hn) : Nat := h.2.2.1
def hA (h : Hn) : Bool := h.2.2.2.1
def hC (h : Hn) : Int32 := h.2.2.2.2
abbrev Fn : Type := Nat × Nat × Nat × Nat × List (Nat × Int32) × List Hn
def fP (x : Fn) : Nat := x.1
def fL (x : Fn) : Nat := x.2.1
def fB (x : Fn) : Nat := x.2.2.1
def fR (x : Fn) : Nat := x.2.2.2.1
def fC (x : Fn) : List (Nat × Int32) := x.2.2.2.2.1
def fH (x : Fn) : List Hn := x.2.2.2.2.2
section
variable (B : Nat → Nat) (nb : Nat)
def vB (j : Nat) : Nat → Int32
  | 0 => 0
  | k + 1 => (vB j k <<< (nI 8 &&& 31)) ||| nI (B (j + k))
def bdN (w : Nat) (lo hi : Int32) (j : Nat) : PE Int32 := if nb < j + w then .error (1, nb) else if vB B j w < lo ∨ ¬ vB B j w ≤ hi then .error (3, j) else .ok (vB B j w)
/-- what stands behind an instruction's byte: how many bytes, least and greatest -/
def opW (o lc n all : Nat) : Option (Nat × Int32 × Int32) :=
  if o = 0 then some (4, -2147483648, 2147483647) else if o = 4 ∨ o = 5 then some (1, 0, nI lc - 1) else if 17 < o ∧ o < 21 then some (2, 0, nI n - 1) else if o = 25 then some (1, 0, nI all - 1) else if o = 26 ∨ o = 29 then some (1, 0, nI 15) else none
def bdI (lc n all j : Nat) : PE ((Nat × Int32) × Nat) := match bdN B nb 1 0 (nI 29) j with
  | .error e => .error e
  | .ok o => match opW (ix o) lc n all with
    | none => .ok ((ix o, 0), j + 1)
    | some x => match bdN B nb x.1 x.2.1 x.2.2 (j + 1) with
      | .error e => .error e
      | .ok v => .ok ((ix o, v), j + 1 + x.1)
def bdC (lc n all : Nat) : Nat → List (Nat × Int32) → Nat → PE (List (Nat × Int32) × Nat)
  | 0, l, j => .ok (l, j)
  | r + 1, l, j => match bdI B nb lc n all j with
    | .error e => .error e
    | .ok x => bdC lc n all r (l ++ [x.1]) x.2
def bdH (n j : Nat) : PE (Hn × Nat) := match bdN B nb 2 0 (nI n - 1) j with
  | .error e => .error e
  | .ok a => match bdN B nb 2 (a + 1) (nI n) (j + 2) with
    | .error e => .error e
    | .ok b => match bdN B nb 2 0 (nI n - 1) (j + 4) with
      | .error e => .error e
      | .ok c => match bdN B nb 1 0 1 (j + 6) with
        | .error e => .error e
        | .ok k => if k = 0 then .ok ((ix a, ix b, ix c, true, 0), j + 7) else match bdN B nb 4 (-2147483648) 2147483647 (j + 7) with
          | .error e => .error e
          | .ok v => .ok ((ix a, ix b, ix c, false, v), j + 11)
def bdHs (n : Nat) : Nat → List Hn → Nat → PE (List Hn × Nat)
  | 0, l, j => .ok (l, j)
  | r + 1, l, j => match bdH B nb n j with
    | .error e => .error e
    | .ok x => bdHs n r (l ++ [x.1]) x.2
def bdF (f all j : Nat) : PE (Fn × Nat) := match bdN B nb 1 0 (if f = 0 then 0 else nI 4) j with
  | .error e => .error e
  | .ok p => match bdN B nb 1 p (nI 12) (j + 1) with
    | .error e => .error e
    | .ok l => match bdN B nb 2 0 ((1 <<< (l &&& 31)) - 1) (j + 2) with
      | .error e => .error e
      | .ok b => match bdN B nb 1 0 (if f = 0 then 1 else nI 2) (j + 4) with
        | .error e => .error e
        | .ok r => match bdN B nb 2 1 (nI 400) (j + 5) with
          | .error e => .error e
          | .ok n => match bdC B nb (ix l) (ix n) all (ix n) [] (j + 7) with
            | .error e => .error e
            | .ok c => match bdN B nb 1 0 (nI 6) c.2 with
              | .error e => .error e
              | .ok h => match bdHs B nb (ix n) (ix h) [] (c.2 + 1) with
                | .error e => .error e
                | .ok y => .ok ((ix p, ix l, ix b, ix r, c.1, y.1), y.2)
def bdFs (all : Nat) : Nat → List Fn → Nat → PE (List Fn × Nat)
  | 0, l, j => .ok (l, j)
  | r + 1, l, j => match bdF B nb l.length all j with
    | .error e => .error e
    | .ok x => bdFs all r (l ++ [x.1]) x.2
def bdB : Nat → Nat → PE Unit
  | 0, _ => .ok ()
  | r + 1, k => if nb ≤ k then .error (1, nb) else if nI (B k) = (g_beg.getD k 0) then bdB r (k + 1) else .error (2, k)
def bdP : PE (List Fn) := match bdB B nb 3 0 with
  | .error e => .error e
  | .ok _ => match bdN B nb 1 1 (nI 12) 3 with
    | .error e => .error e
    | .ok a => match bdFs B nb (ix a) (ix a) [] 4 with
      | .error e => .error e
      | .ok x => if x.2 < nb then .error (4, x.2) else .ok x.1
end
section
variable {B : Nat → Nat} {nb : Nat}
theorem bdN_ok {w j : Nat} {lo hi v : Int32} (h : bdN B nb w lo hi j = .ok v) : j + w ≤ nb ∧ ¬ v < lo ∧ v ≤ hi ∧ v = vB B j w := by
  unfold bdN at h
  split at h
  · exact absurd h (by simp)
  · split at h
    · exact absurd h (by simp)
    · rename_i h1 h2
      cases h
      refine ⟨by omega, fun h => h2 (Or.inl h), ?_, rfl⟩
      exact Decidable.byContradiction (fun h => h2 (Or.inr h))
theorem bdN_nat {w j : Nat} {lo hi : Nat} {v : Int32} (hl : lo < 2147483648) (hh : hi < 2147483648) (h : bdN B nb w (nI lo) (nI hi) j = .ok v) : v = nI (ix v) ∧ lo ≤ ix v ∧ ix v ≤ hi := by
  obtain ⟨_, h1, h2, _⟩ := bdN_ok h
  rw [i_ltI, nI_toIntU hl] at h1
  rw [i_leI, nI_toIntU hh] at h2
  obtain ⟨n, e, hn⟩ := nI_ofU (x := v) (by omega)
  subst e
  rw [nI_toIntU hn] at h1 h2
  rw [nI_ix hn]; exact ⟨rfl, by omega, by omega⟩
theorem bdN_err {w j : Nat} {lo hi : Int32} {e : Nat × Nat} (h : bdN B nb w lo hi j = .error e) : 1 ≤ e.1 ∧ e.1 ≤ 8 := by
  unfold bdN at h
  split at h
  · cases h; exact ⟨by simp, by simp⟩
  · split at h
    · cases h; exact ⟨by simp, by simp⟩
    · exact absurd h (by simp)
/-- a handler as it can be -/
def hOK (n : Nat) (h : Hn) : Prop := hF h < hT h ∧ hT h ≤ n ∧ hG h < n ∧ (hA h = true → hC h = 0)
/-- an instruction as it can be -/
def iOK (lc n all : Nat) (x : Nat × Int32) : Prop := x.1 ≤ 29 ∧ (x.1 = 4 ∨ x.1 = 5 → ∃ k, k < lc ∧ x.2 = nI k) ∧ (17 < x.1 ∧ x.1 < 21 → ∃ k, k < n ∧ x.2 = nI k) ∧ (x.1 = 25 → ∃ k, k < all ∧ x.2 = nI k) ∧ (x.1 = 26 ∨ x.1 = 29 → ∃ k, k < 16 ∧ x.2 = nI k)
def fOK (f all : Nat) (x : Fn) : Prop := fP x ≤ 4 ∧ (f = 0 → fP x = 0) ∧ fP x ≤ fL x ∧ fL x ≤ 12 ∧ fB x < 2 ^ fL x ∧ fR x ≤ 2 ∧ (f = 0 → fR x ≤ 1) ∧ 1 ≤ (fC x).length ∧ (fC x).length ≤ 400 ∧ (fH x).length ≤ 6 ∧ (∀ y ∈ fC x, iOK (fL x) (fC x).length all y) ∧ ∀ h ∈ fH x, hOK (fC x).length h
/-- how many bytes -/
def wdI (o : Nat) : Nat := 1 + (g_wid.getD o 0).toInt.toNat
def lenH (h : Hn) : Nat := if hA h then 7 else 11
def lenF (x : Fn) : Nat := 8 + ((fC x).map (fun y => wdI y.1)).sum + ((fH x).map lenH).sum
theorem opW_nat {o lc n all : Nat} {x : Nat × Int32 × Int32} (h : opW o lc n all = some x) (h1 : o ≠ 0) (hlc : 1 ≤ lc) (hn : 1 ≤ n) (ha : 1 ≤ all) : ∃ k, x.2.1 = nI 0 ∧ x.2.2 = nI k ∧ k = (if o = 4 ∨ o = 5 then lc - 1 else if 17 < o ∧ o < 21 then n - 1 else if o = 25 then all - 1 else 15) := by
  unfold opW at h
  rw [if_neg h1] at h
  split at h
  · cases h; exact ⟨_, rfl, by show nI lc - 1 = _; rw [nI_p hlc], by rw [if_pos ‹_›]⟩
  · split at h
    · cases h; exact ⟨_, rfl, by show nI n - 1 = _; rw [nI_p hn], by rw [if_neg ‹_›, if_pos ‹_›]⟩
    · split at h
      · cases h; exact ⟨_, rfl, by show nI all - 1 = _; rw [nI_p ha], by rw [if_neg ‹_›, if_neg ‹_›, if_pos ‹_›]⟩
      · split at h
        · cases h; exact ⟨_, rfl, rfl, by rw [if_neg ‹_›, if_neg ‹_›, if_neg ‹_›]⟩
        · exact absurd h (by simp)
theorem opW_wd {o lc n all : Nat} (ho : o ≤ 29) : wdI o = 1 + (match opW o lc n all with
    | none => 0
    | some x => x.1) := by
  unfold opW
  have : o ∈ List.range 30 := List.mem_range.mpr (by omega)
  have key : ∀ o ∈ List.range 30, wdI o = 1 + (if o = 0 then 4 else if o = 4 ∨ o = 5 then 1 else if 17 < o ∧ o < 21 then 2 else if o = 25 then 1 else if o = 26 ∨ o = 29 then 1 else 0) := by decide
  rw [key o this]
  split
  · rfl
  · split
    · rfl
    · split
      · rfl
      · split
        · rfl
        · split <;> rfl
theorem bdI_ok {lc n all j j' : Nat} {x : Nat × Int32} (hlc : lc ≤ 12) (hn : 1 ≤ n) (hn2 : n ≤ 400) (ha : 1 ≤ all) (ha2 : all ≤ 12) (h : bdI B nb lc n all j = .ok (x, j')) : iOK lc n all x ∧ j' = j + wdI x.1 ∧ j' ≤ nb := by
  unfold bdI at h
  cases h1 : bdN B nb 1 0 (nI 29) j with
  | error e => rw [h1] at h; exact absurd h (by simp)
  | ok o =>
    rw [h1] at h
    have ho := bdN_nat (lo := 0) (hi := 29) (by omega) (by omega) h1
    have hj := (bdN_ok h1).1
    have hwd := opW_wd (lc := lc) (n := n) (all := all) ho.2.2
    dsimp only at h
    cases h2 : opW (ix o) lc n all with
    | none =>
      rw [h2] at h hwd
      dsimp only at h hwd
      cases h
      refine ⟨⟨ho.2.2, ?_, ?_, ?_, ?_⟩, by rw [hwd], hj⟩
      · intro hh; unfold opW at h2; rw [if_neg (by omega), if_pos hh] at h2; exact absurd h2 (by simp)
      · intro hh; unfold opW at h2; rw [if_neg (by omega), if_neg (by omega), if_pos hh] at h2; exact absurd h2 (by simp)
      · intro hh; unfold opW at h2; rw [if_neg (by omega), if_neg (by omega), if_neg (by omega), if_pos hh] at h2; exact absurd h2 (by simp)
      · intro hh; unfold opW at h2; rw [if_neg (by omega), if_neg (by omega), if_neg (by omega), if_neg (by omega), if_pos hh] at h2; exact absurd h2 (by simp)
    | some w =>
      rw [h2] at h hwd
      dsimp only at h hwd
      cases h3 : bdN B nb w.1 w.2.1 w.2.2 (j + 1) with
      | error e => rw [h3] at h; exact absurd h (by simp)
      | ok v =>
        rw [h3] at h
        dsimp only at h
        cases h
        have hj2 := (bdN_ok h3).1
        refine ⟨?_, by rw [hwd, Nat.add_assoc], hj2⟩
        by_cases h0 : ix o = 0
        · exact ⟨ho.2.2, fun hh => by dsimp only at hh; omega, fun hh => by dsimp only at hh; omega, fun hh => by dsimp only at hh; omega, fun hh => by dsimp only at hh; omega⟩
        · by_cases hlc1 : 1 ≤ lc
          · obtain ⟨k, e1, e2, e3⟩ := opW_nat h2 h0 hlc1 hn ha
            rw [e1, e2] at h3
            have hk : k < 2147483648 := by rw [e3]; split <;> (try split) <;> (try split) <;> omega
            have hv := bdN_nat (by omega) hk h3
            refine ⟨ho.2.2, fun hh => ⟨ix v, ?_, hv.1⟩, fun hh => ⟨ix v, ?_, hv.1⟩, fun hh => ⟨ix v, ?_, hv.1⟩, fun hh => ⟨ix v, ?_, hv.1⟩⟩ <;> dsimp only at hh
            · rw [if_pos hh] at e3; omega
            · rw [if_neg (by omega), if_pos hh] at e3; omega
            · rw [if_neg (by omega), if_neg (by omega), if_pos hh] at e3; omega
            · rw [if_neg (by omega), if_neg (by omega), if_neg (by omega)] at e3; omega
          · -- no locals at all
            have hl0 : lc = 0 := by omega
            by_cases h45 : ix o = 4 ∨ ix o = 5
            · exfalso
              unfold opW at h2
              rw [if_neg h0, if_pos h45] at h2
              cases h2
              obtain ⟨_, c1, c2, _⟩ := bdN_ok h3
              rw [hl0] at c2
              dsimp only at c1 c2
              rw [i_ltI] at c1
              rw [i_leI, show nI 0 - 1 = -1 from rfl] at c2
              have : (-1 : Int32).toInt = -1 := by decide
              have : (0 : Int32).toInt = 0 := by decide
              omega
            · have h2' : opW (ix o) 1 n all = some w := by
                unfold opW at h2 ⊢; rw [if_neg h0, if_neg h45] at h2 ⊢; exact h2
              obtain ⟨k, e1, e2, e3⟩ := opW_nat h2' h0 (by omega) hn ha
              rw [e1, e2] at h3
              have hk : k < 2147483648 := by rw [e3]; split <;> (try split) <;> (try split) <;> omega
              have hv := bdN_nat (by omega) hk h3
              refine ⟨ho.2.2, fun hh => absurd hh h45, fun hh => ⟨ix v, ?_, hv.1⟩, fun hh => ⟨ix v, ?_, hv.1⟩, fun hh => ⟨ix v, ?_, hv.1⟩⟩ <;> dsimp only at hh
              · rw [if_neg (by omega), if_pos hh] at e3; omega
              · rw [if_neg (by omega), if_neg (by omega), if_pos hh] at e3; omega
              · rw [if_neg (by omega), if_neg (by omega), if_neg (by omega)] at e3; omega
theorem bdI_err {lc n all j : Nat} {e : Nat × Nat} (h : bdI B nb lc n all j = .error e) : 1 ≤ e.1 ∧ e.1 ≤ 8 := by
  unfold bdI at h
  split at h
  · rename_i h1; cases h; exact bdN_err h1
  · split at h
    · exact absurd h (by simp)
    · split at h
      · rename_i h1; cases h; exact bdN_err h1
      · exact absurd h (by simp)
end
