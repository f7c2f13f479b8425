section
variable {B : Nat → Nat} {nb : Nat}
theorem bdC_ok {lc n all : Nat} (hlc : lc ≤ 12) (hn : 1 ≤ n) (hn2 : n ≤ 400) (ha : 1 ≤ all) (ha2 : all ≤ 12) : ∀ (r : Nat) (l l' : List (Nat × Int32)) (j j' : Nat), bdC B nb lc n all r l j = .ok (l', j') → (∀ y ∈ l, iOK lc n all y) → j ≤ nb → (∀ y ∈ l', iOK lc n all y) ∧ l'.length = l.length + r ∧ j' + (l.map (fun y => wdI y.1)).sum = j + (l'.map (fun y => wdI y.1)).sum ∧ j' ≤ nb
  | 0, l, l', j, j', h, hl, hj => by
    rw [bdC] at h; cases h; exact ⟨hl, rfl, rfl, hj⟩
  | r + 1, l, l', j, j', h, hl, hj => by
    rw [bdC] at h
    cases h1 : bdI B nb lc n all j with
    | error e => rw [h1] at h; exact absurd h (by simp)
    | ok x =>
      rw [h1] at h
      dsimp only at h
      have hx := bdI_ok hlc hn hn2 ha ha2 (x := x.1) (j' := x.2) h1
      have := bdC_ok hlc hn hn2 ha ha2 r (l ++ [x.1]) l' x.2 j' h (fun y hy => by
        rw [List.mem_append, List.mem_singleton] at hy
        rcases hy with hy | hy
        · exact hl y hy
        · subst hy; exact hx.1) hx.2.2
      refine ⟨this.1, ?_, ?_, this.2.2.2⟩
      · rw [this.2.1, List.length_append]; simp; omega
      · have h3 := this.2.2.1
        rw [List.map_append, List.sum_append] at h3
        simp only [List.map_cons, List.map_nil, List.sum_cons, List.sum_nil] at h3
        omega
theorem bdC_err {lc n all : Nat} : ∀ (r : Nat) (l : List (Nat × Int32)) (j : Nat) (e : Nat × Nat), bdC B nb lc n all r l j = .error e → 1 ≤ e.1 ∧ e.1 ≤ 8
  | 0, l, j, e, h => by rw [bdC] at h; exact absurd h (by simp)
  | r + 1, l, j, e, h => by
    rw [bdC] at h
    cases h1 : bdI B nb lc n all j with
    | error e' => rw [h1] at h; cases h; exact bdI_err h1
    | ok x => rw [h1] at h; exact bdC_err r _ _ e h
theorem bdH_ok {n j j' : Nat} {x : Hn} (hn : 1 ≤ n) (hn2 : n ≤ 400) (h : bdH B nb n j = .ok (x, j')) : hOK n x ∧ j' = j + lenH x ∧ j' ≤ nb := by
  unfold bdH at h
  rw [nI_p hn] at h
  cases h1 : bdN B nb 2 0 (nI (n - 1)) j with
  | error e => rw [h1] at h; exact absurd h (by simp)
  | ok a =>
    rw [h1] at h
    have ha := bdN_nat (lo := 0) (by omega) (by omega) h1
    dsimp only at h
    have ea : a + 1 = nI (ix a + 1) := by rw [ha.1, nI_s, nI_ix (by omega)]
    rw [ea] at h
    cases h2 : bdN B nb 2 (nI (ix a + 1)) (nI n) (j + 2) with
    | error e => rw [h2] at h; exact absurd h (by simp)
    | ok b =>
      rw [h2] at h
      have hb := bdN_nat (by omega) (by omega) h2
      dsimp only at h
      cases h3 : bdN B nb 2 0 (nI (n - 1)) (j + 4) with
      | error e => rw [h3] at h; exact absurd h (by simp)
      | ok c =>
        rw [h3] at h
        have hc := bdN_nat (lo := 0) (by omega) (by omega) h3
        dsimp only at h
        cases h4 : bdN B nb 1 0 1 (j + 6) with
        | error e => rw [h4] at h; exact absurd h (by simp)
        | ok k =>
          rw [h4] at h
          have hk := (bdN_ok h4).1
          dsimp only at h
          split at h
          · cases h
            exact ⟨⟨by show ix a < ix b; omega, by show ix b ≤ n; omega, by show ix c < n; omega, fun _ => rfl⟩, rfl, by omega⟩
          · cases h5 : bdN B nb 4 (-2147483648) 2147483647 (j + 7) with
            | error e => rw [h5] at h; exact absurd h (by simp)
            | ok v =>
              rw [h5] at h
              have hv := (bdN_ok h5).1
              cases h
              exact ⟨⟨by show ix a < ix b; omega, by show ix b ≤ n; omega, by show ix c < n; omega, fun hh => absurd hh (by show ¬ (false = true); decide)⟩, rfl, by omega⟩
theorem bdH_err {n j : Nat} {e : Nat × Nat} (h : bdH B nb n j = .error e) : 1 ≤ e.1 ∧ e.1 ≤ 8 := by
  unfold bdH at h
  split at h
  · rename_i h1; cases h; exact bdN_err h1
  · split at h
    · rename_i h1; cases h; exact bdN_err h1
    · split at h
      · rename_i h1; cases h; exact bdN_err h1
      · split at h
        · rename_i h1; cases h; exact bdN_err h1
        · split at h
          · exact absurd h (by simp)
          · split at h
            · rename_i h1; cases h; exact bdN_err h1
            · exact absurd h (by simp)
theorem bdHs_ok {n : Nat} (hn : 1 ≤ n) (hn2 : n ≤ 400) : ∀ (r : Nat) (l l' : List Hn) (j j' : Nat), bdHs B nb n r l j = .ok (l', j') → (∀ y ∈ l, hOK n y) → j ≤ nb → (∀ y ∈ l', hOK n y) ∧ l'.length = l.length + r ∧ j' + (l.map lenH).sum = j + (l'.map lenH).sum ∧ j' ≤ nb
  | 0, l, l', j, j', h, hl, hj => by
    rw [bdHs] at h; cases h; exact ⟨hl, rfl, rfl, hj⟩
  | r + 1, l, l', j, j', h, hl, hj => by
    rw [bdHs] at h
    cases h1 : bdH B nb n j with
    | error e => rw [h1] at h; exact absurd h (by simp)
    | ok x =>
      rw [h1] at h
      dsimp only at h
      have hx := bdH_ok hn hn2 (x := x.1) (j' := x.2) h1
      have := bdHs_ok hn hn2 r (l ++ [x.1]) l' x.2 j' h (fun y hy => by
        rw [List.mem_append, List.mem_singleton] at hy
        rcases hy with hy | hy
        · exact hl y hy
        · subst hy; exact hx.1) hx.2.2
      refine ⟨this.1, ?_, ?_, this.2.2.2⟩
      · rw [this.2.1, List.length_append]; simp; omega
      · have h3 := this.2.2.1
        rw [List.map_append, List.sum_append] at h3
        simp only [List.map_cons, List.map_nil, List.sum_cons, List.sum_nil] at h3
        omega
theorem bdHs_err {n : Nat} : ∀ (r : Nat) (l : List Hn) (j : Nat) (e : Nat × Nat), bdHs B nb n r l j = .error e → 1 ≤ e.1 ∧ e.1 ≤ 8
  | 0, l, j, e, h => by rw [bdHs] at h; exact absurd h (by simp)
  | r + 1, l, j, e, h => by
    rw [bdHs] at h
    cases h1 : bdH B nb n j with
    | error e' => rw [h1] at h; cases h; exact bdH_err h1
    | ok x => rw [h1] at h; exact bdHs_err r _ _ e h
theorem shl_m1 {l : Nat} (h : l ≤ 12) : (1 <<< (nI l &&& 31)) - 1 = nI (2 ^ l - 1) := by
  have : ∀ l ∈ List.range 13, (1 <<< (nI l &&& 31)) - 1 = nI (2 ^ l - 1) := by decide
  exact this l (List.mem_range.mpr (by omega))
theorem bdF_ok {f all j j' : Nat} {x : Fn} (ha : 1 ≤ all) (ha2 : all ≤ 12) (h : bdF B nb f all j = .ok (x, j')) : fOK f all x ∧ j' = j + lenF x ∧ j' ≤ nb := by
  unfold bdF at h
  cases h1 : bdN B nb 1 0 (if f = 0 then 0 else nI 4) j with
  | error e => rw [h1] at h; exact absurd h (by simp)
  | ok p =>
    rw [h1] at h
    have hp : p = nI (ix p) ∧ ix p ≤ 4 ∧ (f = 0 → ix p = 0) := by
      by_cases c : f = 0
      · rw [if_pos c] at h1
        have := bdN_nat (lo := 0) (hi := 0) (by omega) (by omega) h1
        exact ⟨this.1, by omega, fun _ => by omega⟩
      · rw [if_neg c] at h1
        have := bdN_nat (lo := 0) (hi := 4) (by omega) (by omega) h1
        exact ⟨this.1, by omega, fun hh => absurd hh c⟩
    dsimp only at h
    cases h2 : bdN B nb 1 p (nI 12) (j + 1) with
    | error e => rw [h2] at h; exact absurd h (by simp)
    | ok l =>
      rw [h2] at h
      rw [hp.1] at h2
      have hl := bdN_nat (by omega) (by omega) h2
      dsimp only at h
      have e2 : (1 <<< (l &&& 31)) - 1 = nI (2 ^ ix l - 1) := by
        have := shl_m1 hl.2.2
        rw [← hl.1] at this; exact this
      have hpow : 2 ^ ix l ≤ 4096 := by
        have : 2 ^ ix l ≤ 2 ^ 12 := Nat.pow_le_pow_right (by omega) hl.2.2
        omega
      have hpow1 : 1 ≤ 2 ^ ix l := Nat.one_le_two_pow
      rw [e2] at h
      cases h3 : bdN B nb 2 0 (nI (2 ^ ix l - 1)) (j + 2) with
      | error e => rw [h3] at h; exact absurd h (by simp)
      | ok b =>
        rw [h3] at h
        have hb := bdN_nat (lo := 0) (by omega) (by omega) h3
        dsimp only at h
        cases h4 : bdN B nb 1 0 (if f = 0 then 1 else nI 2) (j + 4) with
        | error e => rw [h4] at h; exact absurd h (by simp)
        | ok r =>
          rw [h4] at h
          have hr : r = nI (ix r) ∧ ix r ≤ 2 ∧ (f = 0 → ix r ≤ 1) := by
            by_cases c : f = 0
            · rw [if_pos c] at h4
              have := bdN_nat (lo := 0) (hi := 1) (by omega) (by omega) h4
              exact ⟨this.1, by omega, fun _ => by omega⟩
            · rw [if_neg c] at h4
              have := bdN_nat (lo := 0) (hi := 2) (by omega) (by omega) h4
              exact ⟨this.1, by omega, fun hh => absurd hh c⟩
          dsimp only at h
          cases h5 : bdN B nb 2 1 (nI 400) (j + 5) with
          | error e => rw [h5] at h; exact absurd h (by simp)
          | ok n =>
            rw [h5] at h
            have hn := bdN_nat (lo := 1) (hi := 400) (by omega) (by omega) h5
            have hj5 := (bdN_ok h5).1
            dsimp only at h
            cases h6 : bdC B nb (ix l) (ix n) all (ix n) [] (j + 7) with
            | error e => rw [h6] at h; exact absurd h (by simp)
            | ok c =>
              rw [h6] at h
              have hc := bdC_ok hl.2.2 hn.2.1 hn.2.2 ha ha2 (ix n) [] c.1 (j + 7) c.2 h6 (by simp) (by omega)
              dsimp only at h
              cases h7 : bdN B nb 1 0 (nI 6) c.2 with
              | error e => rw [h7] at h; exact absurd h (by simp)
              | ok k =>
                rw [h7] at h
                have hk := bdN_nat (lo := 0) (hi := 6) (by omega) (by omega) h7
                have hj7 := (bdN_ok h7).1
                dsimp only at h
                cases h8 : bdHs B nb (ix n) (ix k) [] (c.2 + 1) with
                | error e => rw [h8] at h; exact absurd h (by simp)
                | ok y =>
                  rw [h8] at h
                  have hy := bdHs_ok hn.2.1 hn.2.2 (ix k) [] y.1 (c.2 + 1) y.2 h8 (by simp) (by omega)
                  cases h
                  have hcl : c.1.length = ix n := by rw [hc.2.1]; simp
                  have hyl : y.1.length = ix k := by rw [hy.2.1]; simp
                  refine ⟨⟨hp.2.1, hp.2.2, hl.2.1, hl.2.2, by show ix b < 2 ^ ix l; omega, hr.2.1, hr.2.2, by show 1 ≤ c.1.length; omega, by show c.1.length ≤ 400; omega, by show y.1.length ≤ 6; omega, ?_, ?_⟩, ?_, hy.2.2.2⟩
                  · show ∀ z ∈ c.1, iOK (ix l) c.1.length all z
                    rw [hcl]; exact hc.1
                  · show ∀ z ∈ y.1, hOK c.1.length z
                    rw [hcl]; exact hy.1
                  · show y.2 = j + (8 + (c.1.map (fun y => wdI y.1)).sum + (y.1.map lenH).sum)
                    have e1 := hc.2.2.1
                    have e2 := hy.2.2.1
                    simp only [List.map_nil, List.sum_nil] at e1 e2
                    omega
theorem bdF_err {f all j : Nat} {e : Nat × Nat} (h : bdF B nb f all j = .error e) : 1 ≤ e.1 ∧ e.1 ≤ 8 := by
  unfold bdF at h
  split at h
  · rename_i h1; cases h; exact bdN_err h1
  · split at h
    · rename_i h1; cases h; exact bdN_err h1
    · split at h
      · rename_i h1; cases h; exact bdN_err h1
      · split at h
        · rename_i h1; cases h; exact bdN_err h1
        · split at h
          · rename_i h1; cases h; exact bdN_err h1
          · split at h
            · rename_i h1; cases h; exact bdC_err _ _ _ _ h1
            · split at h
              · rename_i h1; cases h; exact bdN_err h1
              · split at h
                · rename_i h1; cases h; exact bdHs_err _ _ _ _ h1
                · exact absurd h (by simp)
def fsOK (all : Nat) (l : List Fn) : Prop := ∀ (f : Nat) (h : f < l.length), fOK f all l[f]
theorem bdFs_ok {all : Nat} (ha : 1 ≤ all) (ha2 : all ≤ 12) : ∀ (r : Nat) (l l' : List Fn) (j j' : Nat), bdFs B nb all r l j = .ok (l', j') → fsOK all l → j ≤ nb → fsOK all l' ∧ l'.length = l.length + r ∧ j' + (l.map lenF).sum = j + (l'.map lenF).sum ∧ j' ≤ nb
  | 0, l, l', j, j', h, hl, hj => by
    rw [bdFs] at h; cases h; exact ⟨hl, rfl, rfl, hj⟩
  | r + 1, l, l', j, j', h, hl, hj => by
    rw [bdFs] at h
    cases h1 : bdF B nb l.length all j with
    | error e => rw [h1] at h; exact absurd h (by simp)
    | ok x =>
      rw [h1] at h
      dsimp only at h
      have hx := bdF_ok ha ha2 (x := x.1) (j' := x.2) h1
      have := bdFs_ok ha ha2 r (l ++ [x.1]) l' x.2 j' h (fun f hf => by
        by_cases c : f = l.length
        · subst c; rw [List.getElem_append_right (by omega)]; simp; exact hx.1
        · rw [List.length_append] at hf
          have hf : f < l.length := by simp at hf; omega
          rw [List.getElem_append_left hf]; exact hl f hf) hx.2.2
      refine ⟨this.1, ?_, ?_, this.2.2.2⟩
      · rw [this.2.1, List.length_append]; simp; omega
      · have h3 := this.2.2.1
        rw [List.map_append, List.sum_append] at h3
        simp only [List.map_cons, List.map_nil, List.sum_cons, List.sum_nil] at h3
        omega
theorem bdFs_err {all : Nat} : ∀ (r : Nat) (l : List Fn) (j : Nat) (e : Nat × Nat), bdFs B nb all r l j = .error e → 1 ≤ e.1 ∧ e.1 ≤ 8
  | 0, l, j, e, h => by rw [bdFs] at h; exact absurd h (by simp)
  | r + 1, l, j, e, h => by
    rw [bdFs] at h
    cases h1 : bdF B nb l.length all j with
    | error e' => rw [h1] at h; cases h; exact bdF_err h1
    | ok x => rw [h1] at h; exact bdFs_err r _ _ e h
/-- a program as it can be -/
def pgOK (l : List Fn) : Prop := 1 ≤ l.length ∧ l.length ≤ 12 ∧ fsOK l.length l ∧ 4 + (l.map lenF).sum ≤ 8192
theorem bdB_err : ∀ (r k : Nat) (e : Nat × Nat), bdB B nb r k = .error e → 1 ≤ e.1 ∧ e.1 ≤ 8
  | 0, k, e, h => by rw [bdB] at h; exact absurd h (by simp)
  | r + 1, k, e, h => by
    rw [bdB] at h
    split at h
    · cases h; exact ⟨by simp, by simp⟩
    · split at h
      · exact bdB_err r _ e h
      · cases h; exact ⟨by simp, by simp⟩
theorem bdP_ok {l : List Fn} (hnb : nb ≤ 8192) (h : bdP B nb = .ok l) : pgOK l := by
  unfold bdP at h
  split at h
  · exact absurd h (by simp)
  · cases h1 : bdN B nb 1 1 (nI 12) 3 with
    | error e => rw [h1] at h; exact absurd h (by simp)
    | ok a =>
      rw [h1] at h
      have ha := bdN_nat (lo := 1) (hi := 12) (by omega) (by omega) h1
      have hj := (bdN_ok h1).1
      dsimp only at h
      cases h2 : bdFs B nb (ix a) (ix a) [] 4 with
      | error e => rw [h2] at h; exact absurd h (by simp)
      | ok x =>
        rw [h2] at h
        dsimp only at h
        split at h
        · exact absurd h (by simp)
        · cases h
          have hx := bdFs_ok ha.2.1 ha.2.2 (ix a) [] x.1 4 x.2 h2 (fun f hf => by simp at hf) (by omega)
          have e1 : x.1.length = ix a := by rw [hx.2.1]; simp
          have e2 := hx.2.2.1
          simp only [List.map_nil, List.sum_nil] at e2
          exact ⟨by omega, by omega, by rw [e1]; exact hx.1, by omega⟩
theorem bdP_err {e : Nat × Nat} (h : bdP B nb = .error e) : 1 ≤ e.1 ∧ e.1 ≤ 8 := by
  unfold bdP at h
  split at h
  · rename_i h1; cases h; exact bdB_err _ _ _ h1
  · split at h
    · rename_i h1; cases h; exact bdN_err h1
    · split at h
      · rename_i h1; cases h; exact bdFs_err _ _ _ _ h1
      · split at h
        · cases h; exact ⟨by simp, by simp⟩
        · exact absurd h (by simp)
end
