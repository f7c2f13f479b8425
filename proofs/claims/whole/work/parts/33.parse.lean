/-! ===== PURE: the reading of a policy ===== -/
/-- a guard: of a counter, which argument, name, place, how, number, not -/
abbrev Gd : Type := Bool × Nat × List Nat × Nat × Nat × Int × Bool
def gC (g : Gd) : Bool := g.1
def gW (g : Gd) : Nat := g.2.1
def gN' (g : Gd) : List Nat := g.2.2.1
def gP (g : Gd) : Nat := g.2.2.2.1
def gH (g : Gd) : Nat := g.2.2.2.2.1
def gV (g : Gd) : Int := g.2.2.2.2.2.1
def gO (g : Gd) : Bool := g.2.2.2.2.2.2
/-- a rule: counter, up, call (-1 any), first guard, how many -/
abbrev Rl : Type := Nat × Bool × Int × Nat × Nat
def rO (r : Rl) : Nat := r.1
def rU (r : Rl) : Bool := r.2.1
def rC (r : Rl) : Int := r.2.2.1
def rF (r : Rl) : Nat := r.2.2.2.1
def rM (r : Rl) : Nat := r.2.2.2.2
/-- a way: node, call, first guard, how many, name, place -/
abbrev Wy : Type := Nat × Int × Nat × Nat × List Nat × Nat
def wO (r : Wy) : Nat := r.1
def wCl (r : Wy) : Int := r.2.1
def wF (r : Wy) : Nat := r.2.2.1
def wM (r : Wy) : Nat := r.2.2.2.1
def wN (r : Wy) : List Nat := r.2.2.2.2.1
def wP (r : Wy) : Nat := r.2.2.2.2.2
/-- counters, rules, nodes, ways, guards -/
abbrev PS : Type := List (List Nat × Nat) × List Rl × List (List Nat) × List Wy × List Gd
def pC (p : PS) : List (List Nat × Nat) := p.1
def pR (p : PS) : List Rl := p.2.1
def pN (p : PS) : List (List Nat) := p.2.2.1
def pW (p : PS) : List Wy := p.2.2.2.1
def pG (p : PS) : List Gd := p.2.2.2.2
abbrev PE (α : Type) : Type := Except (Nat × Nat) α
def isW (t : Tok) (w : Nat) : Bool := tkK t == 6 && tkV t == (w : Int)
def pRef (t : Tok) : Nat × Nat := (if tkK t = 1 then 1 else if tkK t = 0 then 3 else 2, tkP t)
section
variable (tk : Nat → Tok)
def pCall (j : Nat) : PE (Int × Nat) :=
  if isW (tk j) 8 then .ok (-1, j + 1)
  else if tkK (tk j) = 4 ∧ 0 ≤ tkV (tk j) ∧ tkV (tk j) ≤ 15 then .ok (tkV (tk j), j + 1)
  else .error (pRef (tk j))
def pNots : Nat → Nat → Nat → PE (Nat × Nat)
  | 0, k, j => .ok (k, j)
  | f + 1, k, j => if isW (tk j) 7 then (if tkK (tk (j + 1)) = 2 then pNots f (k + 1) (j + 2) else .error (pRef (tk (j + 1)))) else .ok (k, j)
/-- of a counter, which, name, place -/
def pSubj (j : Nat) : PE (Bool × Nat × List Nat × Nat) :=
  if isW (tk j) 5 then
    (if tkK (tk (j + 1)) = 4 ∧ 0 ≤ tkV (tk (j + 1)) ∧ tkV (tk (j + 1)) ≤ 2 then .ok (false, (tkV (tk (j + 1))).toNat, [], tkP (tk (j + 1))) else .error (pRef (tk (j + 1))))
  else if isW (tk j) 6 then
    (if tkK (tk (j + 1)) = 5 then .ok (true, 0, tkN (tk (j + 1)), tkP (tk (j + 1))) else .error (pRef (tk (j + 1))))
  else .error (pRef (tk j))
def pHow (j : Nat) : PE Nat :=
  if isW (tk j) 9 then .ok 0 else if isW (tk j) 10 then .ok 1 else if isW (tk j) 11 then .ok 2 else .error (pRef (tk j))
def pNum (j : Nat) : PE Int := if tkK (tk j) = 4 then .ok (tkV (tk j)) else .error (pRef (tk j))
def pClose : Nat → Nat → PE Nat
  | 0, j => .ok j
  | k + 1, j => if tkK (tk j) = 3 then pClose k (j + 1) else .error (pRef (tk j))
/-- behind the first one; F bounds the tokens -/
def pGuard (F j : Nat) : PE (Gd × Nat) :=
  match pNots tk F 0 j with
  | .error e => .error e
  | .ok (k, j1) =>
    match pSubj tk j1 with
    | .error e => .error e
    | .ok (c, w, nm, pl) =>
      match pHow tk (j1 + 2) with
      | .error e => .error e
      | .ok h =>
        match pNum tk (j1 + 3) with
        | .error e => .error e
        | .ok v =>
          match pClose tk (k + 1) (j1 + 4) with
          | .error e => .error e
          | .ok j5 => .ok ((c, w, nm, pl, h, v, k % 2 == 1), j5)
def pGuards (F : Nat) : Nat → List Gd → Nat → PE (List Gd × Nat)
  | 0, gs, j => .ok (gs, j)
  | r + 1, gs, j =>
    if tkK (tk j) = 2 then
      match pGuard tk F (j + 1) with
      | .error e => .error e
      | .ok (g, j1) => pGuards F r (gs ++ [g]) j1
    else .ok (gs, j)
/-- behind the first one, of counter c -/
def pRule (F c : Nat) (ps : PS) (j : Nat) : PE (PS × Nat) :=
  if isW (tk j) 2 = true ∨ isW (tk j) 3 = true then
    match pCall tk (j + 1) with
    | .error e => .error e
    | .ok (q, j2) =>
      match pGuards tk F 4 (pG ps) j2 with
      | .error e => .error e
      | .ok (gs, j3) =>
        if tkK (tk j3) = 3 then .ok ((pC ps, pR ps ++ [(c, isW (tk j) 2, q, (pG ps).length, gs.length - (pG ps).length)], pN ps, pW ps, gs), j3 + 1)
        else .error (pRef (tk j3))
  else .error (pRef (tk j))
def pRules (F c : Nat) : Nat → PS → Nat → PE (PS × Nat)
  | 0, ps, j => if tkK (tk j) = 3 then .ok (ps, j + 1) else .error (pRef (tk j))
  | r + 1, ps, j =>
    if tkK (tk j) = 2 then
      match pRule tk F c ps (j + 1) with
      | .error e => .error e
      | .ok (ps1, j1) => pRules F c r ps1 j1
    else if tkK (tk j) = 3 then .ok (ps, j + 1) else .error (pRef (tk j))
def pWay (F c : Nat) (ps : PS) (j : Nat) : PE (PS × Nat) :=
  if isW (tk j) 4 then
    match pCall tk (j + 1) with
    | .error e => .error e
    | .ok (q, j2) =>
      match pGuards tk F 4 (pG ps) j2 with
      | .error e => .error e
      | .ok (gs, j3) =>
        if tkK (tk j3) = 5 then
          (if tkK (tk (j3 + 1)) = 3 then .ok ((pC ps, pR ps, pN ps, pW ps ++ [(c, q, (pG ps).length, gs.length - (pG ps).length, tkN (tk j3), tkP (tk j3))], gs), j3 + 2)
          else .error (pRef (tk (j3 + 1))))
        else .error (pRef (tk j3))
  else .error (pRef (tk j))
def pWays (F c : Nat) : Nat → PS → Nat → PE (PS × Nat)
  | 0, ps, j => if tkK (tk j) = 3 then .ok (ps, j + 1) else .error (pRef (tk j))
  | r + 1, ps, j =>
    if tkK (tk j) = 2 then
      match pWay tk F c ps (j + 1) with
      | .error e => .error e
      | .ok (ps1, j1) => pWays F c r ps1 j1
    else if tkK (tk j) = 3 then .ok (ps, j + 1) else .error (pRef (tk j))
def pCounter (F : Nat) (ps : PS) (j : Nat) : PE (PS × Nat) :=
  if tkK (tk j) = 5 ∧ ¬ tkN (tk j) ∈ (pC ps).map Prod.fst then
    (if tkK (tk (j + 1)) = 4 ∧ 1 ≤ tkV (tk (j + 1)) ∧ tkV (tk (j + 1)) ≤ 15 then
      pRules tk F (pC ps).length 4 (pC ps ++ [(tkN (tk j), (tkV (tk (j + 1))).toNat)], pR ps, pN ps, pW ps, pG ps) (j + 2)
    else .error (pRef (tk (j + 1))))
  else .error (pRef (tk j))
def pNode (F : Nat) (ps : PS) (j : Nat) : PE (PS × Nat) :=
  if tkK (tk j) = 5 ∧ ¬ tkN (tk j) ∈ pN ps then
    pWays tk F (pN ps).length 8 (pC ps, pR ps, pN ps ++ [tkN (tk j)], pW ps, pG ps) (j + 1)
  else .error (pRef (tk j))
def pTop (F n : Nat) : Nat → PS → Nat → PE PS
  | 0, _, _ => .error (0, 0)
  | f + 1, ps, j =>
    if tkK (tk j) = 0 then (if pN ps = [] then .error (4, n) else .ok ps)
    else if tkK (tk j) = 2 ∧ (pN ps).length ≠ 24 then
      (if isW (tk (j + 1)) 1 then
        match pNode tk F ps (j + 2) with
        | .error e => .error e
        | .ok (ps1, j1) => pTop F n f ps1 j1
      else if isW (tk (j + 1)) 0 = true ∧ pN ps = [] ∧ (pC ps).length < 6 then
        match pCounter tk F ps (j + 2) with
        | .error e => .error e
        | .ok (ps1, j1) => pTop F n f ps1 j1
      else .error (pRef (tk (j + 1))))
    else .error (pRef (tk j))
end
/-- what is to be looked up, in the order of the text: what (0 counter, 1 node, 2 argument), of, call, place -/
abbrev Lk : Type := Nat × Nat × Int × Nat
def lkG (gs : List Gd) (call : Int) (g : Nat) : Lk := let d := gs.getD g (false, 0, [], 0, 0, 0, false); (if gC d then 0 else 2, g, call, gP d)
def lkR (gs : List Gd) (r : Rl) : List Lk := (List.range' (rF r) (rM r)).map (lkG gs (rC r))
def lkW (gs : List Gd) (i : Nat) (w : Wy) : List Lk := (List.range' (wF w) (wM w)).map (lkG gs (wCl w)) ++ [(1, i, 0, wP w)]
def lkOf (p : PS) : List Lk := (pR p).flatMap (lkR (pG p)) ++ ((pW p).mapIdx (lkW (pG p))).flatten
