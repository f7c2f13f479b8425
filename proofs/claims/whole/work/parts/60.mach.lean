/-! ===== PURE: what a policy sees of the values ===== -/
theorem gHold_cong {ps : PS} {c : Nat} {v v' : Nat → Int32} {d : Gd} (h : v (sbj ps d) = v' (sbj ps d)) : gHold ps c v d = gHold ps c v' d := by unfold gHold; rw [h]
theorem qHold_cong {ps : PS} {c f m : Nat} {v v' : Nat → Int32} (h : ∀ g, f ≤ g → g < f + m → v (sbj ps ((pG ps).getD g gdD)) = v' (sbj ps ((pG ps).getD g gdD))) : qHold ps c v f m = qHold ps c v' f m := by
  unfold qHold
  rw [Bool.eq_iff_iff, List.all_eq_true, List.all_eq_true]
  constructor
  · intro hh g hg
    have hg' := List.mem_range'_1.mp hg
    rw [← gHold_cong (h g hg'.1 hg'.2)]; exact hh g hg
  · intro hh g hg
    have hg' := List.mem_range'_1.mp hg
    rw [gHold_cong (h g hg'.1 hg'.2)]; exact hh g hg
section
variable {ps : PS} {c : Nat} {v v' : Nat → Int32}
theorem sbj_9 (hwf : wfI ps) (hl : lenP ps) (hres : resOK ps) {g : Nat} (hgl : g < (pG ps).length) {k : Int} (hlk : lkG (pG ps) k g ∈ lkOf ps) : sbj ps ((pG ps).getD g gdD) < 3 + (pC ps).length := by
  rw [getD_at hgl]
  have hok := hwf.2.2.2.2.1 _ (List.getElem_mem hgl)
  unfold sbj
  by_cases hc : gC (pG ps)[g] = true
  · rw [if_pos hc]
    have := res_idx hres hgl hlk hc
    omega
  · rw [if_neg hc]
    have := hok.1 (by simpa using hc)
    omega
theorem stepP_cong (hwf : wfI ps) (hl : lenP ps) (hres : resOK ps) (hv : ∀ d, d < 3 + (pC ps).length → v d = v' d) (x : Int32) : stepP ps c v x = stepP ps c v' x := by
  unfold stepP
  apply foldl_eq
  intro w hw y
  obtain ⟨i, hi, e⟩ := List.getElem_of_mem hw
  subst e
  have : wGo ps c v (pW ps)[i] = wGo ps c v' (pW ps)[i] := by
    unfold wGo
    congr 1
    apply qHold_cong
    intro g h1 h2
    have hrng := (wfI_rng hwf).2 _ (List.getElem_mem hi)
    exact hv _ (sbj_9 hwf hl hres (by omega) (mem_lkW hi h1 h2))
  unfold stepF
  rw [this]
theorem find_cong {α : Type} {f g : α → Bool} : ∀ (L : List α), (∀ r ∈ L, f r = g r) → L.find? f = L.find? g
  | [], _ => rfl
  | r :: L, h => by
    rw [List.find?_cons, List.find?_cons, h r (List.mem_cons_self ..), find_cong L (fun r hr => h r (List.mem_cons_of_mem _ hr))]
theorem nxt_cong (hwf : wfI ps) (hl : lenP ps) (hres : resOK ps) (hv : ∀ d, d < 3 + (pC ps).length → v d = v' d) (k : Nat) (x : Int32) : nxt ps c v k x = nxt ps c v' k x := by
  unfold nxt
  refine congrArg (nxv ps k x) (find_cong (pR ps) (fun r hr => ?_))
  obtain ⟨i, hi, e⟩ := List.getElem_of_mem hr
  subst e
  have hq : qHold ps c v (rF (pR ps)[i]) (rM (pR ps)[i]) = qHold ps c v' (rF (pR ps)[i]) (rM (pR ps)[i]) := by
    apply qHold_cong
    intro g h1 h2
    have hrng := (wfI_rng hwf).1 _ (List.getElem_mem hi)
    exact hv _ (sbj_9 hwf hl hres (by omega) (mem_lkR hi h1 h2))
  unfold hit
  rw [hq]
end
/-! ===== PURE: the machine ===== -/
abbrev Vl : Type := Bool × Int32
abbrev Fr : Type := Nat × Nat × List Vl × (Nat → Int32)
def jF (r : Fr) : Nat := r.1
def jP (r : Fr) : Nat := r.2.1
def jS (r : Fr) : List Vl := r.2.2.1
def jL (r : Fr) : Nat → Int32 := r.2.2.2
/-- memory, used, rows -/
abbrev Mem : Type := (Nat → Int32) × Nat × List (Nat × Nat)
/-- steps, outside, passed, deepest -/
abbrev Fig : Type := Nat × Nat × Nat × Nat
/-- the watch's set, its counters; the trace -/
abbrev Wat : Type := Int32 × (Nat → Int32) × (Nat → Int32)
abbrev MS : Type := List Fr × Mem × Fig × Wat
def aF (z : MS) : List Fr := z.1
def aM (z : MS) : Nat → Int32 := z.2.1.1
def aU (z : MS) : Nat := z.2.1.2.1
def aR2 (z : MS) : List (Nat × Nat) := z.2.1.2.2
def aS (z : MS) : Nat := z.2.2.1.1
def aO (z : MS) : Nat := z.2.2.1.2.1
def aP (z : MS) : Nat := z.2.2.1.2.2.1
def aD (z : MS) : Nat := z.2.2.1.2.2.2
def aX (z : MS) : Int32 := z.2.2.2.1
def aC (z : MS) : Nat → Int32 := z.2.2.2.2.1
def aT (z : MS) : Nat → Int32 := z.2.2.2.2.2
abbrev End : Type := MS × Option (Nat × Int32)
def setF (z : MS) (fs : List Fr) : MS := (fs, z.2)
def v0 : Vl := (false, 0)
def tpV (st : List Vl) (k : Nat) : Int32 := (st.getD k v0).2
def rwF (R : List (Nat × Nat)) (k : Nat) : Nat × Nat := if k = 0 then (0, 0) else R.getD (k - 1) (0, 0)
def wk (o : Nat) (a b : Int32) : Int32 := if o = 6 then a + b else if o = 7 then a - b else if o = 8 then a * b else if o = 9 then a / b else if o = 10 then a - a / b * b else if o = 11 then a &&& b else if o = 12 then a ||| b else if o = 13 then a ^^^ b else if o = 14 then a <<< ((b &&& nI 31) &&& 31) else if o = 15 then a >>> ((b &&& nI 31) &&& 31) else if o = 16 then (if b ≤ a then 0 else 1) else (if a = b then 1 else 0)
def hdf (l : List Fn) (r : Fr) (c : Int32) : Option Hn := (fH (fnA l (jF r))).find? (fun h => decide (hF h ≤ jP r ∧ jP r < hT h ∧ (hA h = true ∨ hC h = c)))
def rsd (l : List Fn) (c : Int32) : List Fr → Option (List Fr)
  | [] => none
  | r :: fs => match hdf l r c with
    | some h => some ((jF r, hG h, [(false, c)], jL r) :: fs)
    | none => rsd l c fs
def rai (l : List Fn) (c : Int32) (fs : List Fr) (z : MS) : End := match rsd l c fs with
  | some fs' => (setF z fs', none)
  | none => (setF z [], some (1, c))
def arg (c : Nat) (st : List Vl) (k : Nat) : Int32 := if k < c % 4 then tpV st (c % 4 - 1 - k) else 0
section
variable (l : List Fn) (ps : PS) (an : Nat → Int32) (na : Nat)
def xMove (o : Nat) (w : Int32) (r : Fr) (fs : List Fr) (z : MS) : End :=
  (setF z ((jF r, jP r + 1, (if o = 0 then (false, w) :: jS r else if o = 1 then (jS r).drop 1 else if o = 2 then (jS r).getD 0 v0 :: jS r else if o = 3 then (jS r).getD 1 v0 :: (jS r).getD 0 v0 :: (jS r).drop 2 else if o = 4 then (rbit (fnA l (jF r)) (ix w), jL r (ix w)) :: jS r else (jS r).drop 1), (if o = 5 then upF (jL r) (ix w) (tpV (jS r) 0) else jL r)) :: fs), none)
def xInts (o : Nat) (r : Fr) (fs : List Fr) (z : MS) : End :=
  if (o = 9 ∨ o = 10) ∧ tpV (jS r) 0 = 0 then rai l 1 ((jF r, jP r, (jS r).drop 2, jL r) :: fs) z
  else (setF z ((jF r, jP r + 1, (false, wk o (tpV (jS r) 1) (tpV (jS r) 0)) :: (jS r).drop 2, jL r) :: fs), none)
def xJump (o : Nat) (w : Int32) (r : Fr) (fs : List Fr) (z : MS) : End :=
  if o = 18 then (setF z ((jF r, ix w, jS r, jL r) :: fs), none)
  else (setF z ((jF r, (if (o = 19 ∧ ¬ tpV (jS r) 0 = 0) ∨ (o = 20 ∧ tpV (jS r) 0 = 0) then ix w else jP r + 1), (jS r).drop 1, jL r) :: fs), none)
def xNew (r : Fr) (fs : List Fr) (z : MS) : End :=
  if tpV (jS r) 0 < 0 ∨ nI 256 < tpV (jS r) 0 ∨ 4096 < aU z + ix (tpV (jS r) 0) then rai l (nI 3) ((jF r, jP r, (jS r).drop 1, jL r) :: fs) z
  else (((jF r, jP r + 1, (true, nI ((aR2 z).length + 1)) :: (jS r).drop 1, jL r) :: fs, ((fun a => if aU z ≤ a ∧ a < aU z + ix (tpV (jS r) 0) then 0 else aM z a), aU z + ix (tpV (jS r) 0), aR2 z ++ [(aU z, ix (tpV (jS r) 0))]), z.2.2), none)
def xGet (r : Fr) (fs : List Fr) (z : MS) : End :=
  if tpV (jS r) 0 < 0 ∨ ¬ tpV (jS r) 0 < nI (rwF (aR2 z) (ix (tpV (jS r) 1))).2 then rai l (nI 2) ((jF r, jP r, (jS r).drop 2, jL r) :: fs) z
  else (setF z ((jF r, jP r + 1, (false, aM z ((rwF (aR2 z) (ix (tpV (jS r) 1))).1 + ix (tpV (jS r) 0))) :: (jS r).drop 2, jL r) :: fs), none)
def xPut (r : Fr) (fs : List Fr) (z : MS) : End :=
  if tpV (jS r) 1 < 0 ∨ ¬ tpV (jS r) 1 < nI (rwF (aR2 z) (ix (tpV (jS r) 2))).2 then rai l (nI 2) ((jF r, jP r, (jS r).drop 3, jL r) :: fs) z
  else (((jF r, jP r + 1, (jS r).drop 3, jL r) :: fs, (upF (aM z) ((rwF (aR2 z) (ix (tpV (jS r) 2))).1 + ix (tpV (jS r) 1)) (tpV (jS r) 0), aU z, aR2 z), z.2.2), none)
def xSize (r : Fr) (fs : List Fr) (z : MS) : End := (setF z ((jF r, jP r + 1, (false, nI (rwF (aR2 z) (ix (tpV (jS r) 0))).2) :: (jS r).drop 1, jL r) :: fs), none)
def xCall (w : Int32) (r : Fr) (fs : List Fr) (z : MS) : End :=
  if fs.length + 1 = 40 then rai l (nI 4) (r :: fs) z
  else (((ix w, 0, [], (fun j => if j < fP (fnA l (ix w)) then tpV (jS r) (fP (fnA l (ix w)) - 1 - j) else 0)) :: (jF r, jP r, (jS r).drop (fP (fnA l (ix w))), jL r) :: fs, z.2.1, (aS z, aO z, aP z, max (aD z) (fs.length + 2)), z.2.2.2), none)
def ans (n : Nat) : Int32 := if n < na then an n else 0
def trN (t : Nat → Int32) (n c : Nat) (st : List Vl) (y : Int32) : Nat → Int32 := fun i => if i = 5 * n then nI c else if i = 5 * n + 1 then arg c st 0 else if i = 5 * n + 2 then arg c st 1 else if i = 5 * n + 3 then arg c st 2 else if i = 5 * n + 4 then y else t i
def xHost (w : Int32) (r : Fr) (fs : List Fr) (z : MS) : End :=
  (((jF r, jP r + 1, (false, ans an na (aO z)) :: (jS r).drop (ix w % 4), jL r) :: fs, z.2.1, (aS z, aO z + 1, aP z, aD z), (aX z, aC z, if aO z < 256 then trN (aT z) (aO z) (ix w) (jS r) (ans an na (aO z)) else aT z)), none)
def xRet (r : Fr) (fs : List Fr) (z : MS) : End := match fs with
  | [] => (setF z [], some (0, if fR (fnA l (jF r)) = 0 then 0 else tpV (jS r) 0))
  | q :: fs => (setF z ((jF q, jP q + 1, (if fR (fnA l (jF r)) = 0 then jS q else (rTy (fnA l (jF r)), tpV (jS r) 0) :: jS q), jL q) :: fs), none)
def xGuard (w : Int32) (r : Fr) (fs : List Fr) (z : MS) : End :=
  if stepP ps (ix w) (vOf (arg (ix w) (jS r) 0) (arg (ix w) (jS r) 1) (arg (ix w) (jS r) 2) (aC z)) (aX z) = 0 then (setF z [], some (2, 0))
  else (((jF r, jP r + 1, jS r, jL r) :: fs, z.2.1, (aS z, aO z, aP z + 1, aD z), (stepP ps (ix w) (vOf (arg (ix w) (jS r) 0) (arg (ix w) (jS r) 1) (arg (ix w) (jS r) 2) (aC z)) (aX z), (fun k => if k < (pC ps).length then nxt ps (ix w) (vOf (arg (ix w) (jS r) 0) (arg (ix w) (jS r) 1) (arg (ix w) (jS r) 2) (aC z)) k (aC z k) else aC z k), aT z)), none)
def stp1 (z : MS) : MS := (z.1, z.2.1, (aS z + 1, aO z, aP z, aD z), z.2.2.2)
def xDo (o : Nat) (w : Int32) (r : Fr) (fs : List Fr) (z : MS) : End :=
  if o ≤ 5 then xMove l o w r fs z else if o ≤ 17 then xInts l o r fs z else if o ≤ 20 then xJump o w r fs z
  else if o = 21 then xNew l r fs z else if o = 22 then xGet l r fs z else if o = 23 then xPut l r fs z else if o = 24 then xSize r fs z
  else if o = 25 then xCall l w r fs z else if o = 26 then xHost an na w r fs z else if o = 27 then xRet l r fs z
  else rai l (tpV (jS r) 0) ((jF r, jP r, (jS r).drop 1, jL r) :: fs) z
/-- one round -/
def exe (z : MS) : End := match aF z with
  | [] => (z, some (0, 0))
  | r :: fs => if opA (fnA l (jF r)) (jP r) = 29 then xGuard ps (orA (fnA l (jF r)) (jP r)) r fs z else xDo l an na (opA (fnA l (jF r)) (jP r)) (orA (fnA l (jF r)) (jP r)) r fs (stp1 z)
/-- all rounds -/
def runP (fu : Nat) : Nat → MS → MS × Nat × Int32
  | 0, z => (z, 3, 0)
  | k + 1, z => if aS z = fu then (z, 3, 0) else match (exe l ps an na z).2 with
    | some e => ((exe l ps an na z).1, e.1, e.2)
    | none => runP fu k (exe l ps an na z).1
end
/-! ===== its states ===== -/
def okV (n : Nat) (t : Bool) (v : Int32) : Prop := t = true → ∃ k, k ≤ n ∧ v = nI k
def okS (n : Nat) (st : List Vl) : Prop := ∀ y ∈ st, okV n y.1 y.2
def okL2 (n : Nat) (x : Fn) (lo : Nat → Int32) : Prop := ∀ j, j < 12 → okV n (rbit x j) (lo j)
/-- the frame that runs -/
def okT (l : List Fn) (n : Nat) (r : Fr) : Prop := ∃ hf : jF r < l.length, jP r < (fC l[jF r]).length ∧ vTy l (jF r) (jP r) = some ((jS r).map Prod.fst) ∧ okS n (jS r) ∧ okL2 n l[jF r] (jL r)
/-- frames that wait for c -/
def okC (l : List Fn) (n c : Nat) (r : Fr) : Prop := ∃ hf : jF r < l.length, ∃ hi : jP r < (fC l[jF r]).length, opA l[jF r] (jP r) = 25 ∧ orA l[jF r] (jP r) = nI c ∧ (∃ t, vTy l (jF r) (jP r) = some t ∧ tkQ (fnA l c) (fP (fnA l c)) t = some ((jS r).map Prod.fst)) ∧ okS n (jS r) ∧ okL2 n l[jF r] (jL r)
def okCs (l : List Fn) (n : Nat) : Nat → List Fr → Prop
  | c, [] => c = 0
  | c, r :: fs => okC l n c r ∧ okCs l n (jF r) fs
def okFs (l : List Fn) (n : Nat) : List Fr → Prop
  | [] => False
  | r :: fs => okT l n r ∧ okCs l n (jF r) fs
def okM (R : List (Nat × Nat)) (u : Nat) : Prop := u ≤ 4096 ∧ ∀ y ∈ R, y.1 + y.2 ≤ u ∧ y.2 ≤ 256
def MOK (l : List Fn) (z : MS) : Prop := okFs l (aR2 z).length (aF z) ∧ (aF z).length ≤ aD z ∧ aD z ≤ 40 ∧ okM (aR2 z) (aU z) ∧ (aR2 z).length ≤ aS z ∧ aO z ≤ aS z
