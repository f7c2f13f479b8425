/-! ===== THE STATE behind the constructors: cells by number (the class from 0, the reference from 139), their kinds, the picture ===== -/
abbrev yS : Type := (Nat → Nat → Int32) × (Nat → Nat → Int64) × (Nat → Nat → Nat)
def sI (s : yS) (a : Nat) : Nat → Int32 := s.1 a
def sJ (s : yS) (a : Nat) : Nat → Int64 := s.2.1 a
def sR (s : yS) (a : Nat) : Nat → Nat := s.2.2 a
def wI (s : yS) (a i : Nat) (x : Int32) : yS := (va_up s.1 a (upd (s.1 a) i x), s.2)
def wJ (s : yS) (a i : Nat) (x : Int64) : yS := (s.1, va_up s.2.1 a (vp_updL (s.2.1 a) i x), s.2.2)
def wR (s : yS) (a i : Nat) (x : Nat) : yS := (s.1, s.2.1, va_up s.2.2 a (va_up (s.2.2 a) i x))
theorem sI_wI_at {s : yS} {a i : Nat} {x : Int32} : sI (wI s a i x) a = upd (sI s a) i x := va_up_self _ _ _
theorem sI_wI_ne {s : yS} {a b i : Nat} {x : Int32} (h : b ≠ a) : sI (wI s a i x) b = sI s b := va_up_ne _ _ h
theorem sJ_wI {s : yS} {a b i : Nat} {x : Int32} : sJ (wI s a i x) b = sJ s b := rfl
theorem sR_wI {s : yS} {a b i : Nat} {x : Int32} : sR (wI s a i x) b = sR s b := rfl
theorem sI_wI_eq {s : yS} {a b i j : Nat} {x : Int32} : sI (wI s a i x) b j = if b = a ∧ j = i then x else sI s b j := by
  by_cases hb : b = a
  · subst hb; rw [sI_wI_at]; unfold upd; by_cases hj : j = i
    · rw [if_pos hj, if_pos ⟨rfl, hj⟩]
    · rw [if_neg hj, if_neg (fun e => hj e.2)]
  · rw [sI_wI_ne hb, if_neg (fun e => hb e.1)]
theorem sJ_wJ_at {s : yS} {a i : Nat} {x : Int64} : sJ (wJ s a i x) a = vp_updL (sJ s a) i x := va_up_self _ _ _
theorem sJ_wJ_ne {s : yS} {a b i : Nat} {x : Int64} (h : b ≠ a) : sJ (wJ s a i x) b = sJ s b := va_up_ne _ _ h
theorem sI_wJ {s : yS} {a b i : Nat} {x : Int64} : sI (wJ s a i x) b = sI s b := rfl
theorem sR_wJ {s : yS} {a b i : Nat} {x : Int64} : sR (wJ s a i x) b = sR s b := rfl
theorem sJ_wJ_eq {s : yS} {a b i j : Nat} {x : Int64} : sJ (wJ s a i x) b j = if b = a ∧ j = i then x else sJ s b j := by
  by_cases hb : b = a
  · subst hb; rw [sJ_wJ_at]; unfold vp_updL; by_cases hj : j = i
    · rw [if_pos hj, if_pos ⟨rfl, hj⟩]
    · rw [if_neg hj, if_neg (fun e => hj e.2)]
  · rw [sJ_wJ_ne hb, if_neg (fun e => hb e.1)]
theorem sR_wR_at {s : yS} {a i : Nat} {x : Nat} : sR (wR s a i x) a = va_up (sR s a) i x := va_up_self _ _ _
theorem sR_wR_ne {s : yS} {a b i : Nat} {x : Nat} (h : b ≠ a) : sR (wR s a i x) b = sR s b := va_up_ne _ _ h
theorem sI_wR {s : yS} {a b i : Nat} {x : Nat} : sI (wR s a i x) b = sI s b := rfl
theorem sJ_wR {s : yS} {a b i : Nat} {x : Nat} : sJ (wR s a i x) b = sJ s b := rfl
theorem sR_wR_eq {s : yS} {a b i j : Nat} {x : Nat} : sR (wR s a i x) b j = if b = a ∧ j = i then x else sR s b j := by
  by_cases hb : b = a
  · subst hb; rw [sR_wR_at]; unfold va_up; by_cases hj : j = i
    · rw [if_pos hj, if_pos ⟨rfl, hj⟩]
    · rw [if_neg hj, if_neg (fun e => hj e.2)]
  · rw [sR_wR_ne hb, if_neg (fun e => hb e.1)]
def wC (s : yS) (a : Nat) (f : Nat → Int32) : yS := (va_up s.1 a f, s.2)
theorem sI_wC_at {s : yS} {a : Nat} {f : Nat → Int32} : sI (wC s a f) a = f := va_up_self _ _ _
theorem sI_wC_ne {s : yS} {a b : Nat} {f : Nat → Int32} (h : b ≠ a) : sI (wC s a f) b = sI s b := va_up_ne _ _ h
theorem sJ_wC {s : yS} {a b : Nat} {f : Nat → Int32} : sJ (wC s a f) b = sJ s b := rfl
theorem sR_wC {s : yS} {a b : Nat} {f : Nat → Int32} : sR (wC s a f) b = sR s b := rfl
def kdL : List (Nat × Nat) := [(15, 0), (1, 8192), (1, 8192), (7, 0), (0, 6), (0, 31), (0, 216), (0, 216), (0, 217), (0, 864), (0, 864), (0, 864), (2, 864), (5, 0), (0, 1168), (0, 145), (0, 17), (0, 32256), (3, 1008), (3, 16), (7, 0), (0, 6), (0, 31), (0, 216), (0, 216), (0, 217), (0, 864), (0, 864), (0, 864), (2, 864), (5, 0), (0, 1168), (0, 145), (0, 17), (0, 32256), (3, 1008), (3, 16), (9, 0), (0, 12), (0, 12), (0, 12), (0, 12), (0, 12), (0, 12), (0, 4800), (0, 4800), (0, 4800), (0, 4800), (2, 4800), (3, 4800), (0, 72), (0, 72), (0, 72), (2, 72), (0, 72), (9, 0), (0, 12), (0, 12), (0, 12), (0, 12), (0, 12), (0, 12), (0, 4800), (0, 4800), (0, 4800), (0, 4800), (2, 4800), (3, 4800), (0, 72), (0, 72), (0, 72), (2, 72), (0, 72), (9, 0), (0, 12), (0, 12), (0, 12), (0, 12), (0, 12), (0, 12), (0, 4800), (0, 4800), (0, 4800), (0, 4800), (2, 4800), (3, 4800), (0, 72), (0, 72), (0, 72), (2, 72), (0, 72), (8, 0), (12, 0), (0, 8193), (0, 8193), (3, 8193), (3, 12), (3, 6), (3, 24), (3, 216), (0, 216), (3, 864), (0, 864), (11, 0), (0, 9), (0, 12288), (0, 63), (0, 32256), (0, 63), (0, 63), (0, 4096), (0, 63), (0, 63), (10, 0), (13, 0), (2, 400), (4, 0), (0, 4800), (2, 4800), (3, 12), (3, 12), (0, 4800), (0, 401), (6, 0), (0, 8), (14, 0), (0, 6), (0, 9), (0, 256), (0, 1280), (0, 4096), (0, 640), (0, 480), (0, 40), (0, 40), (0, 40), (14, 0), (0, 6), (0, 9), (16, 0), (0, 8192), (0, 8192), (0, 8192), (0, 8192), (3, 6), (0, 6), (0, 24), (2, 24), (0, 24), (0, 24), (0, 24), (3, 24), (0, 192), (0, 192), (0, 192), (0, 192), (3, 192), (0, 192), (2, 900), (0, 900), (3, 900), (0, 900), (0, 900), (2, 900), (0, 5000), (0, 512), (0, 4608), (0, 4608), (0, 18000), (0, 9), (0, 64), (0, 32768), (2, 4096), (0, 64), (0, 64), (0, 3), (0, 6), (2, 3), (0, 3), (0, 36), (0, 36), (0, 36), (0, 36), (0, 36), (0, 36), (0, 36), (0, 14400), (0, 14400), (0, 216), (0, 216), (0, 216), (2, 216), (0, 216), (0, 14400), (0, 14400), (2, 400), (3, 14400), (3, 36), (3, 36), (3, 36), (2, 2), (3, 1024), (2, 1024), (0, 401), (0, 256), (0, 6), (0, 6), (0, 1280), (0, 4100), (0, 20100), (0, 20100), (0, 40), (0, 40), (0, 40), (0, 480), (0, 640)]
def kd (a : Nat) : Option (Nat × Nat) := kdL[a]?
def rv (G : xG) (n : Nat) : Value := match n with
  | 0 => .null
  | m + 1 => .ref (q_b G + m)
theorem rv_at {G : xG} {n p : Nat} (h : n = p + 1) : rv G n = .ref (q_b G + p) := by rw [h]; rfl
def dX0 : List Nat := [0, 0, 1, 2, 0, 0, 3, 4, 5, 0, 6]
def obX0 (G : xG) (s : yS) (o : Nat) : List Value := oX0 (fun k => q_b G + (o + dX0.getD k 0)) (fun k => rv G (sR s o k)) (sI s o) (sJ s o)
def dX1 : List Nat := [1, 2, 3]
def obX1 (G : xG) (s : yS) (o : Nat) : List Value := oX1 (fun k => q_b G + (o + dX1.getD k 0)) (fun k => rv G (sR s o k)) (sI s o) (sJ s o)
def dX2 : List Nat := [1, 2, 0, 5, 6, 7, 8, 9, 10, 11, 12, 0, 0, 0, 0, 0, 0, 0]
def obX2 (G : xG) (s : yS) (o : Nat) : List Value := oX2 (fun k => q_b G + (o + dX2.getD k 0)) (fun k => rv G (sR s o k)) (sI s o) (sJ s o)
def dX3 : List Nat := [0, 0, 0, 0, 0, 0, 0, 1, 2, 3, 4, 5, 6, 7, 8, 9, 10, 14, 15, 16]
def obX3 (G : xG) (s : yS) (o : Nat) : List Value := oX3 (fun k => q_b G + (o + dX3.getD k 0)) (fun k => rv G (sR s o k)) (sI s o) (sJ s o)
def dX4 : List Nat := [0, 0, 0, 0, 0, 1, 6, 7, 8, 9, 10, 11]
def obX4 (G : xG) (s : yS) (o : Nat) : List Value := oX4 (fun k => q_b G + (o + dX4.getD k 0)) (fun k => rv G (sR s o k)) (sI s o) (sJ s o)
def dX5 : List Nat := [0, 1, 2, 3, 4, 5, 6, 7, 8, 9, 10, 11, 12, 0, 13, 14, 15, 16, 17]
def obX5 (G : xG) (s : yS) (o : Nat) : List Value := oX5 (fun k => q_b G + (o + dX5.getD k 0)) (fun k => rv G (sR s o k)) (sI s o) (sJ s o)
def dX6 : List Nat := [0, 0, 0, 0, 0, 0, 0]
def obX6 (G : xG) (s : yS) (o : Nat) : List Value := oX6 (fun k => q_b G + (o + dX6.getD k 0)) (fun k => rv G (sR s o k)) (sI s o) (sJ s o)
def dX7 : List Nat := [0, 0, 0, 1, 2, 3, 4, 5, 6, 7, 8, 9]
def obX7 (G : xG) (s : yS) (o : Nat) : List Value := oX7 (fun k => q_b G + (o + dX7.getD k 0)) (fun k => rv G (sR s o k)) (sI s o) (sJ s o)
def dX8 : List Nat := [1, 2, 3, 0, 4]
def obX8 (G : xG) (s : yS) (o : Nat) : List Value := oX8 (fun k => q_b G + (o + dX8.getD k 0)) (fun k => rv G (sR s o k)) (sI s o) (sJ s o)
def dX9 : List Nat := [0, 0, 0, 0, 0, 0, 0, 1]
def obX9 (G : xG) (s : yS) (o : Nat) : List Value := oX9 (fun k => q_b G + (o + dX9.getD k 0)) (fun k => rv G (sR s o k)) (sI s o) (sJ s o)
def dX10 : List Nat := [0, 1, 2]
def obX10 (G : xG) (s : yS) (o : Nat) : List Value := oX10 (fun k => q_b G + (o + dX10.getD k 0)) (fun k => rv G (sR s o k)) (sI s o) (sJ s o)
def dX11 : List Nat := [1, 2, 0, 0, 0, 0, 3, 20, 37, 55, 73, 0, 0, 91, 103, 113, 114, 116, 123, 136]
def obX11 (G : xG) (s : yS) (o : Nat) : List Value := oX11 (fun k => q_b G + (if 6 ≤ k ∧ k ≤ 10 then sR s o k - 1 else o + dX11.getD k 0)) (fun k => rv G (sR s o k)) (sI s o) (sJ s o)
def dX12 : List Nat := [0, 1, 0, 2, 3, 0, 0, 0, 4, 0, 0, 0, 0, 0, 0, 0, 0, 5, 6, 0, 7, 8, 9, 10, 11, 0, 12, 0, 13, 14, 15, 16, 17, 18, 0, 19, 20, 21, 22, 23, 24, 0, 25, 0, 26, 27, 28, 0, 29, 30, 31, 0, 32, 33, 34, 35, 0, 36, 37, 38, 39, 40, 41, 42, 43, 44, 45, 46, 47, 48, 49, 50, 51, 52, 53, 54, 55, 56, 57, 58, 59, 60, 0, 61, 62, 63, 64, 65, 0, 0, 0, 0, 0, 0, 0, 0, 0, 0, 66, 0, 67, 68, 69, 70, 71, 0, 72, 73, 74, 75, 76, 0, 0, 0, 0, 0]
def obX12 (G : xG) (s : yS) (o : Nat) : List Value := oX12 (fun k => q_b G + (o + dX12.getD k 0)) (fun k => rv G (sR s o k)) (sI s o) (sJ s o)
def ce (G : xG) (s : yS) (a : Nat) : Option xE := match kd a with
  | some (0, n) => some (.inl (.int, n, .inl (sI s a)))
  | some (1, n) => some (.inl (.byte, n, .inl (sI s a)))
  | some (2, n) => some (.inl (.boolean, n, .inl (sI s a)))
  | some (3, n) => some (.inl (.long, n, .inr (.inl (sJ s a))))
  | some (4, _) => some (.inr (0, obX0 G s a))
  | some (5, _) => some (.inr (1, obX1 G s a))
  | some (6, _) => some (.inr (2, obX2 G s a))
  | some (7, _) => some (.inr (3, obX3 G s a))
  | some (8, _) => some (.inr (4, obX4 G s a))
  | some (9, _) => some (.inr (5, obX5 G s a))
  | some (10, _) => some (.inr (6, obX6 G s a))
  | some (11, _) => some (.inr (7, obX7 G s a))
  | some (12, _) => some (.inr (8, obX8 G s a))
  | some (13, _) => some (.inr (9, obX9 G s a))
  | some (14, _) => some (.inr (10, obX10 G s a))
  | some (15, _) => some (.inr (11, obX11 G s a))
  | some (16, _) => some (.inr (12, obX12 G s a))
  | _ => none
def hS (G : xG) (s : yS) : xH := fun a => if q_b G ≤ a then ce G s (a - q_b G) else none
section XState
variable {G : xG} {s s1 : yS} {a o i n p : Nat}
theorem hS_at : hS G s (q_b G + a) = ce G s a := by unfold hS; rw [if_pos (Nat.le_add_right _ _), Nat.add_sub_cancel_left]
theorem hs_I (hk : kd a = some (0, n)) : hS G s (q_b G + a) = some (.inl (.int, n, .inl (sI s a))) := by rw [hS_at]; unfold ce; rw [hk] <;> rfl
theorem hs_B (hk : kd a = some (1, n)) : hS G s (q_b G + a) = some (.inl (.byte, n, .inl (sI s a))) := by rw [hS_at]; unfold ce; rw [hk] <;> rfl
theorem hs_Z (hk : kd a = some (2, n)) : hS G s (q_b G + a) = some (.inl (.boolean, n, .inl (sI s a))) := by rw [hS_at]; unfold ce; rw [hk] <;> rfl
theorem hs_J (hk : kd a = some (3, n)) : hS G s (q_b G + a) = some (.inl (.long, n, .inr (.inl (sJ s a)))) := by rw [hS_at]; unfold ce; rw [hk] <;> rfl
theorem hs_o0 (hk : kd o = some (4, 0)) : hS G s (q_b G + o) = some (.inr (0, obX0 G s o)) := by rw [hS_at]; unfold ce; rw [hk] <;> rfl
theorem hs_o1 (hk : kd o = some (5, 0)) : hS G s (q_b G + o) = some (.inr (1, obX1 G s o)) := by rw [hS_at]; unfold ce; rw [hk] <;> rfl
theorem hs_o2 (hk : kd o = some (6, 0)) : hS G s (q_b G + o) = some (.inr (2, obX2 G s o)) := by rw [hS_at]; unfold ce; rw [hk] <;> rfl
theorem hs_o3 (hk : kd o = some (7, 0)) : hS G s (q_b G + o) = some (.inr (3, obX3 G s o)) := by rw [hS_at]; unfold ce; rw [hk] <;> rfl
theorem hs_o4 (hk : kd o = some (8, 0)) : hS G s (q_b G + o) = some (.inr (4, obX4 G s o)) := by rw [hS_at]; unfold ce; rw [hk] <;> rfl
theorem hs_o5 (hk : kd o = some (9, 0)) : hS G s (q_b G + o) = some (.inr (5, obX5 G s o)) := by rw [hS_at]; unfold ce; rw [hk] <;> rfl
theorem hs_o6 (hk : kd o = some (10, 0)) : hS G s (q_b G + o) = some (.inr (6, obX6 G s o)) := by rw [hS_at]; unfold ce; rw [hk] <;> rfl
theorem hs_o7 (hk : kd o = some (11, 0)) : hS G s (q_b G + o) = some (.inr (7, obX7 G s o)) := by rw [hS_at]; unfold ce; rw [hk] <;> rfl
theorem hs_o8 (hk : kd o = some (12, 0)) : hS G s (q_b G + o) = some (.inr (8, obX8 G s o)) := by rw [hS_at]; unfold ce; rw [hk] <;> rfl
theorem hs_o9 (hk : kd o = some (13, 0)) : hS G s (q_b G + o) = some (.inr (9, obX9 G s o)) := by rw [hS_at]; unfold ce; rw [hk] <;> rfl
theorem hs_o10 (hk : kd o = some (14, 0)) : hS G s (q_b G + o) = some (.inr (10, obX10 G s o)) := by rw [hS_at]; unfold ce; rw [hk] <;> rfl
theorem hs_o11 (hk : kd o = some (15, 0)) : hS G s (q_b G + o) = some (.inr (11, obX11 G s o)) := by rw [hS_at]; unfold ce; rw [hk] <;> rfl
theorem hs_o12 (hk : kd o = some (16, 0)) : hS G s (q_b G + o) = some (.inr (12, obX12 G s o)) := by rw [hS_at]; unfold ce; rw [hk] <;> rfl
theorem ce_congr (h1 : sI s1 a = sI s a) (h2 : sJ s1 a = sJ s a) (h3 : sR s1 a = sR s a) : ce G s1 a = ce G s a := by
  unfold ce obX0 obX1 obX2 obX3 obX4 obX5 obX6 obX7 obX8 obX9 obX10 obX11 obX12
  rw [h1, h2, h3]
theorem hS_up {e : xE} (h1 : ce G s1 a = some e) (h2 : ∀ b, b ≠ a → ce G s1 b = ce G s b) : va_up (hS G s) (q_b G + a) (some e) = hS G s1 := by
  funext q
  by_cases hq : q = q_b G + a
  · subst hq; rw [va_up_self, hS_at, h1]
  · rw [va_up_ne _ _ hq]; unfold hS
    by_cases hb : q_b G ≤ q
    · rw [if_pos hb, if_pos hb, h2 (q - q_b G) (by omega)]
    · rw [if_neg hb, if_neg hb]
theorem ce_wI {x : Int32} {b : Nat} (hb : b ≠ a) : ce G (wI s a i x) b = ce G s b := ce_congr (sI_wI_ne hb) sJ_wI sR_wI
theorem ce_wJ {x : Int64} {b : Nat} (hb : b ≠ a) : ce G (wJ s a i x) b = ce G s b := ce_congr sI_wJ (sJ_wJ_ne hb) sR_wJ
theorem ce_wR {x : Nat} {b : Nat} (hb : b ≠ a) : ce G (wR s a i x) b = ce G s b := ce_congr sI_wR sJ_wR (sR_wR_ne hb)
theorem up_I {x : Int32} (hk : kd a = some (0, n)) (e : s1 = wI s a i x) : va_up (hS G s) (q_b G + a) (some (.inl (.int, n, .inl (upd (sI s a) i x)))) = hS G s1 := by
  subst e; refine hS_up ?_ (fun b hb => ce_wI hb); unfold ce; rw [hk, sI_wI_at] <;> rfl
theorem up_B {x : Int32} (hk : kd a = some (1, n)) (e : s1 = wI s a i x) : va_up (hS G s) (q_b G + a) (some (.inl (.byte, n, .inl (upd (sI s a) i x)))) = hS G s1 := by
  subst e; refine hS_up ?_ (fun b hb => ce_wI hb); unfold ce; rw [hk, sI_wI_at] <;> rfl
theorem up_Z {x : Int32} (hk : kd a = some (2, n)) (e : s1 = wI s a i x) : va_up (hS G s) (q_b G + a) (some (.inl (.boolean, n, .inl (upd (sI s a) i x)))) = hS G s1 := by
  subst e; refine hS_up ?_ (fun b hb => ce_wI hb); unfold ce; rw [hk, sI_wI_at] <;> rfl
theorem up_CI {f : Nat → Int32} (hk : kd a = some (0, n)) (e : s1 = wC s a f) : va_up (hS G s) (q_b G + a) (some (.inl (.int, n, .inl f))) = hS G s1 := by
  subst e; refine hS_up ?_ (fun b hb => ce_congr (va_up_ne _ _ hb) rfl rfl); unfold ce; rw [hk, sI_wC_at] <;> rfl
theorem up_CB {f : Nat → Int32} (hk : kd a = some (1, n)) (e : s1 = wC s a f) : va_up (hS G s) (q_b G + a) (some (.inl (.byte, n, .inl f))) = hS G s1 := by
  subst e; refine hS_up ?_ (fun b hb => ce_congr (va_up_ne _ _ hb) rfl rfl); unfold ce; rw [hk, sI_wC_at] <;> rfl
theorem up_J {x : Int64} (hk : kd a = some (3, n)) (e : s1 = wJ s a i x) : va_up (hS G s) (q_b G + a) (some (.inl (.long, n, .inr (.inl (vp_updL (sJ s a) i x))))) = hS G s1 := by
  subst e; refine hS_up ?_ (fun b hb => ce_wJ hb); unfold ce; rw [hk, sJ_wJ_at] <;> rfl
theorem up_oI0 {x : Int32} (hk : kd o = some (4, 0)) (e : s1 = wI s o i x) : va_up (hS G s) (q_b G + o) (some (.inr (0, oX0 (fun k => q_b G + (o + dX0.getD k 0)) (fun k => rv G (sR s o k)) (upd (sI s o) i x) (sJ s o)))) = hS G s1 := by
  subst e; refine hS_up ?_ (fun b hb => ce_wI hb); unfold ce obX0; rw [hk, sI_wI_at, sJ_wI, sR_wI] <;> rfl
theorem up_oR0 (hk : kd o = some (4, 0)) (e : s1 = wR s o i (p + 1)) : va_up (hS G s) (q_b G + o) (some (.inr (0, oX0 (fun k => q_b G + (o + dX0.getD k 0)) (va_up (fun k => rv G (sR s o k)) i (.ref (q_b G + p))) (sI s o) (sJ s o)))) = hS G s1 := by
  subst e; refine hS_up ?_ (fun b hb => ce_wR hb); unfold ce obX0; rw [hk, sI_wR, sJ_wR, sR_wR_at]
  have hf : (fun k => rv G (va_up (sR s o) i (p + 1) k)) = va_up (fun k => rv G (sR s o k)) i (.ref (q_b G + p)) := by
    funext k; unfold va_up; by_cases hk2 : k = i
    · rw [if_pos hk2, if_pos hk2]; rfl
    · rw [if_neg hk2, if_neg hk2]
  rw [hf] <;> rfl
theorem up_oI2 {x : Int32} (hk : kd o = some (6, 0)) (e : s1 = wI s o i x) : va_up (hS G s) (q_b G + o) (some (.inr (2, oX2 (fun k => q_b G + (o + dX2.getD k 0)) (fun k => rv G (sR s o k)) (upd (sI s o) i x) (sJ s o)))) = hS G s1 := by
  subst e; refine hS_up ?_ (fun b hb => ce_wI hb); unfold ce obX2; rw [hk, sI_wI_at, sJ_wI, sR_wI] <;> rfl
theorem up_oR2 (hk : kd o = some (6, 0)) (e : s1 = wR s o i (p + 1)) : va_up (hS G s) (q_b G + o) (some (.inr (2, oX2 (fun k => q_b G + (o + dX2.getD k 0)) (va_up (fun k => rv G (sR s o k)) i (.ref (q_b G + p))) (sI s o) (sJ s o)))) = hS G s1 := by
  subst e; refine hS_up ?_ (fun b hb => ce_wR hb); unfold ce obX2; rw [hk, sI_wR, sJ_wR, sR_wR_at]
  have hf : (fun k => rv G (va_up (sR s o) i (p + 1) k)) = va_up (fun k => rv G (sR s o k)) i (.ref (q_b G + p)) := by
    funext k; unfold va_up; by_cases hk2 : k = i
    · rw [if_pos hk2, if_pos hk2]; rfl
    · rw [if_neg hk2, if_neg hk2]
  rw [hf] <;> rfl
theorem up_oI3 {x : Int32} (hk : kd o = some (7, 0)) (e : s1 = wI s o i x) : va_up (hS G s) (q_b G + o) (some (.inr (3, oX3 (fun k => q_b G + (o + dX3.getD k 0)) (fun k => rv G (sR s o k)) (upd (sI s o) i x) (sJ s o)))) = hS G s1 := by
  subst e; refine hS_up ?_ (fun b hb => ce_wI hb); unfold ce obX3; rw [hk, sI_wI_at, sJ_wI, sR_wI] <;> rfl
theorem up_oI4 {x : Int32} (hk : kd o = some (8, 0)) (e : s1 = wI s o i x) : va_up (hS G s) (q_b G + o) (some (.inr (4, oX4 (fun k => q_b G + (o + dX4.getD k 0)) (fun k => rv G (sR s o k)) (upd (sI s o) i x) (sJ s o)))) = hS G s1 := by
  subst e; refine hS_up ?_ (fun b hb => ce_wI hb); unfold ce obX4; rw [hk, sI_wI_at, sJ_wI, sR_wI] <;> rfl
theorem up_oR4 (hk : kd o = some (8, 0)) (e : s1 = wR s o i (p + 1)) : va_up (hS G s) (q_b G + o) (some (.inr (4, oX4 (fun k => q_b G + (o + dX4.getD k 0)) (va_up (fun k => rv G (sR s o k)) i (.ref (q_b G + p))) (sI s o) (sJ s o)))) = hS G s1 := by
  subst e; refine hS_up ?_ (fun b hb => ce_wR hb); unfold ce obX4; rw [hk, sI_wR, sJ_wR, sR_wR_at]
  have hf : (fun k => rv G (va_up (sR s o) i (p + 1) k)) = va_up (fun k => rv G (sR s o k)) i (.ref (q_b G + p)) := by
    funext k; unfold va_up; by_cases hk2 : k = i
    · rw [if_pos hk2, if_pos hk2]; rfl
    · rw [if_neg hk2, if_neg hk2]
  rw [hf] <;> rfl
theorem up_oI5 {x : Int32} (hk : kd o = some (9, 0)) (e : s1 = wI s o i x) : va_up (hS G s) (q_b G + o) (some (.inr (5, oX5 (fun k => q_b G + (o + dX5.getD k 0)) (fun k => rv G (sR s o k)) (upd (sI s o) i x) (sJ s o)))) = hS G s1 := by
  subst e; refine hS_up ?_ (fun b hb => ce_wI hb); unfold ce obX5; rw [hk, sI_wI_at, sJ_wI, sR_wI] <;> rfl
theorem up_oI6 {x : Int32} (hk : kd o = some (10, 0)) (e : s1 = wI s o i x) : va_up (hS G s) (q_b G + o) (some (.inr (6, oX6 (fun k => q_b G + (o + dX6.getD k 0)) (fun k => rv G (sR s o k)) (upd (sI s o) i x) (sJ s o)))) = hS G s1 := by
  subst e; refine hS_up ?_ (fun b hb => ce_wI hb); unfold ce obX6; rw [hk, sI_wI_at, sJ_wI, sR_wI] <;> rfl
theorem up_oR6 (hk : kd o = some (10, 0)) (e : s1 = wR s o i (p + 1)) : va_up (hS G s) (q_b G + o) (some (.inr (6, oX6 (fun k => q_b G + (o + dX6.getD k 0)) (va_up (fun k => rv G (sR s o k)) i (.ref (q_b G + p))) (sI s o) (sJ s o)))) = hS G s1 := by
  subst e; refine hS_up ?_ (fun b hb => ce_wR hb); unfold ce obX6; rw [hk, sI_wR, sJ_wR, sR_wR_at]
  have hf : (fun k => rv G (va_up (sR s o) i (p + 1) k)) = va_up (fun k => rv G (sR s o k)) i (.ref (q_b G + p)) := by
    funext k; unfold va_up; by_cases hk2 : k = i
    · rw [if_pos hk2, if_pos hk2]; rfl
    · rw [if_neg hk2, if_neg hk2]
  rw [hf] <;> rfl
theorem up_oI7 {x : Int32} (hk : kd o = some (11, 0)) (e : s1 = wI s o i x) : va_up (hS G s) (q_b G + o) (some (.inr (7, oX7 (fun k => q_b G + (o + dX7.getD k 0)) (fun k => rv G (sR s o k)) (upd (sI s o) i x) (sJ s o)))) = hS G s1 := by
  subst e; refine hS_up ?_ (fun b hb => ce_wI hb); unfold ce obX7; rw [hk, sI_wI_at, sJ_wI, sR_wI] <;> rfl
theorem up_oR7 (hk : kd o = some (11, 0)) (e : s1 = wR s o i (p + 1)) : va_up (hS G s) (q_b G + o) (some (.inr (7, oX7 (fun k => q_b G + (o + dX7.getD k 0)) (va_up (fun k => rv G (sR s o k)) i (.ref (q_b G + p))) (sI s o) (sJ s o)))) = hS G s1 := by
  subst e; refine hS_up ?_ (fun b hb => ce_wR hb); unfold ce obX7; rw [hk, sI_wR, sJ_wR, sR_wR_at]
  have hf : (fun k => rv G (va_up (sR s o) i (p + 1) k)) = va_up (fun k => rv G (sR s o k)) i (.ref (q_b G + p)) := by
    funext k; unfold va_up; by_cases hk2 : k = i
    · rw [if_pos hk2, if_pos hk2]; rfl
    · rw [if_neg hk2, if_neg hk2]
  rw [hf] <;> rfl
theorem up_oI8 {x : Int32} (hk : kd o = some (12, 0)) (e : s1 = wI s o i x) : va_up (hS G s) (q_b G + o) (some (.inr (8, oX8 (fun k => q_b G + (o + dX8.getD k 0)) (fun k => rv G (sR s o k)) (upd (sI s o) i x) (sJ s o)))) = hS G s1 := by
  subst e; refine hS_up ?_ (fun b hb => ce_wI hb); unfold ce obX8; rw [hk, sI_wI_at, sJ_wI, sR_wI] <;> rfl
theorem up_oI9 {x : Int32} (hk : kd o = some (13, 0)) (e : s1 = wI s o i x) : va_up (hS G s) (q_b G + o) (some (.inr (9, oX9 (fun k => q_b G + (o + dX9.getD k 0)) (fun k => rv G (sR s o k)) (upd (sI s o) i x) (sJ s o)))) = hS G s1 := by
  subst e; refine hS_up ?_ (fun b hb => ce_wI hb); unfold ce obX9; rw [hk, sI_wI_at, sJ_wI, sR_wI] <;> rfl
theorem up_oR9 (hk : kd o = some (13, 0)) (e : s1 = wR s o i (p + 1)) : va_up (hS G s) (q_b G + o) (some (.inr (9, oX9 (fun k => q_b G + (o + dX9.getD k 0)) (va_up (fun k => rv G (sR s o k)) i (.ref (q_b G + p))) (sI s o) (sJ s o)))) = hS G s1 := by
  subst e; refine hS_up ?_ (fun b hb => ce_wR hb); unfold ce obX9; rw [hk, sI_wR, sJ_wR, sR_wR_at]
  have hf : (fun k => rv G (va_up (sR s o) i (p + 1) k)) = va_up (fun k => rv G (sR s o k)) i (.ref (q_b G + p)) := by
    funext k; unfold va_up; by_cases hk2 : k = i
    · rw [if_pos hk2, if_pos hk2]; rfl
    · rw [if_neg hk2, if_neg hk2]
  rw [hf] <;> rfl
theorem up_oI10 {x : Int32} (hk : kd o = some (14, 0)) (e : s1 = wI s o i x) : va_up (hS G s) (q_b G + o) (some (.inr (10, oX10 (fun k => q_b G + (o + dX10.getD k 0)) (fun k => rv G (sR s o k)) (upd (sI s o) i x) (sJ s o)))) = hS G s1 := by
  subst e; refine hS_up ?_ (fun b hb => ce_wI hb); unfold ce obX10; rw [hk, sI_wI_at, sJ_wI, sR_wI] <;> rfl
theorem up_oI11 {x : Int32} (hk : kd o = some (15, 0)) (e : s1 = wI s o i x) : va_up (hS G s) (q_b G + o) (some (.inr (11, oX11 (fun k => q_b G + (if 6 ≤ k ∧ k ≤ 10 then sR s o k - 1 else o + dX11.getD k 0)) (fun k => rv G (sR s o k)) (upd (sI s o) i x) (sJ s o)))) = hS G s1 := by
  subst e; refine hS_up ?_ (fun b hb => ce_wI hb); unfold ce obX11; rw [hk, sI_wI_at, sJ_wI, sR_wI] <;> rfl
theorem up_oR11 (hi : 6 ≤ i ∧ i ≤ 10) (hk : kd o = some (15, 0)) (e : s1 = wR s o i (p + 1)) : va_up (hS G s) (q_b G + o) (some (.inr (11, oX11 (va_up (fun k => q_b G + (if 6 ≤ k ∧ k ≤ 10 then sR s o k - 1 else o + dX11.getD k 0)) i (q_b G + p)) (fun k => rv G (sR s o k)) (sI s o) (sJ s o)))) = hS G s1 := by
  subst e; refine hS_up ?_ (fun b hb => ce_wR hb); unfold ce obX11; rw [hk, sI_wR, sJ_wR, sR_wR_at]
  have hf : (fun k => q_b G + (if 6 ≤ k ∧ k ≤ 10 then va_up (sR s o) i (p + 1) k - 1 else o + dX11.getD k 0)) = va_up (fun k => q_b G + (if 6 ≤ k ∧ k ≤ 10 then sR s o k - 1 else o + dX11.getD k 0)) i (q_b G + p) := by
    funext k; unfold va_up; by_cases hk2 : k = i
    · rw [if_pos hk2, if_pos hk2, hk2, if_pos hi, Nat.add_sub_cancel]
    · rw [if_neg hk2, if_neg hk2]
  rw [hf] <;> rfl
theorem hv_11 {k : Nat} (e : sR s o k = p + 1) : q_b G + (sR s o k - 1) = q_b G + p := by rw [e, Nat.add_sub_cancel]
theorem up_oI12 {x : Int32} (hk : kd o = some (16, 0)) (e : s1 = wI s o i x) : va_up (hS G s) (q_b G + o) (some (.inr (12, oX12 (fun k => q_b G + (o + dX12.getD k 0)) (fun k => rv G (sR s o k)) (upd (sI s o) i x) (sJ s o)))) = hS G s1 := by
  subst e; refine hS_up ?_ (fun b hb => ce_wI hb); unfold ce obX12; rw [hk, sI_wI_at, sJ_wI, sR_wI] <;> rfl
theorem up_oJ12 {x : Int64} (hk : kd o = some (16, 0)) (e : s1 = wJ s o i x) : va_up (hS G s) (q_b G + o) (some (.inr (12, oX12 (fun k => q_b G + (o + dX12.getD k 0)) (fun k => rv G (sR s o k)) (sI s o) (vp_updL (sJ s o) i x)))) = hS G s1 := by
  subst e; refine hS_up ?_ (fun b hb => ce_wJ hb); unfold ce obX12; rw [hk, sJ_wJ_at, sI_wJ, sR_wJ] <;> rfl
end XState
theorem kd_lt {a : Nat} {x : Nat × Nat} (h : kd a = some x) : a < 216 := by
  unfold kd at h; have := (List.getElem?_eq_some_iff.mp h).1; exact this
theorem kf1_0 {o : Nat} (h : kd o = some (5, 0)) : kd (o + 1) = some (0, 1168) := by
  have key : ∀ o : Nat, o < 216 → kd o = some (5, 0) → kd (o + 1) = some (0, 1168) := by decide +kernel
  exact key o (kd_lt h) h
theorem kf1_1 {o : Nat} (h : kd o = some (5, 0)) : kd (o + 2) = some (0, 145) := by
  have key : ∀ o : Nat, o < 216 → kd o = some (5, 0) → kd (o + 2) = some (0, 145) := by decide +kernel
  exact key o (kd_lt h) h
theorem kf1_2 {o : Nat} (h : kd o = some (5, 0)) : kd (o + 3) = some (0, 17) := by
  have key : ∀ o : Nat, o < 216 → kd o = some (5, 0) → kd (o + 3) = some (0, 17) := by decide +kernel
  exact key o (kd_lt h) h
theorem kf3_7 {o : Nat} (h : kd o = some (7, 0)) : kd (o + 1) = some (0, 6) := by
  have key : ∀ o : Nat, o < 216 → kd o = some (7, 0) → kd (o + 1) = some (0, 6) := by decide +kernel
  exact key o (kd_lt h) h
theorem kf3_8 {o : Nat} (h : kd o = some (7, 0)) : kd (o + 2) = some (0, 31) := by
  have key : ∀ o : Nat, o < 216 → kd o = some (7, 0) → kd (o + 2) = some (0, 31) := by decide +kernel
  exact key o (kd_lt h) h
theorem kf3_9 {o : Nat} (h : kd o = some (7, 0)) : kd (o + 3) = some (0, 216) := by
  have key : ∀ o : Nat, o < 216 → kd o = some (7, 0) → kd (o + 3) = some (0, 216) := by decide +kernel
  exact key o (kd_lt h) h
theorem kf3_10 {o : Nat} (h : kd o = some (7, 0)) : kd (o + 4) = some (0, 216) := by
  have key : ∀ o : Nat, o < 216 → kd o = some (7, 0) → kd (o + 4) = some (0, 216) := by decide +kernel
  exact key o (kd_lt h) h
theorem kf3_11 {o : Nat} (h : kd o = some (7, 0)) : kd (o + 5) = some (0, 217) := by
  have key : ∀ o : Nat, o < 216 → kd o = some (7, 0) → kd (o + 5) = some (0, 217) := by decide +kernel
  exact key o (kd_lt h) h
theorem kf3_12 {o : Nat} (h : kd o = some (7, 0)) : kd (o + 6) = some (0, 864) := by
  have key : ∀ o : Nat, o < 216 → kd o = some (7, 0) → kd (o + 6) = some (0, 864) := by decide +kernel
  exact key o (kd_lt h) h
theorem kf3_13 {o : Nat} (h : kd o = some (7, 0)) : kd (o + 7) = some (0, 864) := by
  have key : ∀ o : Nat, o < 216 → kd o = some (7, 0) → kd (o + 7) = some (0, 864) := by decide +kernel
  exact key o (kd_lt h) h
theorem kf3_14 {o : Nat} (h : kd o = some (7, 0)) : kd (o + 8) = some (0, 864) := by
  have key : ∀ o : Nat, o < 216 → kd o = some (7, 0) → kd (o + 8) = some (0, 864) := by decide +kernel
  exact key o (kd_lt h) h
theorem kf3_15 {o : Nat} (h : kd o = some (7, 0)) : kd (o + 9) = some (2, 864) := by
  have key : ∀ o : Nat, o < 216 → kd o = some (7, 0) → kd (o + 9) = some (2, 864) := by decide +kernel
  exact key o (kd_lt h) h
theorem kf3_16 {o : Nat} (h : kd o = some (7, 0)) : kd (o + 10) = some (5, 0) := by
  have key : ∀ o : Nat, o < 216 → kd o = some (7, 0) → kd (o + 10) = some (5, 0) := by decide +kernel
  exact key o (kd_lt h) h
theorem kf3_17 {o : Nat} (h : kd o = some (7, 0)) : kd (o + 14) = some (0, 32256) := by
  have key : ∀ o : Nat, o < 216 → kd o = some (7, 0) → kd (o + 14) = some (0, 32256) := by decide +kernel
  exact key o (kd_lt h) h
theorem kf3_18 {o : Nat} (h : kd o = some (7, 0)) : kd (o + 15) = some (3, 1008) := by
  have key : ∀ o : Nat, o < 216 → kd o = some (7, 0) → kd (o + 15) = some (3, 1008) := by decide +kernel
  exact key o (kd_lt h) h
theorem kf3_19 {o : Nat} (h : kd o = some (7, 0)) : kd (o + 16) = some (3, 16) := by
  have key : ∀ o : Nat, o < 216 → kd o = some (7, 0) → kd (o + 16) = some (3, 16) := by decide +kernel
  exact key o (kd_lt h) h
theorem kf5_1 {o : Nat} (h : kd o = some (9, 0)) : kd (o + 1) = some (0, 12) := by
  have key : ∀ o : Nat, o < 216 → kd o = some (9, 0) → kd (o + 1) = some (0, 12) := by decide +kernel
  exact key o (kd_lt h) h
theorem kf5_2 {o : Nat} (h : kd o = some (9, 0)) : kd (o + 2) = some (0, 12) := by
  have key : ∀ o : Nat, o < 216 → kd o = some (9, 0) → kd (o + 2) = some (0, 12) := by decide +kernel
  exact key o (kd_lt h) h
theorem kf5_3 {o : Nat} (h : kd o = some (9, 0)) : kd (o + 3) = some (0, 12) := by
  have key : ∀ o : Nat, o < 216 → kd o = some (9, 0) → kd (o + 3) = some (0, 12) := by decide +kernel
  exact key o (kd_lt h) h
theorem kf5_4 {o : Nat} (h : kd o = some (9, 0)) : kd (o + 4) = some (0, 12) := by
  have key : ∀ o : Nat, o < 216 → kd o = some (9, 0) → kd (o + 4) = some (0, 12) := by decide +kernel
  exact key o (kd_lt h) h
theorem kf5_5 {o : Nat} (h : kd o = some (9, 0)) : kd (o + 5) = some (0, 12) := by
  have key : ∀ o : Nat, o < 216 → kd o = some (9, 0) → kd (o + 5) = some (0, 12) := by decide +kernel
  exact key o (kd_lt h) h
theorem kf5_6 {o : Nat} (h : kd o = some (9, 0)) : kd (o + 6) = some (0, 12) := by
  have key : ∀ o : Nat, o < 216 → kd o = some (9, 0) → kd (o + 6) = some (0, 12) := by decide +kernel
  exact key o (kd_lt h) h
theorem kf5_7 {o : Nat} (h : kd o = some (9, 0)) : kd (o + 7) = some (0, 4800) := by
  have key : ∀ o : Nat, o < 216 → kd o = some (9, 0) → kd (o + 7) = some (0, 4800) := by decide +kernel
  exact key o (kd_lt h) h
theorem kf5_8 {o : Nat} (h : kd o = some (9, 0)) : kd (o + 8) = some (0, 4800) := by
  have key : ∀ o : Nat, o < 216 → kd o = some (9, 0) → kd (o + 8) = some (0, 4800) := by decide +kernel
  exact key o (kd_lt h) h
theorem kf5_9 {o : Nat} (h : kd o = some (9, 0)) : kd (o + 9) = some (0, 4800) := by
  have key : ∀ o : Nat, o < 216 → kd o = some (9, 0) → kd (o + 9) = some (0, 4800) := by decide +kernel
  exact key o (kd_lt h) h
theorem kf5_10 {o : Nat} (h : kd o = some (9, 0)) : kd (o + 10) = some (0, 4800) := by
  have key : ∀ o : Nat, o < 216 → kd o = some (9, 0) → kd (o + 10) = some (0, 4800) := by decide +kernel
  exact key o (kd_lt h) h
theorem kf5_11 {o : Nat} (h : kd o = some (9, 0)) : kd (o + 11) = some (2, 4800) := by
  have key : ∀ o : Nat, o < 216 → kd o = some (9, 0) → kd (o + 11) = some (2, 4800) := by decide +kernel
  exact key o (kd_lt h) h
theorem kf5_12 {o : Nat} (h : kd o = some (9, 0)) : kd (o + 12) = some (3, 4800) := by
  have key : ∀ o : Nat, o < 216 → kd o = some (9, 0) → kd (o + 12) = some (3, 4800) := by decide +kernel
  exact key o (kd_lt h) h
theorem kf5_14 {o : Nat} (h : kd o = some (9, 0)) : kd (o + 13) = some (0, 72) := by
  have key : ∀ o : Nat, o < 216 → kd o = some (9, 0) → kd (o + 13) = some (0, 72) := by decide +kernel
  exact key o (kd_lt h) h
theorem kf5_15 {o : Nat} (h : kd o = some (9, 0)) : kd (o + 14) = some (0, 72) := by
  have key : ∀ o : Nat, o < 216 → kd o = some (9, 0) → kd (o + 14) = some (0, 72) := by decide +kernel
  exact key o (kd_lt h) h
theorem kf5_16 {o : Nat} (h : kd o = some (9, 0)) : kd (o + 15) = some (0, 72) := by
  have key : ∀ o : Nat, o < 216 → kd o = some (9, 0) → kd (o + 15) = some (0, 72) := by decide +kernel
  exact key o (kd_lt h) h
theorem kf5_17 {o : Nat} (h : kd o = some (9, 0)) : kd (o + 16) = some (2, 72) := by
  have key : ∀ o : Nat, o < 216 → kd o = some (9, 0) → kd (o + 16) = some (2, 72) := by decide +kernel
  exact key o (kd_lt h) h
theorem kf5_18 {o : Nat} (h : kd o = some (9, 0)) : kd (o + 17) = some (0, 72) := by
  have key : ∀ o : Nat, o < 216 → kd o = some (9, 0) → kd (o + 17) = some (0, 72) := by decide +kernel
  exact key o (kd_lt h) h
theorem kf10_1 {o : Nat} (h : kd o = some (14, 0)) : kd (o + 1) = some (0, 6) := by
  have key : ∀ o : Nat, o < 216 → kd o = some (14, 0) → kd (o + 1) = some (0, 6) := by decide +kernel
  exact key o (kd_lt h) h
theorem kf10_2 {o : Nat} (h : kd o = some (14, 0)) : kd (o + 2) = some (0, 9) := by
  have key : ∀ o : Nat, o < 216 → kd o = some (14, 0) → kd (o + 2) = some (0, 9) := by decide +kernel
  exact key o (kd_lt h) h
/-! ===== steps that name what they store ===== -/
theorem goK {A B : Prop} (a : A) (f : A → B) : B := f a
theorem goV {α : Type} {B : Prop} (x : α) (f : ∀ y : α, y = x → B) : B := f x rfl
section XStepsE
variable {G : xG} {M : xM} {T : xT} {P : xP} {pc nx z kc ks : Nat} {l : List (Nat × Value)} {st rest : List Value} {h : xH} {Q : xQ} {ts : List Nat}
theorem e_istore {j : Nat} {x y : Int32} {l' : List (Nat × Value)} (ey : y = x) (hO : xO G M T P) (hl : T.lookup pc = some (.istore j, 2, ts)) (hj : j < m_n M) (e : x_s1 l j (.int y) = l') (hp : pc + 2 = nx) (k : xEx G M nx l' (rest) h z kc ks Q) : xEx G M pc l (.int x :: rest) h z kc ks Q := by subst ey; exact s_istore hO hl hj e hp k
theorem e_istore_n {j : Fin 4} {x y : Int32} {l' : List (Nat × Value)} (ey : y = x) (hO : xO G M T P) (hl : T.lookup pc = some (.istore_n j, 1, ts)) (hj : j.val < m_n M) (e : x_s1 l j.val (.int y) = l') (hp : pc + 1 = nx) (k : xEx G M nx l' (rest) h z kc ks Q) : xEx G M pc l (.int x :: rest) h z kc ks Q := by subst ey; exact s_istore_n hO hl hj e hp k
theorem e_lstore {j : Nat} {x y : Int64} {l' : List (Nat × Value)} (ey : y = x) (hO : xO G M T P) (hl : T.lookup pc = some (.lstore j, 2, ts)) (hj : j + 1 < m_n M) (e : x_s2 l j (.long y) = l') (hp : pc + 2 = nx) (k : xEx G M nx l' (rest) h z kc ks Q) : xEx G M pc l (.long x :: rest) h z kc ks Q := by subst ey; exact s_lstore hO hl hj e hp k
theorem e_lstore_n {j : Fin 4} {x y : Int64} {l' : List (Nat × Value)} (ey : y = x) (hO : xO G M T P) (hl : T.lookup pc = some (.lstore_n j, 1, ts)) (hj : j.val + 1 < m_n M) (e : x_s2 l j.val (.long y) = l') (hp : pc + 1 = nx) (k : xEx G M nx l' (rest) h z kc ks Q) : xEx G M pc l (.long x :: rest) h z kc ks Q := by subst ey; exact s_lstore_n hO hl hj e hp k
theorem e_iinc {j : Nat} {v : Int} {x y y0 : Int32} {l' : List (Nat × Value)} (ey : y = y0) (hO : xO G M T P) (hl : T.lookup pc = some (.iinc j v, 3, ts)) (hj : j < m_n M) (e0 : l.lookup j = some (.int x)) (e1 : x + Int32.ofInt v = y0) (e : x_s1 l j (.int y) = l') (hp : pc + 3 = nx) (k : xEx G M nx l' (st) h z kc ks Q) : xEx G M pc l (st) h z kc ks Q := by subst ey; exact s_iinc hO hl hj e0 e1 e hp k
end XStepsE
/-! ===== what a method comes to ===== -/
abbrev yQi (G : xG) (z : Nat) (Q : Int32 → yS → Prop) : xQ := fun w h' z' => z' = z ∧ ∃ (r : Int32) (s' : yS), w = some (.int r) ∧ h' = hS G s' ∧ Q r s'
abbrev yPi (G : xG) (z : Nat) (s : yS) (Q : Int32 → Prop) : xQ := fun w h' z' => z' = z ∧ ∃ (r : Int32), w = some (.int r) ∧ h' = hS G s ∧ Q r
abbrev yQl (G : xG) (z : Nat) (Q : Int64 → yS → Prop) : xQ := fun w h' z' => z' = z ∧ ∃ (r : Int64) (s' : yS), w = some (.long r) ∧ h' = hS G s' ∧ Q r s'
abbrev yPl (G : xG) (z : Nat) (s : yS) (Q : Int64 → Prop) : xQ := fun w h' z' => z' = z ∧ ∃ (r : Int64), w = some (.long r) ∧ h' = hS G s ∧ Q r
abbrev yQa (G : xG) (z : Nat) (Q : Nat → yS → Prop) : xQ := fun w h' z' => z' = z ∧ ∃ (r : Nat) (s' : yS), w = some (.ref (q_b G + r)) ∧ h' = hS G s' ∧ Q r s'
abbrev yPa (G : xG) (z : Nat) (s : yS) (Q : Nat → Prop) : xQ := fun w h' z' => z' = z ∧ ∃ (r : Nat), w = some (.ref (q_b G + r)) ∧ h' = hS G s ∧ Q r
abbrev yQv (G : xG) (z : Nat) (Q : yS → Prop) : xQ := fun w h' z' => z' = z ∧ ∃ (s' : yS), w = none ∧ h' = hS G s' ∧ Q s'
abbrev yPv (G : xG) (z : Nat) (s : yS) (Q : Prop) : xQ := fun w h' z' => z' = z ∧ w = none ∧ h' = hS G s ∧ Q
/-- a boolean -/
def zb (x : Int32) : Prop := x = 0 ∨ x = 1
theorem zb_n {x : Int32} (h : zb x) : narrow .boolean (.int x) = .int x := by rcases h with rfl | rfl <;> rfl
theorem zb_f {x : Int32} (h : zb x) : fits .boolean (.int x) = true := by rcases h with rfl | rfl <;> rfl
abbrev ix (i : Int32) : Nat := i.toNatClampNeg
/-- what is fixed -/
def yG (G : xG) : Prop := xW G ∧ q_cl G = vwCl ∧ q_ty G = g_ty ∧ (∃ t0 t1 : Nat, q_sf G 0 = some ("GuardForge$Program", "WIDTH", "[I", .ref t0) ∧ q_sf G 1 = some ("GuardForge$ProgramReader", "BEGIN", "[B", .ref t1) ∧ q_ro G 1 = some (t0, .int, 30, g_width) ∧ q_ro G 2 = some (t1, .byte, 3, g_begin)) ∧ y_J G ∧ ∃ q v : Nat → Nat, y_Ws G q v
