/-! ===== the reference reads calls and guards ===== -/
/-- all but D is the same -/
def frM (D : Nat → Nat → Prop) (s s' : yS) : Prop := (∀ a i, ¬ D a i → sI s' a i = sI s a i) ∧ (∀ a i, ¬ D a i → sJ s' a i = sJ s a i) ∧ ∀ a i, sR s' a i = sR s a i
theorem frM.rfl' {D : Nat → Nat → Prop} {s : yS} : frM D s s := ⟨fun _ _ _ => rfl, fun _ _ _ => rfl, fun _ _ => rfl⟩
theorem frM.trans {D : Nat → Nat → Prop} {s t u : yS} (h : frM D s t) (k : frM D t u) : frM D s u :=
  ⟨fun a i e => (k.1 a i e).trans (h.1 a i e), fun a i e => (k.2.1 a i e).trans (h.2.1 a i e), fun a i => (k.2.2 a i).trans (h.2.2 a i)⟩
theorem frM.mono {D E : Nat → Nat → Prop} {s t : yS} (h : frM D s t) (k : ∀ a i, D a i → E a i) : frM E s t :=
  ⟨fun a i e => h.1 a i (fun d => e (k a i d)), fun a i e => h.2.1 a i (fun d => e (k a i d)), h.2.2⟩
theorem frM.wI {D : Nat → Nat → Prop} {s t : yS} {a i : Nat} {x : Int32} (h : frM D s t) (hd : D a i) : frM D s (wI t a i x) := by
  refine h.trans ⟨fun b j e => ?_, fun b j e => rfl, fun b j => rfl⟩
  rw [sI_w, if_neg]; rintro ⟨rfl, rfl⟩; exact e hd
theorem frM.wJ {D : Nat → Nat → Prop} {s t : yS} {a i : Nat} {x : Int64} (h : frM D s t) (hd : D a i) : frM D s (wJ t a i x) := by
  refine h.trans ⟨fun b j e => rfl, fun b j e => ?_, fun b j => rfl⟩
  rw [sJ_w, if_neg]; rintro ⟨rfl, rfl⟩; exact e hd
theorem nxF.fr {D : Nat → Nat → Prop} {s t : yS} (h : nxF s t) (k : ∀ i, 10 ≤ i → i ≤ 16 → D 139 i) : frM D s t := by
  refine ⟨fun a i e => h.1 a i ?_, fun a i e => h.2.1 a i ?_, h.2.2⟩
  · rintro ⟨rfl, hi⟩; exact e (k i (by omega) (by omega))
  · rintro ⟨rfl, hi⟩; exact e (k i (by omega) (by omega))
theorem nxF.a {s t : yS} (h : nxF s t) : ∀ a i, a ≠ 139 → sI t a i = sI s a i := fun a i e => h.1 a i (fun hh => e hh.1)
theorem nxF.aJ {s t : yS} (h : nxF s t) : ∀ a i, a ≠ 139 → sJ t a i = sJ s a i := fun a i e => h.2.1 a i (fun hh => e hh.1)
theorem nxF.f {s t : yS} (h : nxF s t) : ∀ i, 17 ≤ i → sI t 139 i = sI s 139 i := fun i e => h.1 _ i (by omega)
def dG (a i : Nat) : Prop := (a = 139 ∧ (10 ≤ i ∧ i ≤ 16 ∨ i = 41 ∨ i = 43)) ∨ (158 ≤ a ∧ a ≤ 164)
def bI (b : Bool) : Int32 := if b then 1 else 0
theorem bI_t : bI true = 1 := rfl
theorem bI_f : bI false = 0 := rfl
theorem bI_nar (b : Bool) : vp_nar .boolean (bI b) = bI b := by cases b <;> rfl
theorem bI_z (b : Bool) : bI b = 0 ↔ b = false := by cases b <;> simp [bI]
/-- the reference's guards -/
def gd1 (s : yS) (g : Nat) (d : Gd) : Prop := (sI s 158) g = bI (gC d) ∧ (sI s 159) g = nI (gW d) ∧ (sI s 161) g = nI (gH d) ∧ (sI s 162) g = Int32.ofInt (gV d) ∧ (sI s 163) g = bI (gO d) ∧ (gC d = true → (sJ s 160) g = Int64.ofInt (c27 0 (gN' d)))
def gdM (s : yS) (gs : List Gd) : Prop := (sI s 139 41) = nI gs.length ∧ ∀ (g : Nat) (h : g < gs.length), gd1 s g gs[g]
def lk1 (s : yS) (i : Nat) (l : Lk) : Prop := (sI s 164) (4 * i) = nI l.1 ∧ (sI s 164) (4 * i + 1) = nI l.2.1 ∧ (sI s 164) (4 * i + 2) = Int32.ofInt l.2.2.1 ∧ (sI s 164) (4 * i + 3) = nI l.2.2.2
def lkM (s : yS) (L : List Lk) : Prop := (sI s 139 43) = nI L.length ∧ ∀ (i : Nat) (h : i < L.length), lk1 s i L[i]
theorem gdM.fr {s s' : yS} {gs : List Gd} (h : gdM s gs) (h0 : (sI s' 139 41) = (sI s 139 41)) (h1 : ∀ a i, (158 ≤ a ∧ a ≤ 163) → i < gs.length → sI s' a i = sI s a i) (h2 : ∀ i, i < gs.length → sJ s' 160 i = sJ s 160 i) : gdM s' gs := by
  refine ⟨h0.trans h.1, fun g hg => ?_⟩
  have := h.2 g hg
  unfold gd1 at this ⊢
  rw [h1 158 g (by omega) hg, h1 159 g (by omega) hg, h1 161 g (by omega) hg, h1 162 g (by omega) hg, h1 163 g (by omega) hg, h2 g hg]
  exact this
theorem lkM.fr {s s' : yS} {L : List Lk} (h : lkM s L) (h0 : (sI s' 139 43) = (sI s 139 43)) (h1 : ∀ i, i < 4 * L.length → sI s' 164 i = sI s 164 i) : lkM s' L := by
  refine ⟨h0.trans h.1, fun g hg => ?_⟩
  have := h.2 g hg
  unfold lk1 at this ⊢
  rw [h1 _ (by omega), h1 _ (by omega), h1 _ (by omega), h1 _ (by omega)]
  exact this
theorem gdM.nx {s s' : yS} {gs : List Gd} (h : gdM s gs) (k : nxF s s') : gdM s' gs := h.fr (k.f _ (by omega)) (fun a i ha _ => k.a a i (by omega)) (fun i _ => k.aJ _ i (by omega))
theorem lkM.nx {s s' : yS} {L : List Lk} (h : lkM s L) (k : nxF s s') : lkM s' L := h.fr (k.f _ (by omega)) (fun i _ => k.a _ i (by omega))
theorem oI32 {v : Int} (h1 : -2147483648 ≤ v) (h2 : v ≤ 2147483647) : (Int64.ofInt v).toInt32 = Int32.ofInt v := by
  rw [← Int32.toInt_inj, Int64.toInt_toInt32, oJ_toInt (by omega) (by omega), Int32.toInt_ofInt_of_le (by omega) (by omega)]
  exact Int.bmod_eq_of_le (by omega) (by omega)
theorem oI_nat (n : Nat) : Int32.ofInt (n : Int) = nI n := rfl
section
variable {T : Nat → Nat} {n : Nat}
theorem k_readCallE {s : yS} {e : Nat × Nat} {Q : Int32 → yS → Prop} (hc : erM s n e) (H : Q 0 s) : W_X12_readCall s Q := by
  unfold W_X12_readCall
  refine k_isWordE (fun r _ => ?_)
  intro P46 hP46
  have hP : ∀ y, P46 y := fun y => hP46 y (k_mustE hc ⟨fun hh => absurd rfl hh, fun _ => H⟩)
  exact ⟨fun _ => hP _, fun _ => ⟨fun _ => hP _, fun _ => ⟨fun _ => hP _, fun _ => ⟨fun _ => hP _, fun _ => hP _⟩⟩⟩⟩
theorem k_readCall {s : yS} {j : Nat} {Q : Int32 → yS → Prop} (h : txM s T n) (hc : cuM s T n j)
    (Hok : ∀ q, pCall (tkJ T n) j = .ok (q, j + 1) → 2 ≤ tkK (tkJ T n j) → -1 ≤ q → q ≤ 15 → ∀ s', nxF s s' → cuM s' T n (j + 1) → Q (Int32.ofInt q) s')
    (Herr : ∀ e, pCall (tkJ T n) j = .error e → ∀ s', nxF s s' → erM s' n e → Q 0 s') : W_X12_readCall s Q := by
  by_cases hk1 : tkK (tkJ T n j) = 1
  · refine k_readCallE (hc.bad hk1) (Herr _ ?_ s nxF.rfl' (hc.bad hk1))
    unfold pCall isW; simp [hk1]
  unfold W_X12_readCall
  rw [wd359]
  refine k_isWord hc (by omega) (fun r hr01 hr => ?_)
  have hr := hr hk1
  intro P46 hP46
  have bad : pCall (tkJ T n) j = .error (pRef (tkJ T n j)) → P46 0 := by
    intro he
    apply hP46
    refine k_mustJ h hc (fun hh => absurd rfl hh) (fun _ s' F e => ⟨fun hh => absurd rfl hh, fun _ => Herr _ he s' F e⟩)
  have good : ∀ q, pCall (tkJ T n) j = .ok (q, j + 1) → 2 ≤ tkK (tkJ T n j) → -1 ≤ q → q ≤ 15 → (r = 0 → ((sJ s 139 14)).toInt32 = Int32.ofInt q) → (¬ r = 0 → q = -1) → P46 1 := by
    intro q hq h2 hq1 hq2 h0 h1
    apply hP46
    refine k_mustJ h hc (fun _ _ => ⟨fun _ => ?_, fun hh => absurd hh (by decide)⟩) (fun hh => ?_)
    · intro P67 hP67
      refine ⟨fun hz => hP67 _ ?_, fun hz => hP67 _ ?_⟩
      · rw [h0 hz]; exact k_nextJ h hc hk1 (fun s' F c => Hok q hq h2 hq1 hq2 s' F c)
      · have := h1 hz; subst this; exact k_nextJ h hc hk1 (fun s' F c => Hok _ hq h2 hq1 hq2 s' F c)
    · rcases hh with hh | hh
      · exact absurd hh (by decide)
      · exact absurd hh hk1
  refine ⟨fun hz => ?_, fun hz => ?_⟩
  · rw [hr] at hz
    have hw := if1 hz
    have k6 : tkK (tkJ T n j) = 6 := by unfold isW at hw; simp at hw; exact hw.1
    refine good (-1) (by unfold pCall; rw [if_pos hw]) (by omega) (by omega) (by omega) (fun h0 => ?_) (fun _ => rfl)
    rw [hr, hw] at h0; exact absurd h0 (by decide)
  · have hw : isW (tkJ T n j) 8 = false := by rw [hr] at hz; exact if0 hz
    rw [hc.t3 hk1]
    refine ⟨fun h3 => bad ?_, fun h3 => ?_⟩
    · unfold pCall; rw [if_neg (by simp [hw]), if_neg (by omega)]
    · have h4 := (hc.2.2.2.2.2.2.2.1 h3).2
      have hb := (tkJ_cases T n j).2.2.2.2.2.2.2.1 h3
      rw [h4, lgc_lt0, lgc_ge0, oJ_toInt (by omega) (by omega), show ((0 : Int64)).toInt = 0 from rfl, show ((16 : Int64)).toInt = 16 from rfl]
      refine ⟨fun hx => bad ?_, fun hx => ⟨fun hy => bad ?_, fun hy => good (tkV (tkJ T n j)) ?_ (by omega) (by omega) (by omega) (fun _ => ?_) (fun hh => absurd hz hh)⟩⟩
      · unfold pCall; rw [if_neg (by simp [hw]), if_neg (by omega)]
      · unfold pCall; rw [if_neg (by simp [hw]), if_neg (by omega)]
      · unfold pCall; rw [if_neg (by simp [hw]), if_pos (by omega)]
      · rw [h4]; exact oI32 (by omega) (by omega)
theorem k_look {s : yS} {L : List Lk} {w o : Nat} {c : Int} {p : Nat} {Q : yS → Prop} (h : lkM s L) (hL : L.length < 1250) (hp : (sI s 139 12) = nI p)
    (H : ∀ s', lkM s' (L ++ [(w, o, c, p)]) → (∀ a i, a ≠ 164 → ¬ (a = 139 ∧ i = 43) → sI s' a i = sI s a i) → (∀ a i, sJ s' a i = sJ s a i) → (∀ a i, sR s' a i = sR s a i) → Q s') : W_X12_look s (nI w) (nI o) (Int32.ofInt c) Q := by
  unfold W_X12_look
  rw [h.1, nI_mul, nI_ix (by omega)]
  refine ⟨nI_inU (by omega) (by omega), ?_⟩
  intro s2 e2
  have c2 : (sI s2 139 43) = nI L.length := by subst e2; exact h.1
  rw [c2, nI_mul, nI_s, nI_ix (by omega)]
  refine ⟨nI_inU (by omega) (by omega), ?_⟩
  intro s4 e4
  have c4 : (sI s4 139 43) = nI L.length := by subst e4; exact c2
  rw [c4, nI_mul, nI_addU, nI_ix (by omega)]
  refine ⟨nI_inU (by omega) (by omega), ?_⟩
  intro s6 e6
  have c6 : (sI s6 139 43) = nI L.length := by subst e6; exact c4
  have p6 : (sI s6 139 12) = nI p := by subst e6; subst e4; subst e2; exact hp
  rw [c6, nI_mul, nI_addU, nI_ix (by omega), p6]
  refine ⟨nI_inU (by omega) (by omega), ?_⟩
  intro s8 e8 s9 e9
  have c8 : (sI s8 139 43) = nI L.length := by subst e8; exact c6
  rw [c8, nI_s] at e9
  refine H s9 ⟨?_, fun i hi => ?_⟩ (fun a i h1 h2 => ?_) (fun a i => ?_) (fun a i => ?_)
  · subst e9; rw [sI_w, if_pos ⟨rfl, rfl⟩, List.length_append]; rfl
  · rw [List.length_append] at hi
    have hi : i < L.length + 1 := hi
    unfold lk1
    subst e9; subst e8; subst e6; subst e4; subst e2
    by_cases ci : i = L.length
    · subst ci
      simp [sI_w]
    · have := h.2 i (by omega)
      rw [List.getElem_append_left (by omega)]
      unfold lk1 at this
      simp only [sI_w]
      rw [if_neg (by omega), if_neg (by omega), if_neg (by omega), if_neg (by omega), if_neg (by omega), if_neg (by omega), if_neg (by omega), if_neg (by omega), if_neg (by omega), if_neg (by omega), if_neg (by omega), if_neg (by omega), if_neg (by omega), if_neg (by omega), if_neg (by omega), if_neg (by omega), if_neg (by omega), if_neg (by omega), if_neg (by omega), if_neg (by omega)]
      exact this
  · subst e9; subst e8; subst e6; subst e4; subst e2
    rw [sI_w, if_neg h2, sI_w, if_neg (by omega), sI_w, if_neg (by omega), sI_w, if_neg (by omega), sI_w, if_neg (by omega)]
  · subst e9; subst e8; subst e6; subst e4; subst e2; rfl
  · subst e9; subst e8; subst e6; subst e4; subst e2; rfl
end
