/-! ===== PURE: tables made ===== -/
def Dof (ps : PS) (S : List Int32) (k b : Nat) : Option Nat := if trA ps b (S.getD k 0) = 0 then none else some (S.idxOf (trA ps b (S.getD k 0)))
noncomputable def TT (ps : PS) (S : List Int32) : Nat → Nat → Option Nat := stT (Dof ps S) S.length (offs ps 16)
noncomputable def LL2 (ps : PS) (S : List Int32) : List Nat := stL (Dof ps S) S.length (offs ps 16)
noncomputable def nn (ps : PS) (S : List Int32) : Nat := (LL2 ps S).length
theorem dv_Dof {ps : PS} {S : List Int32} {k b : Nat} (hk : k < S.length) : dv (Dof ps S k b) = wv S (trA ps b S[k]) := by
  unfold Dof wv; rw [getD_at hk]
  by_cases c : trA ps b S[k] = 0
  · rw [if_pos c, if_pos c]; rfl
  · rw [if_neg c, if_neg c]; rfl
theorem Dof_lt {ps : PS} {S : List Int32} {k b t : Nat} (hk : k < S.length) (h : trA ps b S[k] = 0 ∨ trA ps b S[k] ∈ S) (hd : Dof ps S k b = some t) : t < S.length := by
  unfold Dof at hd; rw [getD_at hk] at hd
  by_cases c : trA ps b S[k] = 0
  · rw [if_pos c] at hd; exact absurd hd (by simp)
  · rw [if_neg c] at hd
    cases hd
    exact List.idxOf_lt_length_of_mem (h.resolve_left c)
/-- what is known of a policy whose tables were made -/
def mkd (ps : PS) (S : List Int32) : Prop := wfI ps ∧ lenP ps ∧ resOK ps ∧ offs ps 16 ≤ 512 ∧ setsOf ps = some S ∧ 1 ≤ S.length ∧ S.length ≤ 63 ∧ (∀ (k : Nat) (h : k < S.length) (b : Nat), b < offs ps 16 → trA ps b S[k] = 0 ∨ trA ps b S[k] ∈ S) ∧ nuL (Dof ps S) S.length (offs ps 16)
def plM (s : yS) (ps : PS) (S : List Int32) : Prop := poM s ps ∧ ltM s ps 16 0 ∧ ssM s S ∧ tyM s (TT ps S) (nn ps S) (offs ps 16) ∧ soM s (Dof ps S) S.length (offs ps 16) ∧ smF s ps (TT ps S) (nn ps S)
def plC (s : yS) (p : Nat) (ps : PS) (S : List Int32) : Prop := ltF s p ps ∧ (sI s p 2) = nI S.length ∧ tyC s p (TT ps S) (nn ps S) (offs ps 16) ∧ smS s p ps (TT ps S) (nn ps S) 16
theorem tyM.fr {s s' : yS} {T : Nat → Nat → Option Nat} {n N : Nat} (h : tyM s T n N) (h1 : ∀ a i, (a = 139 ∧ (i = 47 ∨ i = 56)) ∨ a = 171 ∨ a = 173 ∨ a = 174 → sI s' a i = sI s a i) : tyM s' T n N := by
  obtain ⟨q0, q1, q2, q3, q4, q5⟩ := h
  refine ⟨q0, q1, q2, (h1 _ _ (by omega)).trans q3, (h1 _ _ (by omega)).trans q4, fun q hq => ?_⟩
  obtain ⟨x, hx, e1, e2⟩ := q5 q hq
  refine ⟨x, hx, (h1 _ _ (by omega)).trans e1, fun a ha => ?_⟩
  have e3 := e2 a ha
  rw [h1 171 _ (by omega)]
  cases hd : T q a with
  | none => rw [hd] at e3; exact e3
  | some t =>
    rw [hd] at e3
    obtain ⟨ht, y, hy, e4, e5⟩ := e3
    exact ⟨ht, y, hy, e4, (h1 _ _ (by omega)).trans e5⟩
theorem plM.fr {s s' : yS} {ps : PS} {S : List Int32} (h : plM s ps S) (h1 : ∀ a i, (a = 139 ∧ (i = 19 ∨ i = 25 ∨ i = 27 ∨ i = 34 ∨ i = 41 ∨ i = 47 ∨ i = 51 ∨ i = 56)) ∨ (144 ≤ a ∧ a ≤ 163) ∨ a = 165 ∨ a = 166 ∨ a = 170 ∨ a = 171 ∨ a = 173 ∨ a = 174 ∨ a = 202 → sI s' a i = sI s a i) (h2 : ∀ a i, (144 ≤ a ∧ a ≤ 163) ∨ a = 201 → sJ s' a i = sJ s a i) : plM s' ps S := by
  obtain ⟨q1, q2, q3, q4, q5, q6⟩ := h
  refine ⟨q1.fr (fun a i ha => h1 _ _ (by omega)) (fun a i ha hb => h2 _ _ (by omega)), q2.fr (h1 _ _ (by omega)) (fun a i ha => h1 _ _ (by omega)), ⟨(h1 _ _ (by omega)).trans q3.1, fun k hk => (h1 _ _ (by omega)).trans (q3.2 k hk)⟩, q4.fr (fun a i ha => h1 _ _ (by omega)), fun k hk hin => (h1 _ _ (by omega)).trans (q5 k hk hin), fun c hc j hj => ?_⟩
  have := q6 c hc j hj
  rw [h1 202 _ (by omega), h2 201 _ (by omega)]; exact this
theorem plC.fr {s s' : yS} {p : Nat} {ps : PS} {S : List Int32} (h : plC s p ps S) (h1 : ∀ a i, (a = p ∧ (i = 2 ∨ i = 3)) ∨ a = p + 11 ∨ a = p + 12 ∨ a = p + 13 ∨ a = p + 14 → sI s' a i = sI s a i) (h2 : ∀ a i, a = p + 15 ∨ a = p + 16 → sJ s' a i = sJ s a i) : plC s' p ps S := by
  obtain ⟨q1, q2, q3, q4⟩ := h
  refine ⟨q1.fr (fun a i ha => h1 _ _ (by omega)), (h1 _ _ (by omega)).trans q2, ⟨q3.1, q3.2.1, q3.2.2.1, (h1 _ _ (by omega)).trans q3.2.2.2.1, fun q a hq ha => ⟨(h1 _ _ (by omega)).trans (q3.2.2.2.2 q a hq ha).1, (q3.2.2.2.2 q a hq ha).2⟩⟩, fun c hc j hj => ?_⟩
  have := q4 c hc j hj
  rw [h2 (p + 15) _ (by omega), h2 (p + 16) _ (by omega)]; exact this
section
variable {s : yS} {p : Nat}
def dMt (a i : Nat) : Prop := (a = 139 ∧ (i = 47 ∨ i = 51 ∨ i = 56 ∨ i = 15 ∨ i = 16)) ∨ (165 ≤ a ∧ a ≤ 176) ∨ (200 ≤ a ∧ a ≤ 202)
def dMo (a i : Nat) : Prop := (a = 139 ∧ (i = 47 ∨ i = 51 ∨ i = 56)) ∨ (165 ≤ a ∧ a ≤ 176) ∨ (200 ≤ a ∧ a ≤ 202)
theorem k_makeTables {ps : PS} {n : Nat} {Q : yS → Prop} (hn : n ≤ 8192) (htx : (sI s 139 9) = nI n) (hp : poM s ps) (hwf : wfI ps) (hl : lenP ps) (hres : resOK ps) (hb : (sI s 139 15) = 0)
    (Hok : ∀ S, mkd ps S → ∀ s', frM dMo s s' → plM s' ps S → (sI s' 200) 0 = 0 → (sI s' 200) 1 = 0 → Q s')
    (H7 : 512 < offs ps 16 → ∀ s', frM dMt s s' → (sI s' 139 15) = nI 7 → (sI s' 139 16) = nI n → Q s')
    (H8 : offs ps 16 ≤ 512 → setsOf ps = none → ∀ s', frM dMt s s' → (sI s' 139 15) = nI 8 → (sI s' 139 16) = nI n → Q s') : W_X12_makeTables s Q := by
  unfold W_X12_makeTables
  refine k_makeLetters hn htx hp hwf hl hres hb (fun ho s1 F1 t1 => ?_) (fun ho s1 F1 b1 w1 => ?_)
  · intro P15 hP15
    have b1 : (sI s1 139 15) = 0 := by rw [F1.1 _ _ (by unfold dL; omega)]; exact hb
    rw [b1]
    refine ⟨fun hh => absurd rfl hh, fun _ => ?_⟩
    have p1 : poM s1 ps := hp.fr (fun a i ha => F1.1 _ _ (by unfold dL; omega)) (fun a i ha hb => F1.2.1 _ _ (by unfold dL; omega))
    refine k_makeSets (n := n) ((F1.1 _ _ (by unfold dL; omega)).trans htx) p1 hwf hl hres t1 ho b1 (fun S hS h1 h63 s2 F2 S2 w2 => ?_) (fun hS s2 F2 b2 wh2 => ?_)
    · apply hP15
      have b2 : (sI s2 139 15) = 0 := by rw [F2.1 _ _ (by unfold dS; omega)]; exact b1
      rw [b2]
      refine ⟨fun hh => absurd rfl hh, fun _ => ?_⟩
      have hcl : ∀ (k : Nat) (h : k < S.length) (b : Nat), b < offs ps 16 → trA ps b S[k] = 0 ∨ trA ps b S[k] ∈ S := fun k hk b hb => (w2 k hk b hb (Or.inl hk)).1
      have t2 : ltM s2 ps 16 0 := t1.fr (F2.1 _ _ (by unfold dS; omega)) (fun a x ha => F2.1 _ _ (by unfold dS; omega))
      have d2 : dwM s2 (Dof ps S) S.length (offs ps 16) := by
        refine ⟨h63, ho, S2.1, t2.1, fun k b hk hb => ⟨?_, fun t ht => Dof_lt hk (hcl k hk b hb) ht⟩⟩
        rw [dv_Dof hk]; exact (w2 k hk b hb (Or.inl hk)).2
      refine k_tellApart d2 (fun s3 F3 a3 => ?_)
      have d3 : dwM s3 (Dof ps S) S.length (offs ps 16) := d2.fr (fun a i ha => F3.1 _ _ (by omega))
      refine k_number d3 h1 a3 (fun s4 F4 ty4 so4 nu4 => ?_)
      have t4 : ltM s4 ps 16 0 := t2.fr ((F4.1 _ _ (by unfold dNu; omega)).trans (F3.1 _ _ (by omega))) (fun a x ha => (F4.1 _ _ (by unfold dNu; omega)).trans (F3.1 _ _ (by omega)))
      refine k_gather ty4 t4 (fun s5 F5 m5 k0 k1 => ?_)
      have F : frM dMo s s5 := (F1.mono (fun a i h => by unfold dL at h; unfold dMo; omega)).trans ((F2.mono (fun a i h => by unfold dS at h; unfold dMo; omega)).trans ((F3.mono (fun a i h => by unfold dMo; omega)).trans ((F4.mono (fun a i h => by unfold dNu at h; unfold dMo; omega)).trans (F5.mono (fun a i h => by unfold dGa at h; unfold dMo; omega)))))
      refine Hok S ⟨hwf, hl, hres, ho, hS, h1, h63, hcl, nu4⟩ s5 F ⟨hp.fr (fun a i ha => F.1 _ _ (by unfold dMo; omega)) (fun a i ha hb => F.2.1 _ _ (by unfold dMo; omega)), t4.fr (F5.1 _ _ (by unfold dGa; omega)) (fun a x ha => F5.1 _ _ (by unfold dGa; omega)), ⟨?_, fun k hk => ?_⟩, ty4.fr (fun a i ha => F5.1 _ _ (by unfold dGa; omega)), fun k hk hin => (F5.1 _ _ (by unfold dGa; omega)).trans (so4 k hk hin), m5⟩ k0 k1
      · rw [F5.1 _ _ (by unfold dGa; omega), F4.1 _ _ (by unfold dNu; omega), F3.1 _ _ (by omega)]; exact S2.1
      · rw [F5.1 _ _ (by unfold dGa; omega), F4.1 _ _ (by unfold dNu; omega), F3.1 _ _ (by omega)]; exact S2.2 k hk
    · apply hP15
      rw [b2]
      refine ⟨fun _ => ?_, fun hh => absurd hh (by decide)⟩
      exact H8 ho hS s2 ((F1.mono (fun a i h => by unfold dL at h; unfold dMt; omega)).trans (F2.mono (fun a i h => by unfold dSe at h; unfold dMt; omega))) b2 wh2
  · intro P15 hP15
    rw [b1]
    refine ⟨fun _ => ?_, fun hh => absurd hh (by decide)⟩
    apply hP15
    rw [b1]
    refine ⟨fun _ => ?_, fun hh => absurd hh (by decide)⟩
    exact H7 ho s1 (F1.mono (fun a i h => by unfold dLe at h; unfold dMt; omega)) b1 w1
def dMk (p a i : Nat) : Prop := (a = p ∧ (i = 2 ∨ i = 3)) ∨ (a = 103 ∧ (i = 1 ∨ i = 2)) ∨ (104 ≤ a ∧ a ≤ 112) ∨ (p + 14 ≤ a ∧ a ≤ p + 16)
theorem c_make {ps : PS} {Q : Int32 → yS → Prop} (hp3 : p = 3 ∨ p = 20) (hp : poC s p ps) (hlt : ltF s p ps) (hwf : wfI ps) (hl : lenP ps) (hres : resOK ps) (hkey : ∀ κ, κ < 4096 → (sI s 110) κ = -1)
    (Hok : ∀ S, setsOf ps = some S → ∀ s1 s', s1 = wR s 103 0 (p + 1) → frM (dMk p) s1 s' → (∀ κ, κ < 4096 → (sI s' 110) κ = -1) → plC s' p ps S → Q 1 s')
    (Herr : setsOf ps = none → ∀ s1 s', s1 = wR s 103 0 (p + 1) → frM (dMk p) s1 s' → (∀ κ, κ < 4096 → (sI s' 110) κ = -1) → Q 0 s') : W_X7_make s p Q := by
  have ho := hlt.1
  unfold W_X7_make
  intro s1 e1
  have p1 : poC s1 p ps := by subst e1; exact hp.fr (fun a i ha => rfl)
  have l1 : ltF s1 p ps := by subst e1; exact hlt.fr (fun a i ha => rfl)
  have k1 : ∀ κ, κ < 4096 → (sI s1 110) κ = -1 := by subst e1; exact hkey
  have m1 : smC s1 p := ⟨hp3, by subst e1; rw [sR_w, if_pos ⟨rfl, rfl⟩]⟩
  have f16 : sI s1 (p + 10 + 3) (ix (nI 16)) = nI (offs ps 16) := by rw [nI_ix (by omega), show p + 10 + 3 = p + 13 by omega]; exact l1.2.1.1 16 (by omega)
  refine ⟨nI_inU (by omega) (by omega), ?_⟩
  rw [f16]
  intro s3 e3
  have F3 : frM (dMk p) s1 s3 := by subst e3; exact frM.rfl'.wI (by unfold dMk; omega)
  have L3 : sI s3 103 1 = nI (offs ps 16) := by subst e3; rw [sI_w, if_pos ⟨rfl, rfl⟩]
  have k3 : ∀ κ, κ < 4096 → (sI s3 110) κ = -1 := fun κ hκ => by subst e3; rw [sI_w, if_neg (by omega)]; exact k1 κ hκ
  clear e3
  have m3 : smC s3 p := ⟨hp3, (F3.2.2 _ _).trans m1.2⟩
  refine c_leadNodes m3 (p1.fr (fun a i ha => F3.1 _ _ (by unfold dMk; omega))) (l1.fr (fun a i ha => F3.1 _ _ (by unfold dMk; omega))) hwf hl hres L3 (fun s4 F4' n4 => ?_)
  have F4 : frM (dMk p) s1 s4 := F3.trans (F4'.mono (fun a i h => by unfold dNd at h; unfold dMk; omega))
  have L4 : sI s4 103 1 = nI (offs ps 16) := (F4'.1 _ _ (by unfold dNd; omega)).trans L3
  have m4 : smC s4 p := ⟨hp3, (F4.2.2 _ _).trans m1.2⟩
  have p4 := p1.fr (s' := s4) (fun a i ha => F4.1 _ _ (by unfold dMk; omega))
  have k4 : ∀ κ, κ < 4096 → (sI s4 110) κ = -1 := fun κ hκ => by rw [F4'.1 _ _ (by unfold dNd; omega)]; exact k3 κ hκ
  refine c_makeSets m4 p4 hwf hl hres ho n4 L4 (fun S hS h1 h63 s6 F6' S6 w6 => ?_) (fun hS s6 F6' => ?_)
  · have F6 : frM (dMk p) s1 s6 := F4.trans (F6'.mono (fun a i h => by unfold dSc at h; unfold dMk; omega))
    have k6 : ∀ κ, κ < 4096 → (sI s6 110) κ = -1 := fun κ hκ => by rw [F6'.1 _ _ (by unfold dSc; omega)]; exact k4 κ hκ
    have L6 : sI s6 103 1 = nI (offs ps 16) := (F6'.1 _ _ (by unfold dSc; omega)).trans L4
    have m6 : smC s6 p := ⟨hp3, (F6.2.2 _ _).trans m1.2⟩
    have hcl : ∀ (k : Nat) (h : k < S.length) (b : Nat), b < offs ps 16 → trA ps b S[k] = 0 ∨ trA ps b S[k] ∈ S := fun k hk b hb => (w6 k hk b hb (Or.inl hk)).1
    have d6 : dwC s6 p (Dof ps S) S.length (offs ps 16) := by
      refine ⟨h1, h63, ho, S6.1, L6, fun k b hk hb => ⟨?_, fun t ht => Dof_lt hk (hcl k hk b hb) ht⟩⟩
      rw [dv_Dof hk]; exact (w6 k hk b hb (Or.inl hk)).2
    refine ⟨fun _ => ?_, fun hh => absurd hh (by decide)⟩
    refine c_divideGroups m6 d6 k6 (fun s7 g F7' k7 g7 hg hge => ?_)
    have F7 : frM (dMk p) s1 s7 := F6.trans (F7'.mono (fun a i h => by unfold dGr at h; unfold dMk; omega))
    have m7 : smC s7 p := ⟨hp3, (F7.2.2 _ _).trans m1.2⟩
    have d7 := d6.fr (s' := s7) (fun a i ha => F7'.1 _ _ (by unfold dGr; omega))
    refine c_numberStates m7 d7 g7 hg hge (fun s8 F8' ty8 => ?_)
    have F8 : frM (dMk p) s1 s8 := F7.trans (F8'.mono (fun a i h => by unfold dNc at h; unfold dMk; omega))
    have k8 : ∀ κ, κ < 4096 → (sI s8 110) κ = -1 := fun κ hκ => by rw [F8'.1 _ _ (by unfold dNc; omega)]; exact k7 κ hκ
    have n8 : sI s8 p 2 = nI S.length := by rw [F8'.1 _ _ (by unfold dNc; omega)]; exact d7.2.2.2.1
    intro P39 hP39
    suffices hL : ∀ (r c : Nat) (s10 : yS), c + r = 16 → frM (dSu p) s8 s10 → (∀ a, sI s10 a = sI s8 a) → smS s10 p ps (TT ps S) (nn ps S) c → P39 (nI c) s10 from
      hL 16 0 s8 (by omega) frM.rfl' (fun _ => rfl) (fun c hc => by omega)
    intro r
    induction r with
    | zero =>
      intro c s10 hc F10 i10 S10
      have hc16 : c = 16 := by omega
      subst hc16
      apply hP39
      rw [nI_leU (by omega) (by omega)]
      refine ⟨fun _ => ?_, fun hh => absurd (by omega) hh⟩
      have F : frM (dMk p) s1 s10 := F8.trans (F10.mono (fun a i h => by unfold dSu at h; unfold dMk; omega))
      refine Hok S hS s1 s10 e1 F (fun κ hκ => by rw [i10]; exact k8 κ hκ) ⟨l1.fr (fun a i ha => F.1 _ _ (by unfold dMk; omega)), by rw [i10]; exact n8, ⟨ty8.1, ty8.2.1, ty8.2.2.1, by rw [i10]; exact ty8.2.2.2.1, fun q a hq ha => ⟨by rw [i10]; exact (ty8.2.2.2.2 q a hq ha).1, (ty8.2.2.2.2 q a hq ha).2⟩⟩, S10⟩
    | succ r ih =>
      intro c s10 hc F10 i10 S10
      apply hP39
      rw [nI_leU (by omega) (by omega)]
      refine ⟨fun hh => absurd hh (by omega), fun _ => ?_⟩
      have F : frM (dMk p) s1 s10 := F8.trans (F10.mono (fun a i h => by unfold dSu at h; unfold dMk; omega))
      refine c_sumUp (T := TT ps S) (n := nn ps S) ⟨hp3, (F.2.2 _ _).trans m1.2⟩ (l1.fr (fun a i ha => F.1 _ _ (by unfold dMk; omega))) ⟨ty8.1, ty8.2.1, ty8.2.2.1, by rw [i10]; exact ty8.2.2.2.1, fun q a hq ha => ⟨by rw [i10]; exact (ty8.2.2.2.2 q a hq ha).1, (ty8.2.2.2.2 q a hq ha).2⟩⟩ (by omega) S10 (fun s11 F11 i11 S11 => ?_)
      intro x12 e12; subst e12; rw [nI_s]
      exact ih (c + 1) s11 (by omega) (F10.trans F11) (fun a => (i11 a).trans (i10 a)) S11
  · refine ⟨fun hh => absurd rfl hh, fun _ => ?_⟩
    exact Herr hS s1 s6 e1 (F4.trans (F6'.mono (fun a i h => by unfold dSc at h; unfold dMk; omega))) (fun κ hκ => by rw [F6'.1 _ _ (by unfold dSc; omega)]; exact k4 κ hκ)
end
