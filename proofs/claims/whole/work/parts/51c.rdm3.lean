section
variable {s : yS} {B : Nat → Nat} {nb : Nat}
def pgM (s : yS) (q : Nat) (l : List Fn) : Prop := (sI s 178) q = nI l.length ∧ ∀ (f : Nat) (h : f < l.length), fnM s q f l[f]
def dRp (a i : Nat) : Prop := dNb a i ∨ (a = 178 ∧ i = 2) ∨ ((a = 179 ∨ a = 180 ∨ a = 181 ∨ a = 182 ∨ a = 184 ∨ a = 185) ∧ 24 ≤ i ∧ i < 36) ∨ ((a = 186 ∨ a = 187) ∧ 9600 ≤ i ∧ i < 14400) ∨ (188 ≤ a ∧ a ≤ 192 ∧ 144 ≤ i ∧ i < 216)
theorem hnM.fr {s' : yS} {k : Nat} {h : Hn} (x : hnM s k h) (h1 : ∀ a, 188 ≤ a → a ≤ 192 → sI s' a k = sI s a k) : hnM s' k h :=
  ⟨(h1 _ (by omega) (by omega)).trans x.1, (h1 _ (by omega) (by omega)).trans x.2.1, (h1 _ (by omega) (by omega)).trans x.2.2.1, (h1 _ (by omega) (by omega)).trans x.2.2.2.1, (h1 _ (by omega) (by omega)).trans x.2.2.2.2⟩
theorem fnM.fr {s' : yS} {q f : Nat} {x : Fn} (h : fnM s q f x) (h1 : ∀ a, a = 179 ∨ a = 180 ∨ a = 181 ∨ a = 182 ∨ a = 184 ∨ a = 185 → sI s' a (12 * q + f) = sI s a (12 * q + f)) (h2 : ∀ a i, a = 186 ∨ a = 187 → i < (fC x).length → sI s' a (4800 * q + 400 * f + i) = sI s a (4800 * q + 400 * f + i)) (h3 : ∀ a i, 188 ≤ a → a ≤ 192 → i < (fH x).length → sI s' a (72 * q + 6 * f + i) = sI s a (72 * q + 6 * f + i)) : fnM s' q f x := by
  obtain ⟨q1, q2, q3, q4, q5, q6, q7, q8⟩ := h
  exact ⟨(h1 _ (by omega)).trans q1, (h1 _ (by omega)).trans q2, (h1 _ (by omega)).trans q3, (h1 _ (by omega)).trans q4, (h1 _ (by omega)).trans q5, (h1 _ (by omega)).trans q6, fun i hi => ⟨(h2 _ _ (by omega) hi).trans (q7 i hi).1, (h2 _ _ (by omega) hi).trans (q7 i hi).2⟩, fun i hi => (q8 i hi).fr (fun a ha hb => h3 a i ha hb hi)⟩
theorem bdFs_bnd {all r j : Nat} {l : List Fn} : bdFs B nb all (r + 1) l j = bnd (bdF B nb l.length all j) (fun x => bdFs B nb all r (l ++ [x.1]) x.2) := by
  rw [bdFs]
  cases bdF B nb l.length all j with
  | error e => rfl
  | ok x => rfl
theorem bdP_bnd : bdP B nb = bnd (bdB B nb 3 0) (fun _ => bnd (bdN B nb 1 1 (nI 12) 3) (fun a => bnd (bdFs B nb (ix a) (ix a) [] 4) (fun x => if x.2 < nb then .error (4, x.2) else .ok x.1))) := by
  unfold bdP
  cases bdB B nb 3 0 with
  | error e => rfl
  | ok u =>
    show _ = bnd (bdN B nb 1 1 (nI 12) 3) _
    dsimp only
    cases bdN B nb 1 1 (nI 12) 3 with
    | error e => rfl
    | ok a =>
      show _ = bnd (bdFs B nb (ix a) (ix a) [] 4) _
      dsimp only
      cases bdFs B nb (ix a) (ix a) [] 4 with
      | error e => rfl
      | ok x => rfl
theorem beg_nI {k : Nat} (hk : k < 3) : g_beg.getD k 0 = if k = 0 then nI 71 else if k = 1 then nI 70 else 1 := by
  have : ∀ k ∈ List.range 3, g_beg.getD k 0 = if k = 0 then nI 71 else if k = 1 then nI 70 else 1 := by decide
  exact this k (List.mem_range.mpr hk)
theorem k_readProgram {Q : yS → Prop} (hy : byM s B nb)
    (Hok : ∀ l, bdP B nb = .ok l → pgOK l → ∀ s', frM dRp s s' → (sI s' 139 15) = 0 → (sI s' 139 16) = -1 → pgM s' 2 l → Q s')
    (Herr : ∀ e, bdP B nb = .error e → ∀ s', frM dRp s s' → rbM s' e → Q s') : W_X12_readProgram s Q := by
  have hnb := hy.1
  have hok := fun l => bdP_ok (B := B) (nb := nb) (l := l) hnb
  have hres := bdP_bnd (B := B) (nb := nb)
  generalize bdP B nb = R at hres Hok Herr hok
  unfold W_X12_readProgram
  intro s1 e1 s2 e2 s3 e3
  have F3 : frM dNb s s3 := by subst e3; subst e2; subst e1; exact ((frM.rfl'.wI (by unfold dNb; omega)).wI (by unfold dNb; omega)).wI (by unfold dNb; omega)
  have g3 : rgM s3 B nb 0 := by
    refine ⟨hy.ofN F3, ?_, ?_, by omega, ?_⟩
    · subst e3; rw [sI_w, if_neg (by omega)]; subst e2; rw [sI_w, if_pos ⟨rfl, rfl⟩]
    · subst e3; rw [sI_w, if_neg (by omega)]; subst e2; rw [sI_w, if_neg (by omega)]; subst e1; rw [sI_w, if_pos ⟨rfl, rfl⟩]; rfl
    · subst e3; rw [sI_w, if_pos ⟨rfl, rfl⟩]
  clear e3 e2 e1
  intro P17 hP17
  -- the functions, in both cases
  have rest : ∀ (mo : Option (Nat × Nat)) (s5 : yS), rsF mo R (bnd (bdN B nb 1 1 (nI 12) 3) (fun a => bnd (bdFs B nb (ix a) (ix a) [] 4) (fun x => if x.2 < nb then .error (4, x.2) else .ok x.1))) → frM dNb s s5 → rmM s5 B nb 3 mo → P17 (nI 3) s5 := by
    intro mo s5 R5 F5 r5
    apply hP17
    rw [nI_leU (by omega) (by omega)]
    refine ⟨fun _ => ?_, fun hh => absurd (by omega) hh⟩
    refine k_numAny (w := 1) (lo := 1) (by omega) r5 (fun a s7 mo7 F7 r7 n7 => ?_)
    have R7 := R5.step n7
    have ha : mo7 = none → a = nI (ix a) ∧ 1 ≤ ix a ∧ ix a ≤ 12 := fun hm => bdN_nat (lo := 1) (hi := 12) (by omega) (by omega) (n7.good hm).2
    clear R5 r5 n7
    refine ⟨nI_inU (by omega) (by omega), ?_⟩
    rw [show ix (nI 2) = 2 from rfl]
    intro s9 e9
    have F9 : frM dRp s s9 := by subst e9; exact ((F5.trans F7).mono (fun a i h => Or.inl h)).wI (Or.inr (Or.inl ⟨rfl, rfl⟩))
    have v9 : sI s9 178 2 = a := by subst e9; rw [sI_w, if_pos ⟨rfl, rfl⟩]
    have r9 : rmM s9 B nb 4 mo7 := r7.fr (fun a i hh => by subst e9; rw [sI_w, if_neg (by omega)])
    clear e9 r7
    intro P86 hP86
    have bad : ∀ (e : Nat × Nat) (x10 : Int32) (s11 : yS), R = .error e → frM dRp s s11 → rbM s11 e → P86 x10 s11 := by
      intro e x10 s11 he F11 b11
      apply hP86
      refine ⟨nI_inU (by omega) (by omega), ?_⟩
      intro P120 hP120
      have : P120 := hP120 ⟨fun _ => Herr e he s11 F11 b11, fun hz => absurd hz (rb_pos b11).2⟩
      exact ⟨fun _ => this, fun _ => ⟨fun _ => this, fun hz => absurd hz (rb_pos b11).2⟩⟩
    cases hmo : mo7 with
    | some e =>
      subst hmo
      exact bad e 0 s9 (R7.2 e rfl) F9 r9
    | none =>
      subst hmo
      have hav := ha rfl
      have RR := R7.1 rfl
      suffices hLp : ∀ (q f : Nat) (lst : List Fn) (jj : Nat) (s11 : yS), f + q = ix a → lst.length = f → frM dRp s s11 → rgM s11 B nb jj → sI s11 178 2 = a → fsOK (ix a) lst → (∀ (k : Nat) (h : k < lst.length), fnM s11 2 k lst[k]) → R = bnd (bdFs B nb (ix a) q lst jj) (fun x => if x.2 < nb then .error (4, x.2) else .ok x.1) → P86 (nI f) s11 from
        hLp (ix a) 0 [] 4 s9 (by omega) rfl F9 r9 v9 (fun f hf => by simp at hf) (fun k hk => by simp at hk) RR
      intro q
      induction q with
      | zero =>
        intro f lst jj s11 hf hll F11 g11 v11 ok11 m11 RRi
        apply hP86
        refine ⟨nI_inU (by omega) (by omega), ?_⟩
        rw [v11]
        have RRe : R = if jj < nb then .error (4, jj) else .ok lst := RRi
        intro P120 hP120
        have : P120 := by
          apply hP120
          have hy11 := g11.1
          have hjn := g11.2.2.2.1
          rw [g11.2.1, hy11.2.1, g11.2.2.1, nI_leU (by omega) (by omega)]
          refine ⟨fun hz => absurd rfl hz, fun _ => ⟨fun hle => ?_, fun hlt => ?_⟩⟩
          · rw [if_neg (by omega)] at RRe
            refine Hok lst RRe (hok lst RRe) s11 F11 g11.2.1 g11.2.2.2.2 ⟨?_, m11⟩
            rw [v11, show lst.length = ix a by omega]; exact hav.1
          · rw [if_pos (by omega)] at RRe
            refine k_wrongN g11.2.1 (v1 := 4) (by omega) (by omega) (fun s13 F13 b13 => ?_)
            exact Herr (4, jj) RRe s13 (F11.trans (F13.mono (fun a i h => Or.inl (by unfold dNb; omega)))) b13
        rw [hav.1, nI_leU (by omega) (by omega)]
        exact ⟨fun _ => this, fun hz => absurd (by omega) hz⟩
      | succ q ih =>
        intro f lst jj s11 hf hll F11 g11 v11 ok11 m11 RRi
        rw [bdFs_bnd, bnd_assoc, hll] at RRi
        apply hP86
        refine ⟨nI_inU (by omega) (by omega), ?_⟩
        rw [v11]
        intro P120 hP120
        have ea := hav.1
        generalize ix a = n at *
        subst ea
        rw [nI_leU (by omega) (by omega), g11.2.1]
        refine ⟨fun hz => absurd hz (by omega), fun _ => ⟨fun hz => absurd rfl hz, fun _ => ⟨nI_inU (by omega) (by omega), ?_⟩⟩⟩
        refine k_readFunction (by omega) hav.2.1 hav.2.2 g11 (fun x j' hx s15 F15 g15 m15 => ?_) (fun e he s15 F15 b15 => ?_)
        · intro x16 e16; subst e16; rw [nI_s]
          rw [hx] at RRi
          have F15' : frM dRp s s15 := F11.trans (F15.mono (fun a k h => by unfold dFu dHd at h; unfold dRp; rcases h with (h | h) | h | h <;> first | exact Or.inl h | omega))
          have hxo := (bdF_ok hav.2.1 hav.2.2 hx).1
          refine ih (f + 1) (lst ++ [x]) j' s15 (by omega) (by rw [List.length_append, hll]; rfl) F15' g15 (by rw [F15.1 _ _ (by unfold dFu dHd dNb; omega)]; exact v11) (fun k hk => ?_) (fun k hk => ?_) RRi
          · by_cases ck : k = f
            · subst ck; rw [List.getElem_append_right (by omega)]; simp only [hll, Nat.sub_self, List.getElem_cons_zero]; exact hxo
            · have hk' : k < lst.length := by rw [List.length_append] at hk; simp at hk; omega
              rw [List.getElem_append_left hk']; exact ok11 k hk'
          · by_cases ck : k = f
            · subst ck; rw [List.getElem_append_right (by omega)]; simp only [hll, Nat.sub_self, List.getElem_cons_zero]; exact m15
            · have hk' : k < lst.length := by rw [List.length_append] at hk; simp at hk; omega
              rw [List.getElem_append_left hk']
              have hkk := ok11 k hk'
              have hc400 := hkk.2.2.2.2.2.2.2.2.1
              have hh6 := hkk.2.2.2.2.2.2.2.2.2.1
              refine (m11 k hk').fr (fun a ha => F15.1 _ _ (by unfold dFu dHd dNb; omega)) (fun a i ha hi => F15.1 _ _ (by unfold dFu dHd dNb; omega)) (fun a i h1 h2 hi => F15.1 _ _ (by unfold dFu dHd dNb; omega))
        · intro x16 e16
          rw [he] at RRi
          exact bad e x16 s15 RRi (F11.trans (F15.mono (fun a k h => by unfold dFu dHd at h; unfold dRp; rcases h with (h | h) | h | h <;> first | exact Or.inl h | omega))) b15
  -- the beginning
  have R0 : rsF none R _ := ⟨fun _ => hres, fun e he => absurd he (by simp)⟩
  suffices hB : ∀ (q k : Nat) (mo : Option (Nat × Nat)) (s5 : yS), k + q = 3 → frM dNb s s5 → rmM s5 B nb k mo → rsF mo R (bnd (bdB B nb q k) (fun _ => bnd (bdN B nb 1 1 (nI 12) 3) (fun a => bnd (bdFs B nb (ix a) (ix a) [] 4) (fun x => if x.2 < nb then .error (4, x.2) else .ok x.1)))) → P17 (nI k) s5 from
    hB 3 0 none s3 (by omega) F3 g3 R0
  intro q
  induction q with
  | zero =>
    intro k mo s5 hk F5 r5 R5
    have hk3 : k = 3 := by omega
    subst hk3
    exact rest mo s5 R5 F5 r5
  | succ q ih =>
    intro k mo s5 hk F5 r5 R5
    have hc : ∀ c, c < 3 → (nI k = nI c ↔ k = c) := fun c hc => nI_inj (by omega) (by omega)
    have hc0 : nI k = 0 ↔ k = 0 := hc 0 (by omega)
    have hc1 : nI k = 1 ↔ k = 1 := hc 1 (by omega)
    apply hP17
    rw [nI_leU (by omega) (by omega), hc0, hc1]
    refine ⟨fun hh => absurd hh (by omega), fun _ => ?_⟩
    have Rbad : ∀ e, R = .error e → rsF (some e) R (bnd (bdB B nb q (k + 1)) (fun _ => bnd (bdN B nb 1 1 (nI 12) 3) (fun a => bnd (bdFs B nb (ix a) (ix a) [] 4) (fun x => if x.2 < nb then .error (4, x.2) else .ok x.1)))) := fun e he => ⟨fun hm => absurd hm (by simp), fun e' he' => by cases he'; exact he⟩
    cases mo with
    | some e =>
      refine k_byteBad r5 ?_
      intro P64 hP64
      refine ⟨fun _ => hP64 _ ?_, fun hz => absurd hz (rb_pos r5).2⟩
      intro x20 e20; subst e20; rw [nI_s]
      exact ih (k + 1) (some e) s5 (by omega) F5 r5 (Rbad e (R5.2 e rfl))
    | none =>
      have RR := R5.1 rfl
      rw [bdB] at RR
      refine k_byteNext r5 (fun hlt s18 F18 g18 => ?_) (fun he s18 F18 b18 => ?_)
      · rw [if_neg (by omega)] at RR
        intro P64 hP64
        rw [g18.2.1]
        refine ⟨fun hz => absurd rfl hz, fun _ => ?_⟩
        intro P55 hP55
        have h55 : ∀ y21 : Int32, y21 = g_beg.getD k 0 → P55 y21 := by
          intro y21 hy21
          apply hP55
          refine ⟨fun he => hP64 _ ?_, fun hne => ?_⟩
          · intro x20 e20; subst e20; rw [nI_s]
            rw [if_pos (by rw [← hy21]; exact he)] at RR
            exact ih (k + 1) none s18 (by omega) (F5.trans F18) g18 ⟨fun _ => RR, fun e he => absurd he (by simp)⟩
          · refine k_wrongN g18.2.1 (v1 := 2) (by omega) (by omega) (fun s22 F22 b22 => hP64 _ ?_)
            intro x20 e20; subst e20; rw [nI_s]
            rw [if_neg (by rw [← hy21]; exact hne)] at RR
            exact ih (k + 1) (some (2, k)) s22 (by omega) (F5.trans (F18.trans (F22.mono (fun a i h => by unfold dNb; omega)))) b22 (Rbad _ RR)
        have hbg := beg_nI (k := k) (by omega)
        refine ⟨fun h0 => ⟨fun h1 => h55 _ (by rw [hbg, if_neg h0, if_neg h1]), fun h1 => h55 _ (by rw [hbg, if_neg h0, if_pos h1])⟩, fun h0 => h55 _ (by rw [hbg, if_pos h0])⟩
      · rw [if_pos (by omega)] at RR
        intro P64 hP64
        refine ⟨fun _ => hP64 _ ?_, fun hz => absurd hz (rb_pos b18).2⟩
        intro x20 e20; subst e20; rw [nI_s]
        exact ih (k + 1) (some (1, nb)) s18 (by omega) (F5.trans F18) b18 (Rbad _ RR)
end
