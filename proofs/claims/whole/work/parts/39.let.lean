/-! ===== PURE: letters ===== -/
def ln (ps : PS) (c k : Nat) : Nat := (dimL ps c k).length
def prD (ps : PS) (c : Nat) : Nat → Nat
  | 0 => 1
  | k + 1 => prD ps c k * ln ps c k
def nLet (ps : PS) (c : Nat) : Nat := prD ps c 9
def offs (ps : PS) : Nat → Nat
  | 0 => 0
  | c + 1 => offs ps c + nLet ps c
def rst (ps : PS) (c i : Nat) : Nat → Nat
  | 0 => i
  | t + 1 => rst ps c i t / ln ps c (8 - t)
def real (ps : PS) (c d : Nat) : Bool := if d < 3 then d < c % 4 else d - 3 < (pC ps).length
/-- the least int of letter i of call c in dimension d -/
def low (ps : PS) (c i d : Nat) : Int := if real ps c d then (dimL ps c d).getD (rst ps c i (8 - d) % ln ps c d) 0 else 0
theorem ln_pos (ps : PS) (c k : Nat) : 1 ≤ ln ps c k := by
  unfold ln dimL
  obtain ⟨r, e⟩ := (dimF_ok ps k (cutA ps c)).2.1
  rw [e]; simp
theorem prD_pos (ps : PS) (c : Nat) : ∀ k, 1 ≤ prD ps c k
  | 0 => Nat.le_refl _
  | k + 1 => by
    show 1 ≤ prD ps c k * ln ps c k
    exact Nat.mul_pos (prD_pos ps c k) (ln_pos ps c k)
theorem prD_mono (ps : PS) (c : Nat) {j : Nat} : ∀ {k : Nat}, j ≤ k → prD ps c j ≤ prD ps c k
  | 0, h => by have : j = 0 := by omega
               subst this; exact Nat.le_refl _
  | k + 1, h => by
    by_cases e : j = k + 1
    · subst e; exact Nat.le_refl _
    · have := prD_mono ps c (j := j) (k := k) (by omega)
      show _ ≤ prD ps c k * ln ps c k
      exact Nat.le_trans this (Nat.le_mul_of_pos_right _ (ln_pos ps c k))
theorem offs_mono (ps : PS) {j : Nat} : ∀ {k : Nat}, j ≤ k → offs ps j ≤ offs ps k
  | 0, h => by have : j = 0 := by omega
               subst this; exact Nat.le_refl _
  | k + 1, h => by
    by_cases e : j = k + 1
    · subst e; exact Nat.le_refl _
    · have := offs_mono ps (j := j) (k := k) (by omega)
      show _ ≤ offs ps k + nLet ps k; omega
theorem ln_le {ps : PS} (hwf : wfI ps) (hl : lenP ps) (c k : Nat) : ln ps c k ≤ 1537 := by
  unfold ln dimL
  have h := (fold_len (ps := ps) (k := k) (cutA ps c) [dLo k]).2
  have h2 : (cutA ps c).length ≤ 8 * (pW ps).length := flat_len _ (fun x hx => cutW_len (hwf.2.2.2.2.2.2.1 x hx).2.2.2.1)
  have h3 : [dLo k].length = 1 := rfl
  have := hl.2.2.1; have := hl.2.2.2
  show (List.foldl (stK ps k) [dLo k] (cutA ps c)).length ≤ 1537
  omega
theorem rst_le (ps : PS) (c i : Nat) : ∀ t, rst ps c i t ≤ i
  | 0 => Nat.le_refl _
  | t + 1 => Nat.le_trans (Nat.div_le_self _ _) (rst_le ps c i t)
/-- the reference's letters, those of the calls below c and i of call c -/
def ltM (s : yS) (ps : PS) (c i : Nat) : Prop := (sI s 139 47) = nI (offs ps c + i) ∧ ∀ c' j, (c' < c ∧ j < nLet ps c' ∨ c' = c ∧ j < i) → (sI s 165) (offs ps c' + j) = nI c' ∧ ∀ d, d < 9 → (sI s 166) (9 * (offs ps c' + j) + d) = Int32.ofInt (low ps c' j d)
def dL (a i : Nat) : Prop := (a = 139 ∧ i = 47) ∨ (165 ≤ a ∧ a ≤ 169)
def dLe (a i : Nat) : Prop := (a = 139 ∧ (i = 47 ∨ i = 15 ∨ i = 16)) ∨ (165 ≤ a ∧ a ≤ 169)
section
variable {s : yS}
theorem k_greatest {ps : PS} {d k : Nat} {l : List Int} {Q : Int32 → Prop} (hd : d < 9) (hk : k < l.length) (hl : l.length ≤ 1537) (hr : rwM s d l) (hp : poM s ps) (hc6 : (pC ps).length ≤ 6) (H : ∀ r, Q r) : W_X12_greatest s (nI d) (nI k) Q := by
  unfold W_X12_greatest
  rw [nI_ix (n := d) (by omega), hr.1, nI_s, nI_leU (by omega) (by omega)]
  refine ⟨nI_inU hd (by omega), fun _ => ?_, fun h => ?_⟩
  · rw [nI_leU (by omega) (by omega)]
    refine ⟨fun h3 => ?_, fun _ => H _⟩
    rw [nI_sub (by omega), hp.1.1, nI_leU (by omega) (by omega)]
    exact ⟨fun _ => H _, fun h4 => ⟨nI_inU (by omega) (by omega), H _⟩⟩
  · rw [nI_mul, nI_addU, nI_s]
    exact ⟨nI_inU (by omega) (by omega), H _⟩
theorem k_makeLetters {ps : PS} {n : Nat} {Q : yS → Prop} (hn : n ≤ 8192) (htx : (sI s 139 9) = nI n) (hp : poM s ps) (hwf : wfI ps) (hl : lenP ps) (hres : resOK ps) (hb : (sI s 139 15) = 0)
    (Hok : offs ps 16 ≤ 512 → ∀ s', frM dL s s' → ltM s' ps 16 0 → Q s')
    (Herr : 512 < offs ps 16 → ∀ s', frM dLe s s' → (sI s' 139 15) = nI 7 → (sI s' 139 16) = nI n → Q s') : W_X12_makeLetters s Q := by
  have l1 := hl.1
  unfold W_X12_makeLetters
  intro s1 e1 P7 hP7
  have F1 : frM dL s s1 := by subst e1; exact frM.rfl'.wI (Or.inl ⟨rfl, rfl⟩)
  have t1 : ltM s1 ps 0 0 := by
    refine ⟨by subst e1; rfl, fun c' j hh => by omega⟩
  clear e1
  suffices hL : ∀ (m c : Nat) (s3 : yS), c + m = 16 → frM dL s s3 → offs ps c ≤ 512 → ltM s3 ps c 0 → P7 (nI c) s3 from hL 16 0 s1 (by omega) F1 (by show 0 ≤ 512; omega) t1
  intro m
  induction m with
  | zero =>
    intro c s3 hc F3 ho t3
    have : c = 16 := by omega
    subst this
    apply hP7
    exact ⟨fun _ => Hok ho s3 F3 t3, fun hh => absurd (by decide) hh⟩
  | succ m ih =>
    intro c s3 hc F3 ho t3
    have b3 : sI s3 139 15 = 0 := (F3.1 _ _ (by unfold dL; omega)).trans hb
    have p3 := hp.fr (s' := s3) (fun a i ha => F3.1 _ _ (by unfold dL; omega)) (fun a i h1 h2 => F3.2.1 _ _ (by unfold dL; omega))
    apply hP7
    rw [nI_leU (by omega) (by omega)]
    refine ⟨fun hh => absurd hh (by omega), fun _ => ⟨fun hh => absurd b3 hh, fun _ => ?_⟩⟩
    refine k_divide (by omega) p3 hwf hl hres (fun s4 F4 r4 => ?_)
    have r4 : ∀ k, k < 9 → rwM s4 k (dimL ps c k) := r4
    have FL4 : frM dL s s4 := F3.trans ⟨fun a i hd => F4.1 _ _ (fun hh => hd (by unfold dL; omega)) (fun hh => hd (by unfold dL; omega)), fun a i _ => F4.2.1 _ _, F4.2.2⟩
    have lt4 : ltM s4 ps c 0 := by
      refine ⟨(F4.1 _ _ (by omega) (by omega)).trans t3.1, fun c' j hh => ?_⟩
      have := t3.2 c' j hh
      refine ⟨(F4.1 _ _ (by omega) (by omega)).trans this.1, fun d hd => (F4.1 _ _ (by omega) (by omega)).trans (this.2 d hd)⟩
    have lt4' : sI s4 139 47 = nI (offs ps c) := lt4.1
    have dm : ∀ k, k < 9 → sI s4 169 k = nI (ln ps c k) := fun k hk => (r4 k hk).1
    intro P30 hP30
    -- the product
    suffices hPr : ∀ (r k : Nat) (v : Nat), k + r = 9 → (v = prD ps c k ∨ (512 < v ∧ 512 < prD ps c k)) → v ≤ 786944 → P30 (Int64.ofInt (v : Int)) (nI k) from
      hPr 9 0 1 (by omega) (Or.inl rfl) (by omega)
    intro r
    induction r with
    | succ r ihr =>
      intro k v hk hv hvb
      have hlk := ln_le hwf hl c k
      have hlk1 := ln_pos ps c k
      apply hP30
      rw [nI_leU (by omega) (by omega)]
      refine ⟨fun hh => absurd hh (by omega), fun _ => ?_⟩
      intro P59 hP59
      have go : ∀ w : Nat, (w = prD ps c (k + 1) ∨ (512 < w ∧ 512 < prD ps c (k + 1))) → w ≤ 786944 → P59 (Int64.ofInt (w : Int)) := by
        intro w hw hwb
        apply hP59
        intro x35 e35; subst e35; rw [nI_s]
        exact ihr (k + 1) w (by omega) hw hwb
      have hmono : prD ps c k ≤ prD ps c (k + 1) := prD_mono ps c (by omega)
      rw [lgc_le0, oJ_toInt (by omega) (by omega), show ((512 : Int64)).toInt = 512 from rfl, nI_ix (n := k) (by omega), dm k (by omega)]
      refine ⟨fun hle => ⟨nI_inU (by omega) (by omega), ?_⟩, fun hgt => go v (Or.inr ⟨by omega, by omega⟩) hvb⟩
      have hv' : v = prD ps c k := by omega
      have e3 : Int64.ofInt (v : Int) * (nI (ln ps c k)).toInt64 = Int64.ofInt ((v * ln ps c k : Nat) : Int) := by
        rw [oJ_nI (by omega), ← Int64.ofInt_mul]; rfl
      rw [e3]
      refine go _ (Or.inl (by rw [hv']; rfl)) ?_
      have : v * ln ps c k ≤ 512 * 1537 := Nat.mul_le_mul (by omega) hlk
      omega
    | zero =>
      intro k v hk hv hvb
      have hk9 : k = 9 := by omega
      subst hk9
      have hv : v = nLet ps c ∨ (512 < v ∧ 512 < nLet ps c) := hv
      apply hP30
      refine ⟨fun _ => ?_, fun hh => absurd (by decide) hh⟩
      have e3 : (nI (offs ps c)).toInt64 + Int64.ofInt (v : Int) = Int64.ofInt ((offs ps c + v : Nat) : Int) := by
        rw [oJ_nI (by omega), ← Int64.ofInt_add]; rfl
      rw [lt4', e3, lgc_le0, oJ_toInt (by omega) (by omega), show ((512 : Int64)).toInt = 512 from rfl]
      refine ⟨fun hle => ?_, fun hgt => ?_⟩
      · have hv' : v = nLet ps c := by omega
        subst hv'
        intro P94 hP94
        -- the letters of this call
        suffices hI : ∀ (q i : Nat) (s8 : yS), i + q = nLet ps c → frM dL s s8 → (∀ k, k < 9 → rwM s8 k (dimL ps c k)) → ltM s8 ps c i → P94 (nI i) s8 from
          hI (nLet ps c) 0 s4 (by omega) FL4 r4 lt4
        intro q
        induction q with
        | zero =>
          intro i s8 hi F8 r8 t8
          apply hP94
          rw [lgc_ge0, oJ_nI (by omega), oJ_toInt (by omega) (by omega), oJ_toInt (by omega) (by omega)]
          refine ⟨fun _ => ?_, fun hh => absurd (by omega) hh⟩
          intro x9 e9; subst e9; rw [nI_s]
          refine ih (c + 1) s8 (by omega) F8 (by show offs ps c + nLet ps c ≤ 512; omega) ⟨?_, fun c' j hh => t8.2 c' j ?_⟩
          · rw [t8.1]; show _ = nI (offs ps c + nLet ps c + 0); congr 1; omega
          · rcases hh with hh | hh
            · by_cases cc : c' = c
              · right; exact ⟨cc, by rw [cc] at hh; omega⟩
              · left; omega
            · omega
        | succ q ihq =>
          intro i s8 hi F8 r8 t8
          have hlet : offs ps c + i < 512 := by omega
          apply hP94
          rw [lgc_ge0, oJ_nI (b := i) (by omega), oJ_toInt (by omega) (by omega), oJ_toInt (by omega) (by omega), t8.1, nI_ix (n := offs ps c + i) (by omega)]
          refine ⟨fun hh => absurd hh (by omega), fun _ => ⟨nI_inU hlet (by omega), ?_⟩⟩
          intro s11 e11 P120 hP120
          have F11 : frM dL s s11 := by subst e11; exact F8.wI (by unfold dL; omega)
          have r11 : ∀ k, k < 9 → rwM s11 k (dimL ps c k) := fun k hk => ⟨by subst e11; rw [sI_w, if_neg (by omega)]; exact (r8 k hk).1, fun j hj => by subst e11; rw [sI_w, if_neg (by omega)]; exact (r8 k hk).2 j hj⟩
          have n11 : sI s11 139 47 = nI (offs ps c + i) := by subst e11; rw [sI_w, if_neg (by omega)]; exact t8.1
          have t11 : ∀ c' j, (c' < c ∧ j < nLet ps c' ∨ c' = c ∧ j < i) → (sI s11 165) (offs ps c' + j) = nI c' ∧ ∀ d, d < 9 → (sI s11 166) (9 * (offs ps c' + j) + d) = Int32.ofInt (low ps c' j d) := by
            intro c' j hh
            have := t8.2 c' j hh
            have hne : offs ps c' + j ≠ offs ps c + i := by
              rcases hh with hh | hh
              · have h1 : offs ps (c' + 1) ≤ offs ps c := offs_mono ps (by omega)
                have h2 : offs ps (c' + 1) = offs ps c' + nLet ps c' := rfl
                omega
              · rw [hh.1]; omega
            refine ⟨by subst e11; rw [sI_w, if_neg (by omega)]; exact this.1, fun d hd => by subst e11; rw [sI_w, if_neg (by omega)]; exact this.2 d hd⟩
          have c11 : sI s11 165 (offs ps c + i) = nI c := by subst e11; rw [sI_w, if_pos ⟨rfl, rfl⟩]
          clear e11
          -- the dimensions, from the last on
          suffices hD : ∀ (u t : Nat) (s14 : yS), t + u = 9 → frM dL s s14 → (∀ a i, ¬ (a = 166 ∧ 9 * (offs ps c + i) ≤ i ∧ False) → a ≠ 166 → a ≠ 167 → sI s14 a i = sI s11 a i) → (∀ x, (x < 9 * (offs ps c + i) ∨ 9 * (offs ps c + i) + 9 ≤ x) → sI s14 166 x = sI s11 166 x) → (∀ d, d < 9 → 9 ≤ d + t → sI s14 166 (9 * (offs ps c + i) + d) = Int32.ofInt (low ps c i d)) → P120 (nI (rst ps c i t)) (nI 8 - nI t) s14 by
            refine hD 9 0 s11 (by omega) F11 (fun _ _ _ _ _ => rfl) (fun _ _ => rfl) (fun d hd h => by omega)
          intro u
          induction u with
          | zero =>
            intro t s14 ht F14 f14 g14 v14
            have : t = 9 := by omega
            subst this
            apply hP120
            have hneg : nI 8 - nI 9 < 0 := by decide
            refine ⟨fun _ => ?_, fun hh => absurd hneg hh⟩
            intro s15 e15 x16 e16
            subst e16; rw [nI_s]
            have n14 : sI s14 139 47 = nI (offs ps c + i) := (f14 _ _ (by omega) (by omega) (by omega)).trans n11
            rw [n14, nI_s] at e15
            refine ihq (i + 1) s15 (by omega) ?_ (fun k hk => ?_) ⟨?_, fun c' j hh => ?_⟩
            · subst e15; exact F14.wI (Or.inl ⟨rfl, rfl⟩)
            · refine ⟨by subst e15; rw [sI_w, if_neg (by omega), f14 _ _ (by omega) (by omega) (by omega)]; exact (r11 k hk).1, fun j hj => by subst e15; rw [sI_w, if_neg (by omega), f14 _ _ (by omega) (by omega) (by omega)]; exact (r11 k hk).2 j hj⟩
            · subst e15; rw [sI_w, if_pos ⟨rfl, rfl⟩]; rfl
            · by_cases cn : c' = c ∧ j = i
              · obtain ⟨rfl, rfl⟩ := cn
                refine ⟨by subst e15; rw [sI_w, if_neg (by omega), f14 _ _ (by omega) (by omega) (by omega)]; exact c11, fun d hd => by subst e15; rw [sI_w, if_neg (by omega)]; exact v14 d hd (by omega)⟩
              · have hh' : c' < c ∧ j < nLet ps c' ∨ c' = c ∧ j < i := by omega
                have := t11 c' j hh'
                have hne : offs ps c' + j < offs ps c + i := by
                  rcases hh' with hh | hh
                  · have h1 : offs ps (c' + 1) ≤ offs ps c := offs_mono ps (by omega)
                    have h2 : offs ps (c' + 1) = offs ps c' + nLet ps c' := rfl
                    omega
                  · rw [hh.1]; omega
                refine ⟨by subst e15; rw [sI_w, if_neg (by omega), f14 _ _ (by omega) (by omega) (by omega)]; exact this.1, fun d hd => by subst e15; rw [sI_w, if_neg (by omega), g14 _ (by omega)]; exact this.2 d hd⟩
          | succ u ihu =>
            intro t s14 ht F14 f14 g14 v14
            have hsub : nI 8 - nI t = nI (8 - t) := nI_sub (by omega)
            have hlk := ln_le hwf hl c (8 - t)
            have hlk1 := ln_pos ps c (8 - t)
            have hrst := rst_le ps c i t
            have n14 : sI s14 139 47 = nI (offs ps c + i) := (f14 _ _ (by omega) (by omega) (by omega)).trans n11
            have r14 : rwM s14 (8 - t) (dimL ps c (8 - t)) := ⟨(f14 _ _ (by omega) (by omega) (by omega)).trans (r11 _ (by omega)).1, fun j hj => (f14 _ _ (by omega) (by omega) (by omega)).trans ((r11 _ (by omega)).2 j hj)⟩
            have d14 : sI s14 169 (8 - t) = nI (ln ps c (8 - t)) := r14.1
            have p14 := hp.fr (s' := s14) (fun a i ha => F14.1 _ _ (by unfold dL; omega)) (fun a i h1 h2 => F14.2.1 _ _ (by unfold dL; omega))
            have c14 : sI s14 139 19 = nI (pC ps).length := p14.1.1
            apply hP120
            rw [hsub, nI_ix (n := 8 - t) (by omega), d14]
            have hnz : ¬ nI (ln ps c (8 - t)) = 0 := by rw [nI_0U, nI_inj (by omega) (by omega)]; omega
            have hnn : ¬ nI (8 - t) < 0 := nI_nneg (by omega)
            rw [nI_mod (by omega) (by omega), nI_div (by omega) (by omega)]
            refine ⟨fun hh => absurd hh hnn, fun _ => ⟨nI_inU (by omega) (by omega), hnz, ?_⟩⟩
            intro x19 e19
            refine ⟨nI_inU (by omega) (by omega), hnz, ?_⟩
            intro x22 e22
            subst e19; subst e22
            have hmod : rst ps c i t % ln ps c (8 - t) < ln ps c (8 - t) := Nat.mod_lt _ (by omega)
            have hrst1 : rst ps c i (t + 1) = rst ps c i t / ln ps c (8 - t) := rfl
            generalize hkm : rst ps c i t % ln ps c (8 - t) = km at hmod
            have hlow : low ps c i (8 - t) = if real ps c (8 - t) then (dimL ps c (8 - t)).getD km 0 else 0 := by
              unfold low; rw [show 8 - (8 - t) = t by omega, hkm]
            intro P187 hP187
            -- what is put
            have put : ∀ (y23 : Int32), (y23 = 0 ∧ real ps c (8 - t) = false ∨ y23 = 1 ∧ real ps c (8 - t) = true) → P187 y23 := by
              intro y23 hy
              apply hP187
              intro P226 hP226
              have h226 : P226 (Int32.ofInt (low ps c i (8 - t))) := by
                apply hP226
                rw [n14, nI_mul, nI_addU, nI_ix (n := 9 * (offs ps c + i) + (8 - t)) (by omega)]
                refine ⟨nI_inU (by omega) (by omega), ?_⟩
                intro s26 e26 P258 hP258
                have any : ∀ y27 : Int32, P258 y27 := by
                  intro y27
                  apply hP258
                  have n26 : sI s26 139 47 = nI (offs ps c + i) := by subst e26; rw [sI_w, if_neg (by omega)]; exact n14
                  rw [n26, nI_mul, nI_addU, nI_ix (n := 9 * (offs ps c + i) + (8 - t)) (by omega)]
                  refine ⟨nI_inU (by omega) (by omega), ?_⟩
                  intro s29 e29 x30 e30
                  have ex : x30 = nI 8 - nI (t + 1) := by
                    subst e30
                    have h2 : (-1 : Int32).toInt = -1 := rfl
                    rw [← Int32.toInt_inj, i_add, i_sub, nI_toIntU (n := 8 - t) (by omega), nI_toIntU (n := 8) (by omega), nI_toIntU (n := t + 1) (by omega), h2]; omega
                  subst ex
                  rw [← hrst1]
                  refine ihu (t + 1) s29 (by omega) ?_ (fun a x h1 h2 h3 => ?_) (fun x hx => ?_) (fun d hd hdt => ?_)
                  · subst e29; subst e26; exact (F14.wI (by unfold dL; omega)).wI (by unfold dL; omega)
                  · subst e29; subst e26; rw [sI_w, if_neg (by omega), sI_w, if_neg (by omega)]; exact f14 a x h1 h2 h3
                  · subst e29; subst e26; rw [sI_w, if_neg (by omega), sI_w, if_neg (by omega)]; exact g14 x hx
                  · subst e29; subst e26
                    by_cases cd : d = 8 - t
                    · subst cd; rw [sI_w, if_neg (by omega), sI_w, if_pos ⟨rfl, rfl⟩]
                    · rw [sI_w, if_neg (by omega), sI_w, if_neg (by omega)]; exact v14 d hd (by omega)
                refine ⟨fun _ => any _, fun _ => ?_⟩
                have r26 : rwM s26 (8 - t) (dimL ps c (8 - t)) := ⟨by subst e26; rw [sI_w, if_neg (by omega)]; exact r14.1, fun j hj => by subst e26; rw [sI_w, if_neg (by omega)]; exact r14.2 j hj⟩
                have p26 := p14.fr (s' := s26) (fun a i ha => by subst e26; rw [sI_w, if_neg (by omega)]) (fun a i _ _ => by subst e26; rfl)
                exact k_greatest (by omega) hmod hlk r26 p26 l1 any
              rcases hy with ⟨hy, hr⟩ | ⟨hy, hr⟩
              · subst hy
                refine ⟨fun _ => ?_, fun hz => absurd rfl hz⟩
                rw [hlow, hr] at h226; exact h226
              · subst hy
                refine ⟨fun hz => absurd hz (by decide), fun _ => ?_⟩
                rw [nI_mul, nI_addU, nI_ix (n := 2000 * (8 - t) + km) (by omega), r14.2 km hmod]
                refine ⟨nI_inU (by omega) (by omega), ?_⟩
                rw [hlow, hr] at h226
                simp only [if_true] at h226
                rw [getD_at hmod] at h226; exact h226
            rw [nI_leU (by omega) (by omega)]
            refine ⟨fun h3 => ?_, fun h3 => ?_⟩
            · rw [nI_sub (by omega), c14, nI_leU (by omega) (by omega)]
              refine ⟨fun h4 => put 0 (Or.inl ⟨rfl, ?_⟩), fun h4 => put 1 (Or.inr ⟨rfl, ?_⟩)⟩
              · unfold real; rw [if_neg (by omega)]; simp; omega
              · unfold real; rw [if_neg (by omega)]; simp; omega
            · rw [nI_mod (by omega) (by omega), nI_leU (by omega) (by omega)]
              refine ⟨fun h4 => put 0 (Or.inl ⟨rfl, ?_⟩), fun h4 => put 1 (Or.inr ⟨rfl, ?_⟩)⟩
              · unfold real; rw [if_pos (by omega)]; simp; omega
              · unfold real; rw [if_pos (by omega)]; simp; omega
      · have h16 : 512 < offs ps 16 := by
          have h1 : offs ps (c + 1) ≤ offs ps 16 := offs_mono ps (by omega)
          have h2 : offs ps (c + 1) = offs ps c + nLet ps c := rfl
          omega
        have t4 : sI s4 139 9 = nI n := (FL4.1 _ _ (by unfold dL; omega)).trans htx
        have b4 : sI s4 139 15 = 0 := (FL4.1 _ _ (by unfold dL; omega)).trans hb
        rw [t4]
        refine k_wrong (fun hh => absurd b4 hh) (fun _ => Herr h16 _ ?_ ?_ ?_)
        · exact ((FL4.mono (fun a i h => by unfold dL at h; unfold dLe; omega)).wI (by unfold dLe; omega)).wI (by unfold dLe; omega)
        · rw [sI_w, if_neg (by omega), sI_w, if_pos ⟨rfl, rfl⟩]
        · rw [sI_w, if_pos ⟨rfl, rfl⟩]
end
