theorem bsel {v : Int32} {P : Int32 → Prop} (H : P (if v = 0 then 0 else 1)) : (v = 0 → P 0) ∧ (¬ v = 0 → P 1) := by
  refine ⟨fun c => ?_, fun c => ?_⟩
  · rw [if_pos c] at H; exact H
  · rw [if_neg c] at H; exact H
theorem lgz (x : Int64) : lg_cmp x x = 0 := by
  unfold lg_cmp
  rw [if_neg (by intro h; exact absurd (Int64.lt_iff_toInt_lt.mp h) (Int.lt_irrefl _)), if_pos rfl]
set_option maxHeartbeats 4000000 in
theorem law_ok {s : yS} {L : Nat} {xs : Nat → Int32} (h : Iv s) (hL : L ≤ 2560) : W_L_law s L xs (fun r _ => r = 1) := by
  unfold W_L_law
  intro P18 hP18
  suffices hM : ∀ (w k : Nat) (t : yS), 5 * k ≤ L + 4 → L < 5 * (k + w) → Iv t → P18 (nI (5 * k)) t from hM (L + 1) 0 s (by omega) (by omega) h
  intro w
  induction w with
  | zero =>
    intro k t hk hw it
    apply hP18
    have : nI L - nI 5 < nI (5 * k) := by
      by_cases c5 : 5 ≤ L
      · rw [nI_sub c5, nI_ltU (by omega) (by omega)]; omega
      · have : ∀ L ∈ List.range 5, ∀ k ∈ List.range 2, nI L - nI 5 < nI (5 * k) := by decide
        exact this L (List.mem_range.mpr (by omega)) k (List.mem_range.mpr (by omega))
    exact ⟨fun _ => rfl, fun hz => absurd this hz⟩
  | succ w ih =>
  intro k t hk hw it
  apply hP18
  refine ⟨fun _ => rfl, fun hn => ?_⟩
  have h5 : 5 * k + 5 ≤ L := by
    apply Decidable.byContradiction
    intro hlt
    apply hn
    by_cases c5 : 5 ≤ L
    · rw [nI_sub c5, nI_ltU (by omega) (by omega)]; omega
    · have : ∀ L ∈ List.range 5, ∀ k ∈ List.range 2, nI L - nI 5 < nI (5 * k) := by decide
      exact this L (List.mem_range.mpr (by omega)) k (List.mem_range.mpr (by omega))
  have j0 : vp_in (nI (5 * k)) L := nI_inU (by omega) (by omega)
  have j1 : vp_in (nI (5 * k) + 1) L := by rw [nI_s]; exact nI_inU (by omega) (by omega)
  have j2 : vp_in (nI (5 * k) + nI 2) L := by rw [nI_addU]; exact nI_inU (by omega) (by omega)
  have j3 : vp_in (nI (5 * k) + nI 3) L := by rw [nI_addU]; exact nI_inU (by omega) (by omega)
  have j4 : vp_in (nI (5 * k) + nI 4) L := by rw [nI_addU]; exact nI_inU (by omega) (by omega)
  refine ⟨j0, ?_⟩
  intro P969 hP969
  have nx : ∀ s4, Iv s4 → P969 s4 := fun s4 i4 => hP969 s4 (fun x5 e5 => by
    subst e5
    rw [nI_addU]
    exact ih (k + 1) s4 (by omega) (by omega) i4)
  have eq : ∀ {α : Type} {r : α} {s4 : yS} {G : Prop}, Iv s4 → (r = r → P969 s4) ∧ (¬ r = r → G) := fun i4 => ⟨fun _ => nx _ i4, fun hz => absurd rfl hz⟩
  refine ⟨fun _ => nx t it, fun _ => ?_, fun _ => ?_, fun _ => ?_, fun _ => ?_, fun _ => ?_, fun _ => ?_, fun _ => ?_, fun _ => ?_, fun _ => ?_, fun _ => ?_, fun _ => ?_, fun _ => ?_, fun _ => ?_, fun _ => ?_, fun _ => ?_, fun _ => ?_, fun _ => ?_, fun _ => ?_, fun _ => ?_, fun _ => ?_, fun _ => ?_, fun _ => ?_, fun _ => ?_, fun _ => ?_⟩
  · exact ⟨j1, j2, j3, op_give it (fun r s1 K => ⟨j1, j2, j3, K _ (fun s2 i2 => eq i2)⟩)⟩
  · exact ⟨j1, op_cut it (fun r s1 K => ⟨j1, K _ (fun s2 i2 => eq i2)⟩)⟩
  · exact ⟨j1, j2, op_poke it (fun r s1 K => ⟨j1, j2, K _ (fun s2 i2 => eq i2)⟩)⟩
  · exact op_turn it (fun s1 K => K _ (fun s2 i2 => nx _ i2))
  · exact op_loadPol it (fun r s1 K => K _ (fun s2 i2 => eq i2))
  · exact op_loadP it (fun r s1 K => K _ (fun s2 i2 => eq i2))
  · refine ⟨j1, ?_⟩
    intro P hP
    exact bsel (hP _ (op_save it (fun r s1 K => ⟨j1, fun P2 hP2 => bsel (hP2 _ (K _ (fun s2 i2 => eq i2)))⟩)))
  · exact op_forge it (fun r s1 K => K _ (fun s2 i2 => eq i2))
  · refine ⟨j1, ?_⟩
    intro P hP
    exact bsel (hP _ (op_cert it (fun r s1 K => ⟨j1, fun P2 hP2 => bsel (hP2 _ (K _ (fun s2 i2 => eq i2)))⟩)))
  · exact ⟨j1, op_addA it (fun r s1 K => ⟨j1, K _ (fun s2 i2 => eq i2)⟩)⟩
  · exact op_dropA it (fun s1 K => K _ (fun s2 i2 => nx _ i2))
  · refine ⟨j1, ?_⟩
    intro P hP
    exact bsel (hP _ ⟨j2, op_run it (fun r s1 K => ⟨j1, fun P2 hP2 => bsel (hP2 _ ⟨j2, K _ (fun s2 i2 => eq i2)⟩)⟩)⟩)
  · exact ⟨j1, op_endOf it (fun r K => ⟨j1, K _ (fun s2 i2 => eq i2)⟩)⟩
  · exact ⟨j1, j2, op_traceAt it (fun r K => ⟨j1, j2, K _ (fun s2 i2 => eq i2)⟩)⟩
  · refine ⟨j1, j2, ?_⟩
    intro P hP
    exact bsel (hP _ (op_counterOf it (fun r K => ⟨j1, j2, fun P2 hP2 => bsel (hP2 _ (K _ (fun s2 i2 => eq i2)))⟩)))
  · exact op_resetW it (fun s1 K => K _ (fun s2 i2 => nx _ i2))
  · exact ⟨j1, j2, j3, j4, op_watch it (fun r s1 K => ⟨j1, j2, j3, j4, K _ (fun s2 i2 => eq i2)⟩)⟩
  · exact ⟨j1, j2, op_wayOf it (fun r K => ⟨j1, j2, K _ (fun s2 i2 => eq i2)⟩)⟩
  · exact ⟨j1, j2, op_letterOf it (fun r K => ⟨j1, j2, K _ (fun s2 i2 => eq i2)⟩)⟩
  · refine ⟨j1, ?_⟩
    intro P hP
    exact bsel (hP _ ⟨j2, j3, j4, op_codeOf it (fun r s1 K => ⟨j1, fun P2 hP2 => bsel (hP2 _ ⟨j2, j3, j4, K _ (fun s2 i2 => eq i2)⟩)⟩)⟩)
  · refine ⟨j1, ?_⟩
    intro P hP
    exact bsel (hP _ ⟨j2, j3, op_mayOf it (fun r s1 K => ⟨j1, fun P2 hP2 => bsel (hP2 _ ⟨j2, j3, K _ (fun s2 i2 => ⟨fun _ => nx _ i2, fun hz => absurd (lgz r) hz⟩)⟩)⟩)⟩)
  · refine ⟨j1, ?_⟩
    intro P hP
    exact bsel (hP _ ⟨j2, j3, op_funcOf it (fun r K => ⟨j1, fun P2 hP2 => bsel (hP2 _ ⟨j2, j3, K _ (fun s2 i2 => eq i2)⟩)⟩)⟩)
  · refine ⟨j1, j2, ?_⟩
    intro P hP
    exact bsel (hP _ (op_byteOf it (fun r K => ⟨j1, j2, fun P2 hP2 => bsel (hP2 _ (K _ (fun s2 i2 => eq i2)))⟩)))
  · exact ⟨j1, op_lookAt it (fun r K => ⟨j1, K _ (fun s2 i2 => eq i2)⟩)⟩
