theorem ce_init (l : Nat) (hl : l ≤ 400) : i_Rel 1 (nI l, 0, 0, 0, 0, 0, 0, 0, 0, 0, 0, 0, 0, 0, (fun _ => 0), (fun _ => 0), (fun _ => 0), (fun _ => 0), (fun _ => 0), (fun _ => 0), (fun _ => 0), (fun _ => 0), (fun _ => 0), (fun _ => 0), (fun _ => 0), (fun _ => 0), (fun _ => 0), (fun _ => 0), (fun _ => 0), (fun _ => 0), (fun _ => 0), (fun _ => 0), (fun _ => 0), (fun _ => 0), (fun _ => 0)) (nI l, 0, 0, 0, 0, 0, 0, 0, 0, 0, 0, 0, 0, 0, (fun _ => 0), (fun _ => 0), (fun _ => 0), (fun _ => 0), (fun _ => 0), (fun _ => 0), (fun _ => 0), (fun _ => 0), (fun _ => 0), (fun _ => 0), (fun _ => 0), (fun _ => 0), (fun _ => 0), (fun _ => 0), (fun _ => 0), (fun _ => 0), (fun _ => 0), (fun _ => 0), (fun _ => 0), (fun _ => 0), (fun _ => 0), (fun _ => 0), (fun _ => 0)) :=
  ⟨l, 0, 0, 0, _, _, _, _, _, _, _, _, _, _, _, _, _, _, _, _, _, _, _, _, _, _, _, _, _, _, _, _, _, _, rfl, _, _, _, _, _, _, _, _, _, _, _, _, _, _, _, _, _, _, _, _, _, _, _, _, _, _, rfl, hl, by omega, fun _ _ => ⟨0, by omega, rfl, fun i hi => absurd hi (by omega)⟩, fun _ _ => ⟨0, by omega, rfl⟩, by omega, by omega, fun _ _ => rfl, fun n hn => absurd hn (by omega), fun n hn => absurd hn (by omega)⟩
theorem i_vc0 (k0 : Int32) : wpX_init (fun u => wpY_init (fun v => i_Rel 1 u v) k0) k0 := by
  unfold wpX_init wpY_init
  by_cases h : 20 ≤ k0
  · by_cases h2 : k0 ≤ 400
    · obtain ⟨l, hl, rfl⟩ := nI_of2 (M := 400) (n := 400) (by decide) (fun z => absurd (Int32.lt_of_le_of_lt h z) (by decide)) h2
      exact br_t h (br_t h2 (br_t h (br_t h2 (ce_init l hl))))
    · exact br_t h (br_f h2 (br_t h (br_f h2 (ce_init 400 (by omega)))))
  · exact br_f h (br_f h (ce_init 20 (by omega)))
