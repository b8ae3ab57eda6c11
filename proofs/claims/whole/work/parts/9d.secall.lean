/-! the check, run by the kernel over all sectors -/
noncomputable def bgS (N r m g : Nat) : Bool := [5020, 5030, 6020, 6021, 6030, 6031, 6040, 6041, 7021, 7051, 8130, 8131, 8140, 8141, 8150, 8151].contains (N * 1000 + r * 100 + m * 10 + g)
theorem scK_sm : (List.range 9).all (fun N => Nat.ble N 1 || (List.range 2).all (fun r => (List.range (N + 1)).all (fun m => (List.range 2).all (fun g => bgS N r m g || scK N r m g)))) = true := by decide +kernel
theorem scK_5020 : scK 5 0 2 0 = true := by decide +kernel
theorem scK_5030 : scK 5 0 3 0 = true := by decide +kernel
theorem scK_6020 : scK 6 0 2 0 = true := by decide +kernel
theorem scK_6021 : scK 6 0 2 1 = true := by decide +kernel
theorem scK_6030 : scK 6 0 3 0 = true := by decide +kernel
theorem scK_6031 : scK 6 0 3 1 = true := by decide +kernel
theorem scK_6040 : scK 6 0 4 0 = true := by decide +kernel
theorem scK_6041 : scK 6 0 4 1 = true := by decide +kernel
theorem scK_7021 : scK 7 0 2 1 = true := by decide +kernel
theorem scK_7051 : scK 7 0 5 1 = true := by decide +kernel
theorem scK_8130 : scK 8 1 3 0 = true := by decide +kernel
theorem scK_8131 : scK 8 1 3 1 = true := by decide +kernel
theorem scK_8140 : scK 8 1 4 0 = true := by decide +kernel
theorem scK_8141 : scK 8 1 4 1 = true := by decide +kernel
theorem scK_8150 : scK 8 1 5 0 = true := by decide +kernel
theorem scK_8151 : scK 8 1 5 1 = true := by decide +kernel
theorem scK_all {N r m g : Nat} (h2 : 2 ≤ N) (hN : N ≤ 8) (hr : r ≤ 1) (hm : m ≤ N) (hg : g ≤ 1) : scK N r m g = true := by
  have h1 := List.all_eq_true.mp scK_sm N (List.mem_range.mpr (by omega))
  rw [Bool.or_eq_true] at h1
  rcases h1 with h1 | h1
  · exact absurd (Nat.le_of_ble_eq_true h1) (by omega)
  have h3 := List.all_eq_true.mp (List.all_eq_true.mp (List.all_eq_true.mp h1 r (List.mem_range.mpr (by omega))) m (List.mem_range.mpr (by omega))) g (List.mem_range.mpr (by omega))
  rw [Bool.or_eq_true] at h3
  rcases h3 with h3 | h3
  · have h4 := List.contains_iff_mem.mp h3
    simp only [List.mem_cons, List.not_mem_nil, or_false] at h4
    have key : ∀ {a b c d : Nat}, b ≤ 1 → c ≤ 8 → d ≤ 1 → N * 1000 + r * 100 + m * 10 + g = a * 1000 + b * 100 + c * 10 + d → N = a ∧ r = b ∧ m = c ∧ g = d := by omega
    rcases h4 with h4 | h4 | h4 | h4 | h4 | h4 | h4 | h4 | h4 | h4 | h4 | h4 | h4 | h4 | h4 | h4
    · obtain ⟨rfl, rfl, rfl, rfl⟩ := key (a := 5) (b := 0) (c := 2) (d := 0) (by decide) (by decide) (by decide) h4
      exact scK_5020
    · obtain ⟨rfl, rfl, rfl, rfl⟩ := key (a := 5) (b := 0) (c := 3) (d := 0) (by decide) (by decide) (by decide) h4
      exact scK_5030
    · obtain ⟨rfl, rfl, rfl, rfl⟩ := key (a := 6) (b := 0) (c := 2) (d := 0) (by decide) (by decide) (by decide) h4
      exact scK_6020
    · obtain ⟨rfl, rfl, rfl, rfl⟩ := key (a := 6) (b := 0) (c := 2) (d := 1) (by decide) (by decide) (by decide) h4
      exact scK_6021
    · obtain ⟨rfl, rfl, rfl, rfl⟩ := key (a := 6) (b := 0) (c := 3) (d := 0) (by decide) (by decide) (by decide) h4
      exact scK_6030
    · obtain ⟨rfl, rfl, rfl, rfl⟩ := key (a := 6) (b := 0) (c := 3) (d := 1) (by decide) (by decide) (by decide) h4
      exact scK_6031
    · obtain ⟨rfl, rfl, rfl, rfl⟩ := key (a := 6) (b := 0) (c := 4) (d := 0) (by decide) (by decide) (by decide) h4
      exact scK_6040
    · obtain ⟨rfl, rfl, rfl, rfl⟩ := key (a := 6) (b := 0) (c := 4) (d := 1) (by decide) (by decide) (by decide) h4
      exact scK_6041
    · obtain ⟨rfl, rfl, rfl, rfl⟩ := key (a := 7) (b := 0) (c := 2) (d := 1) (by decide) (by decide) (by decide) h4
      exact scK_7021
    · obtain ⟨rfl, rfl, rfl, rfl⟩ := key (a := 7) (b := 0) (c := 5) (d := 1) (by decide) (by decide) (by decide) h4
      exact scK_7051
    · obtain ⟨rfl, rfl, rfl, rfl⟩ := key (a := 8) (b := 1) (c := 3) (d := 0) (by decide) (by decide) (by decide) h4
      exact scK_8130
    · obtain ⟨rfl, rfl, rfl, rfl⟩ := key (a := 8) (b := 1) (c := 3) (d := 1) (by decide) (by decide) (by decide) h4
      exact scK_8131
    · obtain ⟨rfl, rfl, rfl, rfl⟩ := key (a := 8) (b := 1) (c := 4) (d := 0) (by decide) (by decide) (by decide) h4
      exact scK_8140
    · obtain ⟨rfl, rfl, rfl, rfl⟩ := key (a := 8) (b := 1) (c := 4) (d := 1) (by decide) (by decide) (by decide) h4
      exact scK_8141
    · obtain ⟨rfl, rfl, rfl, rfl⟩ := key (a := 8) (b := 1) (c := 5) (d := 0) (by decide) (by decide) (by decide) h4
      exact scK_8150
    · obtain ⟨rfl, rfl, rfl, rfl⟩ := key (a := 8) (b := 1) (c := 5) (d := 1) (by decide) (by decide) (by decide) h4
      exact scK_8151
  · exact h3
theorem tab_ok {N r m g : Nat} {e d : Int32} (h2 : 2 ≤ N) (hN : N ≤ 8) (hr : r ≤ 1) (hm : m ≤ N) (hg : g ≤ 1) (he1 : 1 ≤ e.toInt) (he2 : e.toInt ≤ 4) (hd1 : -2 ≤ d.toInt) (hd2 : d.toInt ≤ 2) (hn : (hdL N r m g).length ≤ 10) : tabOk (tbV N r e d m g) (hdL N r m g).length := sec_tab hN hg he1 he2 hd1 hd2 hn (scK_all h2 hN hr hm hg)
