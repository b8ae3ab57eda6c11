/-! bits counted by one look into a packed row -/
def popK : Nat := 95125173855764218123276304889944061997689682402263585766959741291920687686033329201817409157123347502415384089435969498586180241031507595463600295898153685276653211633572815512294064538494957912327413386667662218713394765509704508661031522276467630197481635010039778342554499416459730172574551513689147646224
theorem popc_fin : (List.range 256).all (fun s => decide (gX12_count (nI s) = some (nI (syg 4 popK s)) ∧ gJ6_bitCount_0f7a4 (nI s) = some (nI (syg 4 popK s)))) = true := by decide +kernel
theorem popc_ok {s : Nat} (hs : s < 256) : gX12_count (nI s) = some (nI (syg 4 popK s)) ∧ gJ6_bitCount_0f7a4 (nI s) = some (nI (syg 4 popK s)) := of_decide_eq_true (List.all_eq_true.mp popc_fin s (List.mem_range.mpr hs))
noncomputable def sX12_count (c0 : Nat) : Option (Nat) := syc (Nat.ble 256 (Nat.mod c0 4294967296)) none (some (syg 4 popK (Nat.mod c0 4294967296)))
noncomputable def sJ6_bitCount_0f7a4 (c0 : Nat) : Option (Nat) := syc (Nat.ble 256 (Nat.mod c0 4294967296)) none (some (syg 4 popK (Nat.mod c0 4294967296)))
theorem sX12_count_ok {x0 : Int32} {c0 : Nat} (q0 : yI x0 c0) : Sm (fun b a => yI a b) (sX12_count c0) (gX12_count x0) := by
  intro b hb
  rcases syc_s hb with ⟨_, h1⟩ | ⟨h1, h2⟩
  · cases h1
  · cases h2
    have h3 : x0 = nI (Nat.mod c0 4294967296) := yI_mod q0
    rw [h3, (popc_ok (sy_nle h1)).1]
    exact ⟨_, rfl, rfl⟩
theorem sJ6_bitCount_0f7a4_ok {x0 : Int32} {c0 : Nat} (q0 : yI x0 c0) : Sm (fun b a => yI a b) (sJ6_bitCount_0f7a4 c0) (gJ6_bitCount_0f7a4 x0) := by
  intro b hb
  rcases syc_s hb with ⟨_, h1⟩ | ⟨h1, h2⟩
  · cases h1
  · cases h2
    have h3 : x0 = nI (Nat.mod c0 4294967296) := yI_mod q0
    rw [h3, (popc_ok (sy_nle h1)).2]
    exact ⟨_, rfl, rfl⟩
