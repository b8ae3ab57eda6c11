/-! the chain as a sum of words: asChain, kept -/
def jN (c : Nat) : Int64 := Int64.ofNat c
theorem jN_s (c : Nat) : jN (c + 1) = jN c + 1 := Int64.ofNat_add c 1
theorem nI_j {c : Nat} (hc : c < 2 ^ 31) : (nI c).toInt64 = jN c := by
  apply Int64.toInt_inj.mp
  rw [Int32.toInt_toInt64, nI_int hc]
  show _ = (Int64.ofNat c).toInt
  rw [Int64.toInt_ofNat_of_lt (by omega)]
def bothN (N p : Nat) : Nat := 2 ^ p ^^^ 2 ^ ((p + 1) % N)
theorem both_fin : ∀ N, 2 ≤ N → N ≤ 8 → ∀ p, p < 8 → (2 ^ p ||| 2 ^ ((p + 1) % N)) = bothN N p ∧ (p < N → 1 ≤ bothN N p ∧ bothN N p < 2 ^ N) := by
  have h : (List.range 9).all (fun N => (List.range 8).all (fun p => decide (2 ≤ N → p < N → (2 ^ p ||| 2 ^ ((p + 1) % N)) = bothN N p ∧ (1 ≤ bothN N p ∧ bothN N p < 2 ^ N)))) = true := by decide +kernel
  intro N h2 h8 p hp
  have := of_decide_eq_true (List.all_eq_true.mp (List.all_eq_true.mp h N (List.mem_range.mpr (by omega))) p (List.mem_range.mpr hp)) h2
  by_cases hpN : p < N
  · exact ⟨(this hpN).1, fun _ => (this hpN).2⟩
  · have hf : (List.range 9).all (fun N => (List.range 8).all (fun p => decide (2 ≤ N → N ≤ p → (2 ^ p ||| 2 ^ ((p + 1) % N)) = bothN N p))) = true := by decide +kernel
    exact ⟨of_decide_eq_true (List.all_eq_true.mp (List.all_eq_true.mp hf N (List.mem_range.mpr (by omega))) p (List.mem_range.mpr hp)) h2 (by omega), fun hh => absurd hh hpN⟩
theorem cCnt_sc (N P b : Nat) : cCnt N (P + 1) b = cCnt N P b + (if bothN N P = b then 1 else 0) := by
  unfold cCnt
  rw [List.range_succ, List.filter_append, List.length_append]
  congr 1
  by_cases h : bothN N P = b
  · rw [if_pos h, List.filter_cons_of_pos (by show Nat.beq (bothN N P) b = true; rw [h]; exact Nat.beq_refl b)]; rfl
  · rw [if_neg h, List.filter_cons_of_neg (by intro hh; exact h (Nat.eq_of_beq_eq_true hh))]; rfl
theorem cCnt_le (N b : Nat) : ∀ P, cCnt N P b ≤ P
  | 0 => Nat.le_refl _
  | P + 1 => by
    have := cCnt_le N b P
    rw [cCnt_sc]
    split <;> omega
theorem cCnt_out {N : Nat} (h2 : 2 ≤ N) (h8 : N ≤ 8) {b : Nat} (hb : b = 0 ∨ 2 ^ N ≤ b) : ∀ P, P ≤ N → cCnt N P b = 0
  | 0, _ => rfl
  | P + 1, hP => by
    rw [cCnt_sc, cCnt_out h2 h8 hb P (by omega), if_neg]
    intro e
    have := (both_fin N h2 h8 P (by omega)).2 (by omega)
    omega
/-- what the pairs of the chain bring -/
def chW (N : Nat) (e d : Int64) : Nat → List (Nat × Int64)
  | 0 => []
  | p + 1 => chW N e d p ++ [(256 * bothN N p, e)] ++ [(256 * bothN N p + bothN N p, e)] ++ [(bothN N p, d)]
theorem chW_len (N : Nat) (e d : Int64) : ∀ P, (chW N e d P).length = 3 * P
  | 0 => rfl
  | P + 1 => by
    show (chW N e d P ++ _ ++ _ ++ _).length = _
    rw [List.length_append, List.length_append, List.length_append, chW_len N e d P]; simp; omega
def chF (e d : Int64) (c : Nat → Nat) (x : Nat) : Int64 := d * jN (c x) + (if x % 256 = 0 then e * jN (c (x / 256)) else 0) + (if x / 256 = x % 256 then e * jN (c (x / 256)) else 0)
theorem chW_at {N : Nat} (h2 : 2 ≤ N) (h8 : N ≤ 8) (e d : Int64) (x : Nat) : ∀ P, P ≤ N → sAt (chW N e d P) x = chF e d (fun b => cCnt N P b) x
  | 0, _ => by
    have z : jN (cCnt N 0 x) = 0 := rfl
    have z2 : jN (cCnt N 0 (x / 256)) = 0 := rfl
    show (0 : Int64) = d * jN (cCnt N 0 x) + _ + _
    rw [z, z2]
    split <;> split <;> grind
  | P + 1, hP => by
    have ih := chW_at h2 h8 e d x P (by omega)
    obtain ⟨b1, b2⟩ := (both_fin N h2 h8 P (by omega)).2 (by omega)
    have hN : 2 ^ N ≤ 256 := Nat.pow_le_pow_right (by decide) h8
    show sAt (chW N e d P ++ _ ++ _ ++ _) x = _
    rw [sAt_app, sAt_app, sAt_app, ih]
    show chF e d (fun b => cCnt N P b) x + ((if 256 * bothN N P = x then e else 0) + 0) + ((if 256 * bothN N P + bothN N P = x then e else 0) + 0) + ((if bothN N P = x then d else 0) + 0) = chF e d (fun b => cCnt N (P + 1) b) x
    unfold chF
    have hs : ∀ y, jN (cCnt N (P + 1) y) = jN (cCnt N P y) + (if bothN N P = y then 1 else 0) := fun y => by
      rw [cCnt_sc]
      by_cases h : bothN N P = y
      · rw [if_pos h, if_pos h, jN_s]
      · rw [if_neg h, if_neg h, Nat.add_zero]; grind
    have k1 : (if 256 * bothN N P = x then e else 0) = (if x % 256 = 0 then e * (if bothN N P = x / 256 then 1 else 0) else 0) := by
      by_cases hA : x % 256 = 0
      · rw [if_pos hA]
        by_cases hB : bothN N P = x / 256
        · rw [if_pos (by omega), if_pos hB]; grind
        · rw [if_neg (by omega), if_neg hB]; grind
      · rw [if_neg hA, if_neg (by omega)]
    have k2 : (if 256 * bothN N P + bothN N P = x then e else 0) = (if x / 256 = x % 256 then e * (if bothN N P = x / 256 then 1 else 0) else 0) := by
      by_cases hA : x / 256 = x % 256
      · rw [if_pos hA]
        by_cases hB : bothN N P = x / 256
        · rw [if_pos (by omega), if_pos hB]; grind
        · rw [if_neg (by omega), if_neg hB]; grind
      · rw [if_neg hA, if_neg (by omega)]
    have k3 : (if bothN N P = x then d else 0) = d * (if bothN N P = x then 1 else 0) := by split <;> grind
    simp only [hs]
    rw [k1, k2, k3]
    by_cases hA : x % 256 = 0
    · rw [if_pos hA, if_pos hA, if_pos hA]
      by_cases hB : x / 256 = x % 256
      · rw [if_pos hB, if_pos hB, if_pos hB]; grind
      · rw [if_neg hB, if_neg hB, if_neg hB]; grind
    · rw [if_neg hA, if_neg hA, if_neg hA]
      by_cases hB : x / 256 = x % 256
      · rw [if_pos hB, if_pos hB, if_pos hB]; grind
      · rw [if_neg hB, if_neg hB, if_neg hB]; grind
theorem small_mul {e : Int32} (he : 1 ≤ e.toInt ∧ e.toInt ≤ 4) {c : Nat} (hc : c ≤ 8) : (e * nI c).toInt64 = e.toInt64 * jN c := by
  rw [← nI_j (by omega)]
  apply Int64.toInt_inj.mp
  rw [Int32.toInt_toInt64, Int64.toInt_mul, Int32.toInt_toInt64, Int32.toInt_toInt64, Int32.toInt_mul, nI_int (by omega)]
  rcases (show e.toInt = 1 ∨ e.toInt = 2 ∨ e.toInt = 3 ∨ e.toInt = 4 by omega) with h | h | h | h <;> rw [h, Int.bmod_eq_of_le (by omega) (by omega), Int.bmod_eq_of_le (by omega) (by omega)]
theorem two_mul {d : Int32} (hd : -2 ≤ d.toInt ∧ d.toInt ≤ 2) : (2 * d).toInt64 = 2 * d.toInt64 := by
  apply Int64.toInt_inj.mp
  rw [Int32.toInt_toInt64, Int64.toInt_mul, Int32.toInt_toInt64, Int32.toInt_mul, show (2 : Int32).toInt = 2 from rfl, show (2 : Int64).toInt = 2 from rfl, Int.bmod_eq_of_le (by omega) (by omega), Int.bmod_eq_of_le (by omega) (by omega)]
/-- the reference's loop over pairs -/
theorem putChain_lp {I : Nat → Nat → Int32} (J : Nat → Nat → Int64) {N r : Nat} {e d : Int32} (hc : mcAt (mH I J) N r e d) (h2 : 2 ≤ N) (h8 : N ≤ 8) (hr : r ≤ 1) (f g : Nat → Int64) (K : Zh → Option (Int32 × Zh)) : zlp (fun (_ : Int32) (_ : Zh) => (none : Option (Int32 × Zh))) (gX12_putChain_L2 0 K) zFU 0 (mH I (wJ J f g)) = K (mH I (wJ J (aL f (chW N e.toInt64 (2 * d).toInt64 (chP N r))) g)) := by
  have hP : chP N r ≤ N := by unfold chP; split <;> omega
  have hN : 2 ^ N ≤ 256 := Nat.pow_le_pow_right (by decide) h8
  have hm : ∀ J', mcAt (mH I J') N r e d := fun _ => hc
  have hh := zlp_it (R := Option (Int32 × Zh)) (z := fun (_ : Int32) (_ : Zh) => (none : Option (Int32 × Zh))) (F := gX12_putChain_L2 0 K) (fun p (F : Int32 → Zh → Option (Int32 × Zh)) => F (nI p) (mH I (wJ J (aL f (chW N e.toInt64 (2 * d).toInt64 p)) g))) (K (mH I (wJ J (aL f (chW N e.toInt64 (2 * d).toInt64 (chP N r))) g))) (chP N r) ?_ ?_ zFU (by unfold zFU; omega)
  · have e0 : aL f (chW N e.toInt64 (2 * d).toInt64 0) = f := aL_nil f
    rw [e0] at hh
    exact hh
  · intro p hp rr
    obtain ⟨b0, b1⟩ := both_fin N h2 h8 p (by omega)
    obtain ⟨b1, b2⟩ := b1 (by omega)
    obtain ⟨m1, m2, m3, m4⟩ := hm (wJ J (aL f (chW N e.toInt64 (2 * d).toInt64 p)) g)
    obtain ⟨e1, e2⟩ := rem_fin p (by omega) N h2 h8
    have hsh : ∀ s, s < 8 → (1 : Int32) <<< (nI s &&& 31) = nI (2 ^ s) := fun s hs => by rw [nI_o 1, nI_shl (by omega), Nat.one_mul]
    have hq : (p + 1) % N < 8 := Nat.lt_of_lt_of_le (Nat.mod_lt _ (by omega)) h8
    have hb : ((1 : Int32) <<< (nI p &&& 31)) ||| ((1 : Int32) <<< (((nI p + 1) - (nI p + 1) / nI N * nI N) &&& 31)) = nI (bothN N p) := by rw [e1, hsh p (by omega), hsh _ hq, nI_or, b0]
    have hk1 : 256 * nI (bothN N p) = nI (256 * bothN N p) := by rw [nI_o 256, pk_mul]
    have hk2 : nI (256 * bothN N p) + nI (bothN N p) = nI (256 * bothN N p + bothN N p) := nI_add _ _
    have i1 : 256 * bothN N p < 65536 := by omega
    have i2 : 256 * bothN N p + bothN N p < 65536 := by omega
    have i3 : bothN N p < 65536 := by omega
    have q1 : I 0 1 = nI N := m1
    have q3 : I 0 3 = e := m3
    have q4 : I 0 4 = d := m4
    show gX12_putChain_L2 0 K rr (nI p) (mH I (wJ J (aL f (chW N e.toInt64 (2 * d).toInt64 p)) g)) = rr (nI (p + 1)) (mH I (wJ J (aL f (chW N e.toInt64 (2 * d).toInt64 p ++ [(256 * bothN N p, e.toInt64)] ++ [(256 * bothN N p + bothN N p, e.toInt64)] ++ [(bothN N p, (2 * d).toInt64)])) g))
    unfold gX12_putChain_L2
    rw [pairMany_ok (hm _) h2 hr, zbi_s, if_neg (zge_n hp (by omega))]
    repeat (first | rw [mI_] | rw [q1] | rw [if_neg e2] | rw [hb] | rw [hk1] | rw [hk2] | rw [mR_33] | rw [min_ (mL_27 _ _) i1 (by omega)] | rw [min_ (mL_27 _ _) i2 (by omega)] | rw [min_ (mL_27 _ _) i3 (by omega)] | rw [zx_nI (show 256 * bothN N p < 2 ^ 31 by omega)] | rw [zx_nI (show 256 * bothN N p + bothN N p < 2 ^ 31 by omega)] | rw [zx_nI (show bothN N p < 2 ^ 31 by omega)] | rw [q3] | rw [q4] | rw [msJ] | rw [mJ_] | rw [wJ_27] | rw [wJ_u27] | rw [aL_snoc] | rw [← nI_sc] | rw [zlt_] | rw [zjn_] | rw [zob_s] | rw [zg_1] | rw [zbi_s] | rw [zbI_s] | rw [zbr_s] | rw [zbR_s] | rw [zbV_s] | rw [zbj_s] | rw [zbJ_s] | rw [zcs_s] | rw [zcs_n])
  · intro rr
    show gX12_putChain_L2 0 K rr (nI (chP N r)) _ = _
    unfold gX12_putChain_L2
    rw [pairMany_ok (hm _) h2 hr, zbi_s, if_pos (Int32.le_refl _)]
/-- a list sorted by keys that all lie in another is no longer than it -/
theorem len_in : ∀ (E : List (Nat × Int64 × Int64)) (K : List Nat), E.Pairwise (fun a b => a.1 < b.1) → (∀ c ∈ E, c.1 ∈ K) → E.length ≤ K.length
  | [], _, _, _ => Nat.zero_le _
  | c :: E, K, hp, hk => by
    obtain ⟨h1, h2⟩ := List.pairwise_cons.mp hp
    have hc := hk c List.mem_cons_self
    have ih := len_in E (K.erase c.1) h2 (fun d hd => (List.mem_erase_of_ne (by have := h1 d hd; omega)).mpr (hk d (List.mem_cons_of_mem _ hd)))
    rw [List.length_erase_of_mem hc] at ih
    have : 0 < K.length := List.length_pos_of_mem hc
    rw [List.length_cons]; omega
theorem nz_in {cs : List (Nat × Int64)} {f g : Nat → Int64} (hf : ∀ x, x < 65536 → f x = sAt cs x) (hg : ∀ x, x < 65536 → g x = 0) : (nz f g 65536).length ≤ cs.length := by
  have := len_in (nz f g 65536) (cs.map (·.1)) (nz_pw f g 65536) (fun c hc => by
    obtain ⟨h1, h2, h3, h4⟩ := nz_lt f g 65536 c hc
    apply Classical.byContradiction
    intro hn
    apply h4
    refine ⟨?_, by rw [h3]; exact hg _ h1⟩
    rw [h2, hf _ h1]
    exact sAt_none (fun d hd e => hn (List.mem_map.mpr ⟨d, hd, e⟩)))
  rwa [List.length_map] at this
/-- the chain's words as the mixer gets them -/
theorem spell_ok {h : Zh} {o : Nat → Nat} {s p q n : Nat} (hx : mxS h o s p q n) {c : Nat} {ch : Ch} (hc : chX h o c ch) (hk : chOk ch) : ∃ h' E, gX3_spell h s (some c) = some h' ∧ mxM s h h' ∧ mxE h' s E ∧ eS E ∧ E.length ≤ 1000 ∧ ∀ x, sAt (eR E) x = chF ch.2.2.1.toInt64 (2 * ch.2.2.2.toInt64) (fun b => cCnt ch.1 (chP ch.1 ch.2.1) b) x ∧ sAt (eI E) x = 0 := by
  obtain ⟨N, r, e, d⟩ := ch
  obtain ⟨h2, h8, hr, he1, he2, hd1, hd2⟩ := hk
  have h2 : 2 ≤ N := h2
  have h8 : N ≤ 8 := h8
  have hr : r ≤ 1 := hr
  have hP : chP N r ≤ N := by unfold chP; split <;> omega
  have hN : 2 ^ N ≤ 256 := Nat.pow_le_pow_right (by decide) h8
  have ho : ∀ a, a < 5 → o (s + a) = 3 := fun a ha => (hx.1 a ha).2
  show ∃ h' E, gX3_spell h s (some c) = some h' ∧ mxM s h h' ∧ mxE h' s E ∧ eS E ∧ E.length ≤ 1000 ∧ ∀ x, sAt (eR E) x = chF e.toInt64 (2 * d.toInt64) (fun b => cCnt N (chP N r) b) x ∧ sAt (eI E) x = 0
  let C : Nat → Nat := fun b => cCnt N (chP N r) b
  have hC8 : ∀ b, C b ≤ 8 := fun b => Nat.le_trans (cCnt_le N b (chP N r)) (by omega)
  have hC0 : ∀ b, b = 0 ∨ 2 ^ N ≤ b → C b = 0 := fun b hb => cCnt_out h2 h8 hb _ hP
  have z0 : jN 0 = 0 := rfl
  obtain ⟨h1, g1, m1, e1, -⟩ := begin_ok h s
  have hch : ∀ g, mxM s h g → chAt g c N r e d := fun g m => (hc.mv (m.mv ho) (by omega)).2
  have hpo : ∀ g, mxM s h g → ∀ b, b < 256 → gX0_pairsOf g c (nI b) = some (nI (C b)) := fun g m b hb => pairsOf_ok (hch g m) h2 h8 hr b hb
  -- Z Z of all pairs
  have hloop1 : ∀ (t j : Nat) (g : Zh) (E : List (Nat × Int64 × Int64)), j + t = 2 ^ N → mxM s h g → mxE g s E → eS E → E.length ≤ j → (∀ y ∈ E, y.1 < j) → (∀ x, sAt (eR E) x = (if x < j then 2 * d.toInt64 * jN (C x) else 0) ∧ sAt (eI E) x = 0) → ∃ h' E', mxM s h h' ∧ mxE h' s E' ∧ eS E' ∧ E'.length ≤ 256 ∧ (∀ y ∈ E', y.1 < 2 ^ N) ∧ (∀ x, sAt (eR E') x = 2 * d.toInt64 * jN (C x) ∧ sAt (eI E') x = 0) ∧ ∀ (K : Zh → Option Zh) (fu : Nat), t < fu → zlp (fun (_ : Int32) (_ : Zh) => (none : Option (Zh))) (gX3_spell_L3 s (some c) K) fu (nI j) g = K h' := by
    intro t
    induction t with
    | zero =>
      intro j g E hj m e' es el hy hs
      have : j = 2 ^ N := by omega
      subst this
      refine ⟨g, E, m, e', es, by omega, hy, fun x => ⟨?_, (hs x).2⟩, fun K fu hfu => ?_⟩
      · rw [(hs x).1]
        by_cases hxx : x < 2 ^ N
        · rw [if_pos hxx]
        · rw [if_neg hxx, hC0 x (Or.inr (by omega)), z0]; grind
      · obtain ⟨fu, rfl⟩ : ∃ f, fu = f + 1 := ⟨fu - 1, by omega⟩
        show gX3_spell_L3 s (some c) K _ (nI (2 ^ N)) g = K g
        unfold gX3_spell_L3
        rw [zob_s, (hch g m).2.2.2.2.1, if_pos (Int32.le_refl _)]
    | succ t ih =>
      intro j g E hj m e' es el hy hs
      have hj256 : j < 256 := by omega
      have hv : (2 * d.toInt64) * (nI (C j)).toInt64 = 2 * d.toInt64 * jN (C j) := by rw [nI_j (by have := hC8 j; omega)]
      obtain ⟨g2, c1, c2, c3, -⟩ := emit_ok (hx.mv m) e' (by omega) j ((2 * d.toInt64) * (nI (C j)).toInt64) 0
      have hem := emL_len j ((2 * d.toInt64) * (nI (C j)).toInt64) 0
      obtain ⟨h', E', k1, k2, k3, k4, k5, k6, k7⟩ := ih (j + 1) g2 _ (by omega) (m.tr c2) c3 (eS_em es (by omega) hy _ _) (by rw [List.length_append]; omega) (fun y hy' => by
        rcases List.mem_append.mp hy' with h' | h'
        · have := hy y h'; omega
        · rw [(emL_mem h').1]; omega) (fun x => by
        rw [eR_app, eI_app, sAt_app, sAt_app, (sAt_em _ _ _ _).1, (sAt_em _ _ _ _).2, (hs x).1, (hs x).2, hv]
        by_cases hjx : j = x
        · subst hjx
          rw [if_pos rfl, if_pos rfl, if_neg (by omega), if_pos (by omega)]; exact ⟨by grind, by grind⟩
        · rw [if_neg hjx, if_neg hjx]
          by_cases hlt : x < j
          · rw [if_pos hlt, if_pos (by omega)]; exact ⟨by grind, by grind⟩
          · rw [if_neg hlt, if_neg (by omega)]; exact ⟨by grind, by grind⟩)
      refine ⟨h', E', k1, k2, k3, k4, k5, k6, fun K fu hfu => ?_⟩
      obtain ⟨fu, rfl⟩ : ∃ f, fu = f + 1 := ⟨fu - 1, by omega⟩
      rw [← k7 K fu (by omega)]
      show gX3_spell_L3 s (some c) K _ (nI j) g = _
      generalize zlp (fun (_ : Int32) (_ : Zh) => (none : Option (Zh))) (gX3_spell_L3 s (some c) K) fu = Z
      unfold gX3_spell_L3
      rw [zob_s, (hch g m).2.2.2.2.1, if_neg (zge_n (by omega) (by omega)), hpo g m j hj256, zbi_s, (hch g m).2.2.2.1, c1, zbV_s, nI_sc]
  have hloop2 : ∀ (t j : Nat) (g : Zh) (E : List (Nat × Int64 × Int64)), 1 ≤ j → j + t = 2 ^ N → mxM s h g → mxE g s E → eS E → E.length ≤ 256 + 2 * j → (∀ y ∈ E, y.1 < 256 * j) → (∀ x, sAt (eR E) x = 2 * d.toInt64 * jN (C x) + (if x % 256 = 0 then (if x / 256 < j then e.toInt64 * jN (C (x / 256)) else 0) else 0) + (if x / 256 = x % 256 then (if x / 256 < j then e.toInt64 * jN (C (x / 256)) else 0) else 0) ∧ sAt (eI E) x = 0) → ∀ fu, t < fu → ∃ h' E', zlp (fun (_ : Int32) (_ : Zh) => (none : Option (Zh))) (gX3_spell_L1 s (some c)) fu (nI j) g = some h' ∧ mxM s h h' ∧ mxE h' s E' ∧ eS E' ∧ E'.length ≤ 1000 ∧ ∀ x, sAt (eR E') x = chF e.toInt64 (2 * d.toInt64) C x ∧ sAt (eI E') x = 0 := by
    intro t
    induction t with
    | zero =>
      intro j g E hj1 hj m e' es el hy hs fu hfu
      have : j = 2 ^ N := by omega
      subst this
      obtain ⟨fu, rfl⟩ : ∃ f, fu = f + 1 := ⟨fu - 1, by omega⟩
      refine ⟨g, E, ?_, m, e', es, by omega, fun x => ⟨?_, (hs x).2⟩⟩
      · show gX3_spell_L1 s (some c) _ (nI (2 ^ N)) g = _
        unfold gX3_spell_L1
        rw [zob_s, (hch g m).2.2.2.2.1, if_pos (Int32.le_refl _)]
      · rw [(hs x).1]
        unfold chF
        by_cases hq : x / 256 < 2 ^ N
        · rw [if_pos hq]
        · rw [if_neg hq, hC0 (x / 256) (Or.inr (by omega)), z0]
          split <;> split <;> grind
    | succ t ih =>
      intro j g E hj1 hj m e' es el hy hs fu hfu
      obtain ⟨fu, rfl⟩ : ∃ f, fu = f + 1 := ⟨fu - 1, by omega⟩
      have hj256 : j < 256 := by omega
      have hv : (e * nI (C j)).toInt64 = e.toInt64 * jN (C j) := small_mul ⟨he1, he2⟩ (hC8 j)
      have sh1 : nI j <<< ((8 : Int32) &&& 31) = nI (256 * j) := by rw [nI_o 8, nI_shl (by omega), Nat.mul_comm]
      have sh2 : nI (256 * j) ||| nI j = nI (256 * j + j) := by rw [nI_or, Nat.mul_comm 256 j, or256 hj256, Nat.mul_comm j 256]
      obtain ⟨g2, c1, c2, c3, -⟩ := emit_ok (hx.mv m) e' (by omega) (256 * j) (e * nI (C j)).toInt64 0
      have hem := emL_len (256 * j) (e * nI (C j)).toInt64 0
      have es2 := eS_em es (show 256 * j < 65536 by omega) hy (e * nI (C j)).toInt64 0
      obtain ⟨g3, c4, c5, c6, -⟩ := emit_ok (hx.mv (m.tr c2)) c3 (by rw [List.length_append]; omega) (256 * j + j) (e * nI (C j)).toInt64 0
      have hem2 := emL_len (256 * j + j) (e * nI (C j)).toInt64 0
      have := ih (j + 1) g3 _ (by omega) (by omega) ((m.tr c2).tr c5) c6 (eS_em es2 (by omega) (fun y hy' => by
        rcases List.mem_append.mp hy' with h' | h'
        · have := hy y h'; omega
        · rw [(emL_mem h').1]; omega) _ _) (by rw [List.length_append, List.length_append]; omega) (fun y hy' => by
        rcases List.mem_append.mp hy' with h' | h'
        · rcases List.mem_append.mp h' with h' | h'
          · have := hy y h'; omega
          · rw [(emL_mem h').1]; omega
        · rw [(emL_mem h').1]; omega) (fun x => by
        rw [eR_app, eI_app, sAt_app, sAt_app, (sAt_em _ _ _ _).1, (sAt_em _ _ _ _).2, eR_app, eI_app, sAt_app, sAt_app, (sAt_em _ _ _ _).1, (sAt_em _ _ _ _).2, (hs x).1, (hs x).2, hv]
        have k1 : (if x % 256 = 0 then (if x / 256 < j + 1 then e.toInt64 * jN (C (x / 256)) else 0) else 0) = (if x % 256 = 0 then (if x / 256 < j then e.toInt64 * jN (C (x / 256)) else 0) else 0) + (if 256 * j = x then e.toInt64 * jN (C j) else 0) := by
          by_cases hA : x % 256 = 0
          · rw [if_pos hA, if_pos hA]
            by_cases hB : x / 256 = j
            · rw [if_pos (by omega), if_neg (by omega), if_pos (by omega), hB]; grind
            · rw [if_neg (show ¬ 256 * j = x by omega)]
              by_cases hD : x / 256 < j
              · rw [if_pos hD, if_pos (by omega)]; grind
              · rw [if_neg hD, if_neg (by omega)]; grind
          · rw [if_neg hA, if_neg hA, if_neg (by omega)]; grind
        have k2 : (if x / 256 = x % 256 then (if x / 256 < j + 1 then e.toInt64 * jN (C (x / 256)) else 0) else 0) = (if x / 256 = x % 256 then (if x / 256 < j then e.toInt64 * jN (C (x / 256)) else 0) else 0) + (if 256 * j + j = x then e.toInt64 * jN (C j) else 0) := by
          by_cases hA : x / 256 = x % 256
          · rw [if_pos hA, if_pos hA]
            by_cases hB : x / 256 = j
            · rw [if_pos (by omega), if_neg (by omega), if_pos (by omega), hB]; grind
            · rw [if_neg (show ¬ 256 * j + j = x by omega)]
              by_cases hD : x / 256 < j
              · rw [if_pos hD, if_pos (by omega)]; grind
              · rw [if_neg hD, if_neg (by omega)]; grind
          · rw [if_neg hA, if_neg hA, if_neg (by omega)]; grind
        rw [k1, k2]
        refine ⟨by grind, ?_⟩
        split <;> split <;> grind) fu (by omega)
      obtain ⟨h', E', d1, d2⟩ := this
      refine ⟨h', E', ?_, d2⟩
      rw [← d1]
      show gX3_spell_L1 s (some c) _ (nI j) g = _
      generalize zlp (fun (_ : Int32) (_ : Zh) => (none : Option (Zh))) (gX3_spell_L1 s (some c)) fu = Z
      unfold gX3_spell_L1
      rw [zob_s, (hch g m).2.2.2.2.1, if_neg (zge_n (by omega) (by omega)), hpo g m j hj256, zbi_s, zlt_, (hch g m).2.2.1, sh1, c1, zbV_s, sh2, c4, zbV_s, nI_sc]
  have hp4 : 4 ≤ 2 ^ N := Nat.pow_le_pow_right (n := 2) (by decide) h2
  obtain ⟨h3, E3, k1, k2, k3, k4, k5, k6, k7⟩ := hloop1 (2 ^ N - 1) 1 h1 [] (by omega) m1 e1 ⟨List.Pairwise.nil, fun c hc => by cases hc⟩ (Nat.zero_le _) (fun y hy => by cases hy) (fun x => by
    refine ⟨?_, rfl⟩
    show (0 : Int64) = _
    by_cases hxx : x < 1
    · rw [if_pos hxx, hC0 x (Or.inl (by omega)), z0]; grind
    · rw [if_neg hxx])
  obtain ⟨h', E', d1, d2⟩ := hloop2 (2 ^ N - 1) 1 h3 E3 (Nat.le_refl _) (by omega) k1 k2 k3 (by omega) (fun y hy => by have := k5 y hy; omega) (fun x => by
    refine ⟨?_, (k6 x).2⟩
    rw [(k6 x).1]
    have zz : (if x / 256 < 1 then e.toInt64 * jN (C (x / 256)) else 0) = 0 := by
      by_cases hq : x / 256 < 1
      · rw [if_pos hq, hC0 (x / 256) (Or.inl (by omega)), z0]; grind
      · rw [if_neg hq]
    rw [zz]
    split <;> split <;> grind) zFU (by unfold zFU; omega)
  refine ⟨h', E', ?_, d2⟩
  unfold gX3_spell
  rw [g1, zbV_s, zjn_]
  refine Eq.trans (k7 (gX3_spell_J2 s (some c)) zFU (by unfold zFU; omega)) ?_
  unfold gX3_spell_J2
  exact d1
section Ops
variable {SC : Ch → (Nat → Nat → Int32) → (Nat → Nat → Int64) → Prop} {h h0 : Zh} {o : Nat → Nat} {L : Led} {n : Nat} {w : Nat → Wt} {S : Nat → Option Sh} {fa tr : Int32} {I : Nat → Nat → Int32} {J : Nat → Nat → Int64}
/-- the chain's words: the class's mixer has what the reference's great table has -/
theorem chain_nz {ch : Ch} (hk : chOk ch) {E : List (Nat × Int64 × Int64)} (es : eS E) (hs : ∀ x, sAt (eR E) x = chF ch.2.2.1.toInt64 (2 * ch.2.2.2.toInt64) (fun b => cCnt ch.1 (chP ch.1 ch.2.1) b) x ∧ sAt (eI E) x = 0) (f0 g0 : Nat → Int64) : E = nz (aL (z0f f0 65536) (chW ch.1 ch.2.2.1.toInt64 (2 * ch.2.2.2).toInt64 (chP ch.1 ch.2.1))) (z0f g0 65536) 65536 ∧ (nz (aL (z0f f0 65536) (chW ch.1 ch.2.2.1.toInt64 (2 * ch.2.2.2).toInt64 (chP ch.1 ch.2.1))) (z0f g0 65536) 65536).length ≤ 24 := by
  have hP : chP ch.1 ch.2.1 ≤ ch.1 := by unfold chP; split <;> omega
  refine ⟨E_nz es (fun x hx => ?_), ?_⟩
  · show _ = z0f f0 65536 x + sAt _ x ∧ _ = z0f g0 65536 x
    rw [z0f_lt _ hx, z0f_lt _ hx, (hs x).1, (hs x).2, chW_at hk.1 hk.2.1 _ _ x _ hP, two_mul ⟨hk.2.2.2.2.2.1, hk.2.2.2.2.2.2⟩]
    exact ⟨by grind, rfl⟩
  · have := nz_in (cs := chW ch.1 ch.2.2.1.toInt64 (2 * ch.2.2.2).toInt64 (chP ch.1 ch.2.1)) (f := aL (z0f f0 65536) (chW ch.1 ch.2.2.1.toInt64 (2 * ch.2.2.2).toInt64 (chP ch.1 ch.2.1))) (g := z0f g0 65536) (fun x hx => by
      show z0f f0 65536 x + _ = _
      rw [z0f_lt _ hx]; grind) (fun x hx => z0f_lt _ hx)
    rw [chW_len] at this
    have := hk.2.1
    omega
theorem chF_small {ch : Ch} (hk : chOk ch) (f0 g0 : Nat → Int64) : ¬ spent (aL (z0f f0 65536) (chW ch.1 ch.2.2.1.toInt64 (2 * ch.2.2.2).toInt64 (chP ch.1 ch.2.1))) (z0f g0 65536) 65536 := by
  have hP : chP ch.1 ch.2.1 ≤ ch.1 := by unfold chP; split <;> omega
  have hz : ¬ bigJ 0 := by unfold bigJ; decide
  rintro ⟨x, hx, hb | hb⟩
  · have e1 : aL (z0f f0 65536) (chW ch.1 ch.2.2.1.toInt64 (2 * ch.2.2.2).toInt64 (chP ch.1 ch.2.1)) x = chF ch.2.2.1.toInt64 (2 * ch.2.2.2.toInt64) (fun b => cCnt ch.1 (chP ch.1 ch.2.1) b) x := by
      show z0f f0 65536 x + _ = _
      rw [z0f_lt _ hx, chW_at hk.1 hk.2.1 _ _ x _ hP, two_mul ⟨hk.2.2.2.2.2.1, hk.2.2.2.2.2.2⟩]; grind
    rw [e1] at hb
    have hc8 : ∀ b, cCnt ch.1 (chP ch.1 ch.2.1) b ≤ 8 := fun b => Nat.le_trans (cCnt_le _ b _) (Nat.le_trans hP hk.2.1)
    have hfin : ∀ (e d : Int64) (c1 c2 : Nat), e ∈ [1, 2, 3, 4] → d ∈ [-2, -1, 0, 1, 2] → c1 ≤ 8 → c2 ≤ 8 → ∀ (u v : Bool), ¬ bigJ (2 * d * jN c1 + (if u = true then e * jN c2 else 0) + (if v = true then e * jN c2 else 0)) := by
      have hf : ([1, 2, 3, 4] : List Int64).all (fun e => ([-2, -1, 0, 1, 2] : List Int64).all (fun d => (List.range 9).all (fun c1 => (List.range 9).all (fun c2 => [true, false].all (fun u => [true, false].all (fun v => decide (¬ 1000000 < ab (2 * d * jN c1 + (if u = true then e * jN c2 else 0) + (if v = true then e * jN c2 else 0))))))))) = true := by decide +kernel
      intro e d c1 c2 he hd h1 h2 u v
      have t := List.all_eq_true.mp (List.all_eq_true.mp (List.all_eq_true.mp (List.all_eq_true.mp (List.all_eq_true.mp (List.all_eq_true.mp hf e he) d hd) c1 (List.mem_range.mpr (by omega))) c2 (List.mem_range.mpr (by omega))) u (by cases u <;> simp)) v (by cases v <;> simp)
      have t2 : ¬ (1000000 : Int64) < ab (2 * d * jN c1 + (if u = true then e * jN c2 else 0) + (if v = true then e * jN c2 else 0)) := of_decide_eq_true t
      exact t2
    have heL : ch.2.2.1.toInt64 ∈ ([1, 2, 3, 4] : List Int64) := by
      have a := hk.2.2.2.1
      have b := hk.2.2.2.2.1
      have : ch.2.2.1 = Int32.ofInt ch.2.2.1.toInt := (Int32.ofInt_toInt _).symm
      rcases (show ch.2.2.1.toInt = 1 ∨ ch.2.2.1.toInt = 2 ∨ ch.2.2.1.toInt = 3 ∨ ch.2.2.1.toInt = 4 by omega) with h | h | h | h <;> rw [h] at this <;> rw [this] <;> decide
    have hdL : ch.2.2.2.toInt64 ∈ ([-2, -1, 0, 1, 2] : List Int64) := by
      have a := hk.2.2.2.2.2.1
      have b := hk.2.2.2.2.2.2
      have : ch.2.2.2 = Int32.ofInt ch.2.2.2.toInt := (Int32.ofInt_toInt _).symm
      rcases (show ch.2.2.2.toInt = -2 ∨ ch.2.2.2.toInt = -1 ∨ ch.2.2.2.toInt = 0 ∨ ch.2.2.2.toInt = 1 ∨ ch.2.2.2.toInt = 2 by omega) with h | h | h | h | h <;> rw [h] at this <;> rw [this] <;> decide
    have t := hfin _ _ _ _ heL hdL (hc8 x) (hc8 (x / 256)) (decide (x % 256 = 0)) (decide (x / 256 = x % 256))
    simp only [decide_eq_true_eq] at t
    exact t hb
  · rw [z0f_lt _ hx] at hb
    exact hz hb
/-- the reference lays the chain's words as sum k -/
theorem putChain_ok (hL : ledOk L) (q : stM I L n w S fa tr) {k : Nat} (hk : k < 5) : ∃ l J', gX12_putChain (mH I J) 0 (nI k) = some (nI l.length, mH (zU (rowP I k l) 23 k (nI l.length)) J') ∧ wdOk l ∧ ∀ E, eS E → (∀ x, sAt (eR E) x = chF (L.1 L.2.2.1).2.2.1.toInt64 (2 * (L.1 L.2.2.1).2.2.2.toInt64) (fun b => cCnt (L.1 L.2.2.1).1 (chP (L.1 L.2.2.1).1 (L.1 L.2.2.1).2.1) b) x ∧ sAt (eI E) x = 0) → E.map cutW = l := by
  have hc := (hL.2.2 _ hL.1).1
  have hm := mc_st (J := J) q
  have hlp := fun K => putChain_lp J hm hc.1 hc.2.1 hc.2.2.1 (z0f (J 27) 65536) (z0f (J 28) 65536) K
  let f := aL (z0f (J 27) 65536) (chW (L.1 L.2.2.1).1 (L.1 L.2.2.1).2.2.1.toInt64 (2 * (L.1 L.2.2.1).2.2.2).toInt64 (chP (L.1 L.2.2.1).1 (L.1 L.2.2.1).2.1))
  let g := z0f (J 28) 65536
  have hsp := chF_small hc (J 27) (J 28)
  have h24 : (nz f g 65536).length ≤ 24 := by
    have hP : chP (L.1 L.2.2.1).1 (L.1 L.2.2.1).2.1 ≤ (L.1 L.2.2.1).1 := by unfold chP; split <;> omega
    have := nz_in (cs := chW (L.1 L.2.2.1).1 (L.1 L.2.2.1).2.2.1.toInt64 (2 * (L.1 L.2.2.1).2.2.2).toInt64 (chP (L.1 L.2.2.1).1 (L.1 L.2.2.1).2.1)) (f := f) (g := g) (fun x hx => by
      show z0f (J 27) 65536 x + _ = _
      rw [z0f_lt _ hx]; grind) (fun x hx => z0f_lt _ hx)
    rw [chW_len] at this
    have := hc.2.1
    omega
  refine ⟨madeL f g, wJ J f g, ?_, madeL_ok (by omega) hsp, fun E es hs => by rw [(chain_nz hc es hs (J 27) (J 28)).1]; rfl⟩
  unfold gX12_putChain
  rw [startSum_ok, zbV_s, zjn_, hlp]
  unfold gX12_putChain_J1
  have := putSum_ok I J f g k hk (by omega)
  rw [this, zbI_s]
  have hlen : (madeL f g).length = (nz f g 65536).length := List.length_map _
  rw [hlen]
  rfl
theorem asChain_st (p : stX SC h o L n w S fa tr) (q : stM I L n w S fa tr) (hst : stOk L n w S) (x1 : Int32) : stG SC (gX11_asChain h 0 x1) (gX12_asChain (mH I J) 0 x1) h := by
  have hL := hst.1
  have ht : L.2.2.1 ≤ 20 := Nat.le_trans hL.1 hL.2.1
  unfold gX11_asChain gX12_asChain
  rw [noSumX, zbi_s, noSumM, zbi_s]
  by_cases h1 : inR x1 4
  · rw [if_pos h1, if_pos rfl, if_pos rfl]
    obtain ⟨k, hk, rfl⟩ := inR_f h1
    obtain ⟨h1', o1, s, pp, qq, nn, g1, p1, e8, hx1, mw, bN, bS⟩ := wordRows_ok p
    have f0 : zR h1' 0 0 = some 1 := p1.1.1.1
    obtain ⟨c, hcn, hcx⟩ := cn_st p1 hL
    have hco := (hL.2.2 _ hL.1).1
    obtain ⟨h2, E, g2, m2, e2, es, el, hs⟩ := spell_ok hx1 hcx hco
    have ho : ∀ a, a < 5 → o1 (s + a) = 3 := fun a ha => (hx1.1 a ha).2
    obtain ⟨p2, e82⟩ := stX_mix (m2.mv ho) e8 (hx1.mv m2) p1
    obtain ⟨l, J', gm, hw, hE⟩ := putChain_ok (J := J) hL q (k := k) (by omega)
    have hEl := hE E es hs
    have hl : E.length = l.length := by rw [← hEl, List.length_map]
    have hs60 : ∀ i, i < 4 → ((L.2.1 L.2.2.1) i).length ≤ 60 := fun i hi => ((hL.2.2 _ hL.1).2 i hi).1
    obtain ⟨hcur, -⟩ := putCur (k := k) (l := l) (by omega) hs60 hw.1 q.1.2
    have hI : ∀ a b, ¬ (a = 0 ∧ 1 ≤ b ∧ b ≤ 4) → ¬ (23 ≤ a ∧ a ≤ 26) → ¬ mScr a b → zU (rowP I k l) 23 k (nI l.length) a b = I a b := fun a b n1 n2 n3 => by
      rw [zU_n _ _ _ _ _ _ (by omega)]
      unfold rowP
      rw [if_neg (by omega)]
    have h37 : zU (rowP I k l) 23 k (nI l.length) 0 37 = nI L.2.2.1 := (hI 0 37 (by omega) (by omega) (by unfold mScr; omega)).trans q.1.1.1
    have q2 := acted_st hL hco (smU_ok (k := k) (fun i hi => (hL.2.2 _ hL.1).2 i hi) hw) _ hI hcur q
    have hfit : gX3_fits h2 s = some 1 := by
      obtain ⟨x, hf, hc⟩ := fits_ok e2 (by omega)
      rcases hc with ⟨rfl, -⟩ | ⟨-, c1⟩
      · exact hf
      · exfalso
        have hnz := chain_nz hco es hs (J 27) (J 28)
        rcases c1 with c1 | c1
        · rw [hl] at c1; have := hw.1; omega
        · rw [hnz.1] at c1
          exact chF_small hco (J 27) (J 28) ((anyB_nz _ _ _).mp c1)
    obtain ⟨h3, o3, g3, m3, s3, b3, b4⟩ := result_ok (hx1.mv m2) e2 (by rw [hl]; exact hw.1)
    rw [hEl] at s3
    have p3 := stX_new m3 p2
    obtain ⟨h4, g4, p4, m4, ⟨z1, z2⟩, z3⟩ := recS_X hL p3 hk s3
    have f2 : zR h2 0 0 = some 1 := p2.1.1.1
    have es6 : zI h4 s 6 = nI l.length := by
      have o1' : o1 1 = 101 := p1.1.2.2.2.2.2.1
      have hs1 : s ≠ 1 := fun e => by have := ho 0 (by omega); rw [Nat.add_zero, e, o1'] at this; omega
      have hsN : s < zN h2 := by rw [m2.1.1]; exact (hx1.1 0 (by omega)).1
      rw [z3 s 6 hs1, (m3.2.2 s hsN (fun x => x)).2.2.1 6, e2.1, hl]
    unfold gX11_keep
    repeat (first | rw [g1] | rw [f0] | rw [chainNow_ok hcn] | rw [g2] | rw [hfit] | rw [gm] | rw [acted_ok _ J' _ ht h37] | rw [zlt_] | rw [zjn_] | rw [zob_s] | rw [zg_1] | rw [zbi_s] | rw [zbI_s] | rw [zbr_s] | rw [zbR_s] | rw [zbV_s] | rw [zbj_s] | rw [zbJ_s] | rw [zcs_s] | rw [zcs_n])
    rw [if_neg (show ¬ (1 : Int32) = 0 by decide)]
    repeat (first | rw [f2] | rw [g3] | rw [g4] | rw [es6] | rw [zlt_] | rw [zjn_] | rw [zob_s] | rw [zg_1] | rw [zbi_s] | rw [zbI_s] | rw [zbr_s] | rw [zbR_s] | rw [zbV_s] | rw [zbj_s] | rw [zbJ_s] | rw [zcs_s] | rw [zcs_n])
    exact ⟨_, h4, _, J', o3, _, n, w, S, fa, tr, rfl, rfl, p4, q2, ⟨recL_ok hL hco (smU_ok (fun i hi => (hL.2.2 _ hL.1).2 i hi) hw), hst.2.1, hst.2.2⟩, by have := m2.1.1; omega, by have := m2.1.2; omega⟩
  · rw [if_neg h1, if_neg (by decide), if_neg (by decide)]
    exact stG_0 p q hst _
theorem stM_4 {l : List Wd} (hL : ledOk L) (hl : l.length ≤ 60) (q : stM I L n w S fa tr) : stM (zU (rowP I 4 l) 23 4 (nI l.length)) L n w S fa tr ∧ sumM (zU (rowP I 4 l) 23 4 (nI l.length)) 4 l := by
  have hs60 : ∀ i, i < 4 → ((L.2.1 L.2.2.1) i).length ≤ 60 := fun i hi => ((hL.2.2 _ hL.1).2 i hi).1
  obtain ⟨hcur, hsum⟩ := putCur (k := 4) (l := l) (by omega) hs60 hl q.1.2
  have hcur' : curM (zU (rowP I 4 l) 23 4 (nI l.length)) (L.1 L.2.2.1) (L.2.1 L.2.2.1) := ⟨hcur.1, fun i hi => by
    have := hcur.2 i hi
    unfold smU at this
    rwa [if_neg (by omega)] at this⟩
  have hI : ∀ a b, ¬ (23 ≤ a ∧ a ≤ 26) → zU (rowP I 4 l) 23 4 (nI l.length) a b = I a b := fun a b n2 => by
    rw [zU_n _ _ _ _ _ _ (by omega)]
    unfold rowP
    rw [if_neg (by omega)]
  obtain ⟨q1, q2, q3, q4, q5⟩ := q
  exact ⟨⟨⟨q1.1.mv hL (hI _ _ (by omega)) (hI _ _ (by omega)) (fun b => hI _ _ (by omega)), hcur'⟩, q2.mv (hI _ _ (by omega)) (fun a b _ _ => hI _ _ (by omega)), q3.mv (fun a b _ _ => hI _ _ (by omega)), (hI _ _ (by omega)).trans q4, (hI _ _ (by omega)).trans q5⟩, hsum⟩
theorem kept_st (p : stX SC h o L n w S fa tr) (q : stM I L n w S fa tr) (hst : stOk L n w S) (x1 : Int32) : stG SC (gX11_kept h 0 x1) (gX12_kept (mH I J) 0 x1) h := by
  have hL := hst.1
  unfold gX11_kept gX12_kept
  rw [noSumX, zbi_s, noSumM, zbi_s]
  by_cases h1 : inR x1 4
  · rw [if_pos h1, if_pos rfl, if_pos rfl]
    obtain ⟨k, hk, rfl⟩ := inR_f h1
    obtain ⟨h1', o1, s, pp, qq, nn, g1, p1, e8, hx1, mw, bN, bS⟩ := wordRows_ok p
    have f0 : zR h1' 0 0 = some 1 := p1.1.1.1
    obtain ⟨c, hcn, hcx⟩ := cn_st p1 hL
    have hco := (hL.2.2 _ hL.1).1
    obtain ⟨h2, E, g2, m2, e2, es, el, hs⟩ := spell_ok hx1 hcx hco
    have ho : ∀ a, a < 5 → o1 (s + a) = 3 := fun a ha => (hx1.1 a ha).2
    obtain ⟨p2, e82⟩ := stX_mix (m2.mv ho) e8 (hx1.mv m2) p1
    obtain ⟨l, J', gm, hw, hE⟩ := putChain_ok (J := J) hL q (k := 4) (by omega)
    have hEl := hE E es hs
    have hl : E.length = l.length := by rw [← hEl, List.length_map]
    obtain ⟨h3, o3, g3, m3, s3, b3, b4⟩ := result_ok (hx1.mv m2) e2 (by rw [hl]; exact hw.1)
    rw [hEl] at s3
    have p3 := stX_new m3 p2
    have hx3 : mxS h3 o3 s pp qq nn := by
      obtain ⟨y1, y2, y3, y4, y5, ⟨y6, y7⟩, ⟨l1, l2, l3, l4⟩, ⟨l5, l6⟩, y9⟩ := hx1.mv m2
      have ea : ∀ a, a < zN h2 → zAt h2 h3 a := fun a ha => m3.2.2 a ha (fun x => x)
      have es := ea s (y1 0 (by omega)).1
      exact ⟨fun a ha => ⟨Nat.lt_of_lt_of_le (y1 a ha).1 m3.1, (m3.2.1 _ (y1 a ha).1).trans (y1 a ha).2⟩, ⟨Nat.lt_of_lt_of_le y2.1 m3.1, (m3.2.1 _ y2.1).trans y2.2⟩, ⟨Nat.lt_of_lt_of_le y3.1 m3.1, (m3.2.1 _ y3.1).trans y3.2⟩, y4, fun a ha => (es.2.2.2.2 a).trans (y5 a ha), ⟨(es.2.2.2.2 4).trans y6, (es.2.2.2.2 5).trans y7⟩, ⟨(ea _ (y1 1 (by omega)).1).2.1.trans l1, (ea _ (y1 2 (by omega)).1).2.1.trans l2, (ea _ (y1 3 (by omega)).1).2.1.trans l3, (ea _ (y1 4 (by omega)).1).2.1.trans l4⟩, ⟨(ea _ y2.1).2.1.trans l5, (ea _ y3.1).2.1.trans l6⟩, y9⟩
    have f3 : zR h3 0 0 = some 1 := p3.1.1.1
    have e83 : zR h3 0 8 = some s := ((m3.2.2 0 (by have := p2.1.2.2.2.1; omega) (fun x => x)).2.2.2.2 8).trans e82
    obtain ⟨a, ga, sa⟩ := sumNow_ok hL p3 hk
    have wA := (hL.2.2 _ hL.1).2 k hk
    have kA : ∀ v ∈ L.2.1 L.2.2.1 k, v.1 < 65536 := fun v hv => (wA.2.2 v hv).1
    have kB : ∀ v ∈ l, v.1 < 65536 := fun v hv => (hw.2.2 v hv).1
    obtain ⟨h4, o4, p4', q4', n4', E4, t1, t2, t3, ⟨t4, t5⟩, t6, t7, t8, t9⟩ := multiply_ok hx3 sa s3 wA.1 hw.1 kA kB true
    obtain ⟨p4, e84⟩ := stX_mix t3 e83 t2 p3
    have hE4 := mult_nz wA.1 hw.1 kA kB t7 t9 (J' 27) (J' 28)
    rw [if_pos rfl, if_pos rfl] at hE4
    rw [if_pos rfl] at t1
    obtain ⟨q4, sum4⟩ := stM_4 hL hw.1 q
    have gm' : gX12_putChain (mH I J) 0 4 = some (nI l.length, mH (zU (rowP I 4 l) 23 4 (nI l.length)) J') := gm
    have tp1 := takeProduct_ok (show k < 5 by omega) (show 4 < 5 by omega) wA.1 hw.1 kA kB (q4.1.2.2 k hk) sum4 J' (z0f (J' 27) 65536) (z0f (J' 28) 65536) 1
    have tp2 := takeProduct_ok (show 4 < 5 by omega) (show k < 5 by omega) hw.1 wA.1 kB kA sum4 (q4.1.2.2 k hk) J' (aL (z0f (J' 27) 65536) (pairC (prR 1) (L.2.1 L.2.2.1 k) l)) (aL (z0f (J' 28) 65536) (pairC (prI 1) (L.2.1 L.2.2.1 k) l)) (-1)
    have tp1' : gX12_takeProduct (mH (zU (rowP I 4 l) 23 4 (nI l.length)) (wJ J' (z0f (J' 27) 65536) (z0f (J' 28) 65536))) 0 (nI k) 4 1 = _ := tp1
    have tp2' : gX12_takeProduct (mH (zU (rowP I 4 l) 23 4 (nI l.length)) (wJ J' (aL (z0f (J' 27) 65536) (pairC (prR 1) (L.2.1 L.2.2.1 k) l)) (aL (z0f (J' 28) 65536) (pairC (prI 1) (L.2.1 L.2.2.1 k) l)))) 0 4 (nI k) (-1) = _ := tp2
    unfold gX12_bracketOf
    repeat (first | rw [g1] | rw [f0] | rw [chainNow_ok hcn] | rw [g2] | rw [g3] | rw [f3] | rw [ga] | rw [t1] | rw [t6.1] | rw [gm'] | rw [startSum_ok] | rw [tp1'] | rw [tp2'] | rw [aL_app] | rw [madeWords_ok] | rw [← hE4] | rw [zlt_] | rw [zjn_] | rw [zob_s] | rw [zg_1] | rw [zbi_s] | rw [zbI_s] | rw [zbr_s] | rw [zbR_s] | rw [zbV_s] | rw [zbj_s] | rw [zbJ_s] | rw [zcs_s] | rw [zcs_n])
    by_cases hz : nI E4.length = 0
    · rw [if_pos hz, if_pos hz]
      exact ⟨_, h4, _, _, o4, L, n, w, S, fa, tr, rfl, rfl, p4, q4, hst, by have := m2.1.1; omega, by have := m2.1.2; omega⟩
    · rw [if_neg hz, if_neg hz]
      exact ⟨_, h4, _, _, o4, L, n, w, S, fa, tr, rfl, rfl, p4, q4, hst, by have := m2.1.1; omega, by have := m2.1.2; omega⟩
  · rw [if_neg h1, if_neg (by decide), if_neg (by decide)]
    exact stG_0 p q hst _
end Ops
