/-! rest and seen: both sides -/
section Ops
variable {h h' : Zh} {o : Nat → Nat} {L : Led} {n : Nat} {w : Nat → Wt} {S : Nat → Option Sh} {fa tr : Int32} {I : Nat → Nat → Int32} {J : Nat → Nat → Int64} {ch : Ch} {s c m g : Nat}
theorem both_rest (p : stX (seC QTc QRc) h o L n w S fa tr) (q : stM I L n w S fa tr) (k : stOk L n w S) (hm : m ≤ (L.1 L.2.2.1).1) (hg : g ≤ 1) (e2 : gX12_noSector (mH I J) 0 (nI m) (nI (sgI g)) = some 0) {x3 : Int32} (hx : x3.toInt.natAbs ≤ 50) : ∃ h1 o1 s c h2 I' J' fl, gX11_sectorOf h 0 (nI m) (nI (sgI g)) = some (some s, h1) ∧ gX5_restsAt h1 s x3 = some (if fl = true then 1 else 0, h2) ∧ stX (seC QTc QRc) h2 o1 L n w S fa tr ∧ seB h2 o1 s c (L.1 L.2.2.1) ∧ seK QTc QRc (L.1 L.2.2.1) m g (aI h2 s) (aJ h2 s) ∧ stP h h2 ∧ gX12_layRest (mH I J) 0 (nI m) (nI (sgI g)) x3 = some (if fl = true then 1 else 0, mH I' J') ∧ stM I' L n w S fa tr ∧ lyI I' (L.1 L.2.2.1).1 (L.1 L.2.2.1).2.1 m g ∧ (fl = true → seN (L.1 L.2.2.1) m g ≤ 10 ∧ reB (L.1 L.2.2.1) m g x3.toInt = true ∧ (∀ i, i < seN (L.1 L.2.2.1) m g → zJ h2 (s + 6) i = reR (L.1 L.2.2.1) m g x3.toInt i) ∧ ∀ i, i < seN (L.1 L.2.2.1) m g → J' 13 i = reR (L.1 L.2.2.1) m g x3.toInt i) := by
  obtain ⟨h1, o1, s, c, I', J', a1, a2, a3, a4, a5, b3, b2, hcase⟩ := both_solve QRc_ok p q k hm hg e2
  obtain ⟨k1, k2, k3, k4, k5, k6, k7⟩ := (k.1.2.2 _ k.1.1).1
  have h38 : seN (L.1 L.2.2.1) m g ≤ 38 := b2.2.1
  rcases hcase with ⟨hn, s1, s2⟩ | ⟨hn, s2, hT, h2', s1, y1, y2, y3, y4, y5, y6⟩
  · refine ⟨h1, o1, s, c, h1, I', J', false, a1, restsAt_no a4 hn h38 x3, a2, a3, a4, a5, ?_, b3, b2, fun hh => by cases hh⟩
    unfold gX12_layRest
    rw [in50_ok, zbi_s, if_pos hx, if_neg (show ¬ (1 : Int32) = 0 by decide), s2, zbI_s, if_pos (show (-6 : Int32) < 0 by decide)]
    rfl
  · have htr := tr_ok (e := (L.1 L.2.2.1).2.2.1) (d := (L.1 L.2.2.1).2.2.2) k1 k2 k3 hm hg k4 k5 k6 k7 hn
    obtain ⟨h2, r1, r2, r3, r4⟩ := restsAt_ok a3 a4 hn y6 htr hx
    obtain ⟨x1, x2⟩ := stX_sec a2 a3 r2 r3
    obtain ⟨J2, t1, t2⟩ := restM (T := seT (L.1 L.2.2.1) m g) (p := seP (L.1 L.2.2.1) m g) b2.1 hn J' hT y6.1 y6.2.2 htr hx
    refine ⟨h1, o1, s, c, h2, I', J2, reB (L.1 L.2.2.1) m g x3.toInt, a1, r1, x1, x2, r3, ⟨by rw [r2.1.1]; exact a5.1, by rw [r2.1.2]; exact a5.2⟩, ?_, b3, b2, fun hh => ⟨hn, hh, r4 hh, t2 hh⟩⟩
    unfold gX12_layRest
    rw [in50_ok, zbi_s, if_pos hx, if_neg (show ¬ (1 : Int32) = 0 by decide), s2, zbI_s, if_neg (show ¬ (0 : Int32) < 0 by decide)]
    exact t1
theorem layRest_no {x1 x2 : Int32} (e2 : gX12_noSector (mH I J) 0 x1 x2 = some 1) (x3 : Int32) : gX12_layRest (mH I J) 0 x1 x2 x3 = some (0, mH I J) := by
  unfold gX12_layRest
  rw [in50_ok, zbi_s]
  by_cases hx : x3.toInt.natAbs ≤ 50
  · rw [if_pos hx, if_neg (show ¬ (1 : Int32) = 0 by decide), laySec_no e2, zbI_s, if_pos (show (-2 : Int32) < 0 by decide)]
  · rw [if_neg hx, if_pos (show (0 : Int32) = 0 from rfl)]
theorem layRest_far (x1 x2 : Int32) {x3 : Int32} (hx : ¬ x3.toInt.natAbs ≤ 50) : gX12_layRest (mH I J) 0 x1 x2 x3 = some (0, mH I J) := by
  unfold gX12_layRest
  rw [in50_ok, zbi_s, if_neg hx, if_pos (show (0 : Int32) = 0 from rfl)]
theorem rest_st (p : stX (seC QTc QRc) h o L n w S fa tr) (q : stM I L n w S fa tr) (k : stOk L n w S) (x1 x2 x3 x4 : Int32) : stG (seC QTc QRc) (gX11_rest h 0 x1 x2 x3 x4) (gX12_rest (mH I J) 0 x1 x2 x3 x4) h := by
  obtain ⟨cc, c1, c2⟩ := cn_st p k.1
  have hc := (k.1.2.2 _ k.1.1).1
  have hJ1 : ∀ g', gX12_rest_J1 g' = some (-9223372036854775808, g') := fun g' => by
    unfold gX12_rest_J1 gX12_lost
    rw [zbj_s]
  unfold gX11_rest gX12_rest
  simp only [zjn_]
  rcases noSec_ok c1 c2.2.1 (mc_st (J := J) q).1 hc.2.1 x1 x2 with ⟨e1, e2⟩ | ⟨m, g, hm, hg, rfl, rfl, e1, e2⟩
  · rw [e1, zbi_s, if_neg (show ¬ (1 : Int32) = 0 by decide), layRest_no e2, zbI_s, if_pos (show (0 : Int32) = 0 from rfl), hJ1]
    exact stG_0 p q k _
  · rw [e1, zbi_s, if_pos (show (0 : Int32) = 0 from rfl), tooFar_ok, zbi_s]
    by_cases hx : x3.toInt.natAbs ≤ 50
    · obtain ⟨h1, o1, s, c, h2, I', J', fl, a1, a2, a3, a4, a5, a6, b1, b2, b3, b4⟩ := both_rest (J := J) p q k hm hg e2 hx
      have h38 : seN (L.1 L.2.2.1) m g ≤ 38 := b3.2.1
      rw [if_pos hx, if_pos (show (0 : Int32) = 0 from rfl), a1, zbR_s, zob_s, a2, zbI_s, b1, zbI_s]
      cases fl with
      | false =>
        rw [if_neg (show ¬ false = true by decide), if_pos (show (0 : Int32) = 0 from rfl), if_pos (show (0 : Int32) = 0 from rfl), hJ1]
        exact ⟨_, h2, I', J', o1, L, n, w, S, fa, tr, rfl, rfl, a3, b2, k, a6⟩
      | true =>
        obtain ⟨hn, -, r1, r2⟩ := b4 rfl
        have m5 : zI (mH I' J') 0 5 = nI (seN (L.1 L.2.2.1) m g) := b3.1
        rw [if_pos (show true = true from rfl), if_neg (show ¬ (1 : Int32) = 0 by decide), if_neg (show ¬ (1 : Int32) = 0 by decide), hasOrbit_ok a4.2.2.1 (seK_13 a5) h38, zbi_s, m5, inK_ok (by omega), zbi_s]
        by_cases i4 : inR x4 (seN (L.1 L.2.2.1) m g)
        · rw [if_pos i4, if_neg (show ¬ (1 : Int32) = 0 by decide), if_neg (show ¬ (1 : Int32) = 0 by decide)]
          obtain ⟨i, hi, rfl⟩ := inR_f i4
          obtain ⟨r5, l5⟩ : zR h2 s 5 = some (s + 6) ∧ zL h2 (s + 6) = 10 := a4.2.2.1 5 (by omega)
          have v2 : zJ (mH I' J') 13 i = reR (L.1 L.2.2.1) m g x3.toInt i := r2 i hi
          rw [zlt_, r5, zob_s, l5, zg_t (zin_nI (show i < 10 by omega) (by omega)), zx_nI (show i < 2 ^ 31 by omega), r1 i hi, zlt_, mR_18, zob_s, min_ (mL_13 _ _) (show i < 10 by omega) (by omega), zg_1, v2]
          exact ⟨_, h2, I', J', o1, L, n, w, S, fa, tr, rfl, rfl, a3, b2, k, a6⟩
        · rw [if_neg i4, if_pos (show (0 : Int32) = 0 from rfl), if_pos (show (0 : Int32) = 0 from rfl), hJ1]
          exact ⟨_, h2, I', J', o1, L, n, w, S, fa, tr, rfl, rfl, a3, b2, k, a6⟩
    · rw [if_neg hx, if_neg (show ¬ (1 : Int32) = 0 by decide), layRest_far _ _ hx, zbI_s, if_pos (show (0 : Int32) = 0 from rfl), hJ1]
      exact stG_0 p q k _
end Ops
/-! what is seen -/
theorem tup_fin : (List.range 9).all (fun N => Nat.ble N 1 || (List.range 2).all (fun r => (List.range (2 ^ N)).all (fun f => Nat.beq (poN (tuN N r f)) (poN f)))) = true := by decide +kernel
theorem tu_pop {N r f : Nat} (h2 : 2 ≤ N) (hN : N ≤ 8) (hr : r ≤ 1) (hf : f < 2 ^ N) : poN (tuN N r f) = poN f := by
  have h1 := List.all_eq_true.mp tup_fin N (List.mem_range.mpr (by omega))
  rw [Bool.or_eq_true] at h1
  rcases h1 with h1 | h1
  · exact absurd (Nat.le_of_ble_eq_true h1) (by omega)
  exact Nat.eq_of_beq_eq_true (List.all_eq_true.mp (List.all_eq_true.mp h1 r (List.mem_range.mpr (by omega))) f (List.mem_range.mpr hf))
theorem tuP_pop {N r f : Nat} (h2 : 2 ≤ N) (hN : N ≤ 8) (hr : r ≤ 1) (hf : f < 2 ^ N) : ∀ k, poN (tuP N r f k) = poN f
  | 0 => rfl
  | k + 1 => (tu_pop h2 hN hr (tuP_lt h2 hN hr hf k)).trans (tuP_pop h2 hN hr hf k)
theorem hdA_isH {N r m g i : Nat} (hi : i < (hdL N r m g).length) : poN (hdA N r m g i) = m ∧ 1 ≤ olN N r (hdA N r m g i) := by
  have h1 := List.mem_of_getElem? (hdA_s hi)
  unfold hdL at h1
  have h2 := (List.mem_filter.mp h1).2
  unfold isH at h2
  obtain ⟨h3, h4⟩ := syc_f h2
  refine ⟨Nat.eq_of_beq_eq_true h3, ?_⟩
  rw [syf_eq] at h4
  unfold ldN at h4
  generalize olN N r (hdA N r m g i) = l at *
  cases l with
  | zero =>
    have h5 : false = true := h4
    cases h5
  | succ l => omega
theorem orb_sum {I : Nat → Nat → Int32} {N r m g : Nat} (hI : lyI I N r m g) {j : Nat} (hj : j < (hdL N r m g).length) (F : Nat → Int64) : sF (fun s => if I 2 s = nI j then F s else 0) (List.range (2 ^ N)) = sF (fun k => F (tuP N r (hdA N r m g j) k)) (List.range (olN N r (hdA N r m g j))) := by
  obtain ⟨-, h38, k1, k2⟩ := hI
  obtain ⟨-, a2, a3⟩ := k1 j _ (hdA_s hj)
  have h1 : ∀ s ∈ List.range (2 ^ N), (if I 2 s = nI j then F s else 0) = if s ∈ (List.range (olN N r (hdA N r m g j))).map (tuP N r (hdA N r m g j)) then F s else 0 := by
    intro s hs
    by_cases h2 : I 2 s = nI j
    · rw [if_pos h2]
      rcases k2 s (List.mem_range.mp hs) with h3 | ⟨i', x, k, b1, b2, b3, b4⟩
      · rw [h2] at h3
        exact absurd h3 (nI_pos (by omega))
      · have e1 : i' = j := by
          have hi' : i' < (hdL N r m g).length := by
            apply Classical.byContradiction
            intro hh
            rw [List.getElem?_eq_none (by omega)] at b1
            cases b1
          exact (nI_inj (by omega) (by omega)).mp (b2.symm.trans h2)
        subst e1
        have e2 : x = hdA N r m g i' := Option.some.inj (b1.symm.trans (hdA_s hj))
        subst e2
        rw [if_pos (List.mem_map.mpr ⟨k, List.mem_range.mpr b3, b4.symm⟩)]
    · rw [if_neg h2, if_neg (fun hh => by
        obtain ⟨k, c1, c2⟩ := List.mem_map.mp hh
        exact h2 (c2 ▸ (a2 k (List.mem_range.mp c1)).1))]
  rw [sF_cg _ h1, sF_perm _ _ _ a3 (fun x hx => by
    obtain ⟨k, c1, c2⟩ := List.mem_map.mp hx
    exact c2 ▸ (a2 k (List.mem_range.mp c1)).2.2), sF_map]
/-- the two sums -/
noncomputable def seV (R : Nat → Int64) (a b : Nat) (o x : Nat) : Int64 := if x / 2 ^ a % 2 = x / 2 ^ b % 2 then R o * R o else -(R o * R o)
noncomputable def seU (N r m g : Nat) (F : Nat → Nat → Int64) (z : Nat) : Int64 := sF (fun o => sF (fun k => F o (tuP N r (hdA N r m g o) k)) (List.range (olN N r (hdA N r m g o)))) (List.range z)
theorem seU_M {I : Nat → Nat → Int32} {N r m g : Nat} (hI : lyI I N r m g) (F : Nat → Nat → Int64) (G : Nat → Int64) (hG : ∀ s, s < 2 ^ N → (I 2 s < 0 → G s = 0) ∧ ∀ o, o < (hdL N r m g).length → I 2 s = nI o → G s = F o s) : sF G (List.range (2 ^ N)) = seU N r m g F (hdL N r m g).length := by
  have h38 := hI.2.1
  have e1 : sF G (List.range (2 ^ N)) = sF (fun s => sF (fun o => if I 2 s = nI o then F o s else 0) (List.range (hdL N r m g).length)) (List.range (2 ^ N)) := sF_cg _ (fun s hs => by
    have hs := List.mem_range.mp hs
    rcases hI.2.2.2 s hs with h3 | ⟨i', x, k, b1, b2, b3, b4⟩
    · rw [(hG s hs).1 h3]
      exact (sF_z _ (fun o ho => if_neg (show ¬ I 2 s = nI o from fun hh => nI_pos (n := o) (by have := List.mem_range.mp ho; omega) (by rw [← hh]; exact h3)))).symm
    · have hi' : i' < (hdL N r m g).length := by
        apply Classical.byContradiction
        intro hh
        rw [List.getElem?_eq_none (by omega)] at b1
        cases b1
      rw [(hG s hs).2 i' hi' b2]
      have e2 : sF (fun o => if I 2 s = nI o then F o s else 0) (List.range (hdL N r m g).length) = sF (fun o => if o = i' then F o s else 0) (List.range (hdL N r m g).length) := sF_cg _ (fun o ho => by
        have ho := List.mem_range.mp ho
        by_cases h5 : o = i'
        · rw [if_pos h5, if_pos (by rw [h5]; exact b2)]
        · rw [if_neg h5, if_neg (fun hh => h5 ((nI_inj (by omega) (by omega)).mp (hh.symm.trans b2)))])
      rw [e2, sF_one (fun o => F o s), if_pos hi'])
  rw [e1, sF_sw]
  exact sF_cg _ (fun o ho => orb_sum hI (List.mem_range.mp ho) (F o))
/-- sums of what isn't below 0 -/
theorem sF_pos (F : Nat → Int64) (B : Nat) (hB : B ≤ 100000000000000) : ∀ l : List Nat, l.length ≤ 100 → (∀ x ∈ l, 0 ≤ (F x).toInt ∧ (F x).toInt ≤ B) → (0 ≤ (sF F l).toInt ∧ (sF F l).toInt ≤ l.length * B) ∧ ∀ x ∈ l, (F x).toInt ≤ (sF F l).toInt
  | [], _, _ => ⟨⟨Int.le_refl _, by simp [sF]⟩, fun x hx => by simp at hx⟩
  | a :: l, hl, h => by
    have hl' : l.length + 1 ≤ 100 := hl
    obtain ⟨⟨i1, i2⟩, i3⟩ := sF_pos F B hB l (by omega) (fun x hx => h x (List.mem_cons_of_mem _ hx))
    obtain ⟨b1, b2⟩ := h a List.mem_cons_self
    have hm : l.length * B ≤ 100 * 100000000000000 := Nat.mul_le_mul (by omega) hB
    have e : (F a + sF F l).toInt = (F a).toInt + (sF F l).toInt := by
      rw [Int64.toInt_add]
      exact bm63 (by omega) (by omega)
    refine ⟨?_, fun x hx => ?_⟩
    · show 0 ≤ (F a + sF F l).toInt ∧ (F a + sF F l).toInt ≤ ((l.length + 1 : Nat) : Int) * B
      rw [e]
      have : ((l.length + 1 : Nat) : Int) * B = (l.length : Int) * B + B := by
        rw [show ((l.length + 1 : Nat) : Int) = (l.length : Int) + 1 by omega, Int.add_mul, Int.one_mul]
      omega
    · show (F x).toInt ≤ (F a + sF F l).toInt
      rw [e]
      rcases List.mem_cons.mp hx with rfl | hx
      · omega
      · have := i3 x hx
        omega
abbrev mnJ : Int64 := -9223372036854775808
theorem cm_mn : cmV 0 0 = 0 ∧ cmV 0 mnJ = mnJ ∧ cmV mnJ 0 = mnJ ∧ cmV mnJ mnJ = mnJ := by decide +kernel
theorem gdV_mn (col : Nat → Int64) : ∀ z, (∀ i, i < z → col i = 0 ∨ col i = mnJ) → gdV col z = 0 ∨ gdV col z = mnJ
  | 0, _ => Or.inl rfl
  | z + 1, h => by
    obtain ⟨c1, c2, c3, c4⟩ := cm_mn
    show cmV (gdV col z) (col z) = 0 ∨ cmV (gdV col z) (col z) = mnJ
    rcases gdV_mn col z (fun i hi => h i (by omega)) with e | e <;> rcases h z (by omega) with e2 | e2 <;> rw [e, e2]
    · exact Or.inl c1
    · exact Or.inr c2
    · exact Or.inr c3
    · exact Or.inr c4
theorem byV_n (col : Nat → Int64) (n : Nat) : (byV col n).toInt.natAbs = (gdV col n).toInt.natAbs := by
  unfold byV
  split
  · have h := absJ_n (-gdV col n)
    have h1 := (gdV col n).le_toInt
    have h2 := (gdV col n).toInt_lt
    rw [Int64.toInt_neg]
    by_cases h3 : (gdV col n).toInt = -9223372036854775808
    · rw [h3]; decide
    · rw [bm63 (by omega) (by omega)]; omega
  · rfl
/-- some share is neither 0 nor the lowest long -/
theorem share_ne {col : Nat → Int64} {n : Nat} (hd : gdV col n ≠ 0) : ∃ i, i < n ∧ rtV col n i ≠ 0 ∧ rtV col n i ≠ mnJ := by
  have hbn := byV_n col n
  have hgn := ne0_nat.mp hd
  have hne : ∃ i, i < n ∧ col i ≠ 0 := by
    apply Classical.byContradiction
    intro hh
    exact hd ((gdV_0 col n).mpr (fun i hi => Classical.byContradiction (fun h2 => hh ⟨i, hi, h2⟩)))
  have hnz : ∀ i, i < n → col i ≠ 0 → rtV col n i ≠ 0 := fun i hi h1 => by
    have hle := gdV_le col n i hi h1
    unfold rtV
    rw [div_oI]
    intro h2
    have h3 := congrArg Int64.toInt h2
    rw [Int64.toInt_ofInt, show (0 : Int64).toInt = 0 from rfl] at h3
    have h4 : 1 ≤ ((col i).toInt.tdiv (byV col n).toInt).natAbs := by
      rw [Int.natAbs_tdiv, hbn]
      exact (Nat.one_le_div_iff (by omega)).mpr hle
    have h5 : ((col i).toInt.tdiv (byV col n).toInt).natAbs ≤ 9223372036854775808 := by
      rw [Int.natAbs_tdiv]
      have h6 := (col i).le_toInt
      have h7 := (col i).toInt_lt
      exact Nat.le_trans (Nat.div_le_self _ _) (by omega)
    have h8 : ((col i).toInt.tdiv (byV col n).toInt).bmod 18446744073709551616 = 0 := h3
    generalize (col i).toInt.tdiv (byV col n).toInt = z at *
    unfold Int.bmod at h8
    simp only [] at h8
    split at h8 <;> omega
  apply Classical.byContradiction
  intro hh
  have hall : ∀ i, i < n → col i ≠ 0 → rtV col n i = mnJ := fun i hi h1 => Classical.byContradiction (fun h2 => hh ⟨i, hi, hnz i hi h1, h2⟩)
  have hcol : ∀ i, i < n → col i ≠ 0 → (col i).toInt.natAbs = 9223372036854775808 ∧ (gdV col n).toInt.natAbs = 1 := fun i hi h1 => by
    have h2 := hall i hi h1
    unfold rtV at h2
    rw [div_oI] at h2
    have h3 := congrArg Int64.toInt h2
    rw [Int64.toInt_ofInt, show mnJ.toInt = -9223372036854775808 by decide] at h3
    have h8 : ((col i).toInt.tdiv (byV col n).toInt).bmod 18446744073709551616 = -9223372036854775808 := h3
    have h6 := (col i).le_toInt
    have h7 := (col i).toInt_lt
    have h9 : ((col i).toInt.tdiv (byV col n).toInt).natAbs = (col i).toInt.natAbs / (gdV col n).toInt.natAbs := by rw [Int.natAbs_tdiv, hbn]; rfl
    have h10 : (col i).toInt.natAbs / (gdV col n).toInt.natAbs ≤ (col i).toInt.natAbs := Nat.div_le_self _ _
    generalize hz : (col i).toInt.tdiv (byV col n).toInt = z at *
    have h11 : z.natAbs = 9223372036854775808 := by
      unfold Int.bmod at h8
      simp only [] at h8
      split at h8 <;> omega
    have h12 : (col i).toInt.natAbs = 9223372036854775808 := by omega
    refine ⟨h12, ?_⟩
    rw [h9, h12] at h11
    apply Classical.byContradiction
    intro h13
    have h14 : 9223372036854775808 / (gdV col n).toInt.natAbs ≤ 9223372036854775808 / 2 := Nat.div_le_div_left (by omega) (by omega)
    omega
  obtain ⟨i0, hi0, h0⟩ := hne
  have hg1 := (hcol i0 hi0 h0).2
  have hmn : gdV col n = 0 ∨ gdV col n = mnJ := gdV_mn col n (fun i hi => by
    by_cases h1 : col i = 0
    · exact Or.inl h1
    · refine Or.inr (Int64.toInt_inj.mp ?_)
      have h2 := (hcol i hi h1).1
      have h7 := (col i).toInt_lt
      rw [show mnJ.toInt = -9223372036854775808 by decide]
      omega)
  rcases hmn with e | e
  · exact hd e
  · rw [e, show mnJ.toInt.natAbs = 9223372036854775808 by decide] at hg1
    omega
theorem sq_b {x : Int64} (h : absJ x ≤ 1000000) : 0 ≤ (x * x).toInt ∧ (x * x).toInt ≤ (1000000000000 : Nat) ∧ (x ≠ 0 → x ≠ mnJ → 1 ≤ (x * x).toInt) := by
  by_cases hm : x = mnJ
  · have e : x * x = 0 := by rw [hm]; decide
    rw [e]
    exact ⟨by decide, by decide, fun _ h2 => absurd hm h2⟩
  · have h1 : x.toInt.natAbs ≤ 1000000 := by
      have h2 := absJ_n x
      have h3 : (absJ x).toInt ≤ 1000000 := (Int64.le_iff_toInt_le.mp h)
      have h4 : 0 ≤ (absJ x).toInt := by
        unfold absJ
        by_cases h5 : x < 0
        · rw [if_pos h5, Int64.toInt_neg]
          have h6 := x.le_toInt
          have h7 : x.toInt < 0 := Int64.lt_iff_toInt_lt.mp h5
          have h8 : x.toInt ≠ -9223372036854775808 := fun hh => hm (Int64.toInt_inj.mp (hh.trans (by decide)))
          rw [bm63 (by omega) (by omega)]; omega
        · rw [if_neg h5]
          rw [Int64.lt_iff_toInt_lt, show (0 : Int64).toInt = 0 from rfl] at h5
          omega
      omega
    have h2 : (x.toInt * x.toInt).natAbs ≤ 1000000 * 1000000 := by
      rw [Int.natAbs_mul]
      exact Nat.mul_le_mul h1 h1
    have h3 : 0 ≤ x.toInt * x.toInt := by
      rcases Int.le_total 0 x.toInt with h4 | h4
      · exact Int.mul_nonneg h4 h4
      · exact Int.mul_nonneg_of_nonpos_of_nonpos h4 h4
    have e : (x * x).toInt = x.toInt * x.toInt := by
      rw [Int64.toInt_mul]
      exact bm63 (by omega) (by omega)
    rw [e]
    refine ⟨h3, by omega, fun h0 _ => ?_⟩
    have h5 : x.toInt ≠ 0 := fun hh => h0 (Int64.toInt_inj.mp (hh.trans (show (0 : Int) = (0 : Int64).toInt from rfl)))
    have h6 := Int.mul_ne_zero h5 h5
    omega
/-- the lower number isn't 0 -/
theorem down_ne {N r m g : Nat} (hn : (hdL N r m g).length ≤ 10) {R : Nat → Int64} (hR : ∀ i, i < (hdL N r m g).length → absJ (R i) ≤ 1000000) (hne : ∃ i, i < (hdL N r m g).length ∧ R i ≠ 0 ∧ R i ≠ mnJ) : seU N r m g (fun o _ => R o * R o) (hdL N r m g).length ≠ 0 := by
  have hin : ∀ o, o < (hdL N r m g).length → (0 ≤ (sF (fun _ => R o * R o) (List.range (olN N r (hdA N r m g o)))).toInt ∧ (sF (fun _ => R o * R o) (List.range (olN N r (hdA N r m g o)))).toInt ≤ (8000000000000 : Nat)) ∧ (R o ≠ 0 → R o ≠ mnJ → 1 ≤ (sF (fun _ => R o * R o) (List.range (olN N r (hdA N r m g o)))).toInt) := fun o ho => by
    obtain ⟨s1, s2, s3⟩ := sq_b (hR o ho)
    have hol := olN_le N r (hdA N r m g o)
    obtain ⟨⟨p1, p2⟩, p3⟩ := sF_pos (fun _ => R o * R o) 1000000000000 (by omega) (List.range (olN N r (hdA N r m g o))) (by rw [List.length_range]; omega) (fun x _ => ⟨s1, s2⟩)
    rw [List.length_range] at p2
    refine ⟨⟨p1, Int.le_trans p2 ?_⟩, fun h1 h2 => ?_⟩
    · have : ((olN N r (hdA N r m g o) : Nat) : Int) * ((1000000000000 : Nat) : Int) ≤ 8 * 1000000000000 := Int.mul_le_mul (by omega) (by omega) (by omega) (by omega)
      omega
    · have h3 := p3 0 (List.mem_range.mpr (by have := (hdA_isH ho).2; omega))
      have h4 := s3 h1 h2
      exact Int.le_trans h4 h3
  obtain ⟨i, hi, h1, h2⟩ := hne
  obtain ⟨-, q3⟩ := sF_pos (fun o => sF (fun _ => R o * R o) (List.range (olN N r (hdA N r m g o)))) 8000000000000 (by omega) (List.range (hdL N r m g).length) (by rw [List.length_range]; omega) (fun o ho => (hin o (List.mem_range.mp ho)).1)
  have h3 := q3 i (List.mem_range.mpr hi)
  have h4 := (hin i hi).2 h1 h2
  intro hh
  have h5 : (seU N r m g (fun o _ => R o * R o) (hdL N r m g).length).toInt = 0 := by rw [hh]; rfl
  have h6 : (sF (fun o => sF (fun _ => R o * R o) (List.range (olN N r (hdA N r m g o)))) (List.range (hdL N r m g).length)).toInt = 0 := h5
  omega
