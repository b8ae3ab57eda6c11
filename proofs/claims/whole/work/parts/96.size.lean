/-! the sector's arguments, how many orbits, which heads -/
section Ops
variable {SC : Ch → (Nat → Nat → Int32) → (Nat → Nat → Int64) → Prop} {QT QR : Qs} {h : Zh} {o : Nat → Nat} {L : Led} {n : Nat} {w : Nat → Wt} {S : Nat → Option Sh} {fa tr : Int32} {I : Nat → Nat → Int32} {J : Nat → Nat → Int64}
theorem noSec_ok {N : Nat} {c : Nat} {hm : Zh} (cn : cnAt h c) (hc : zI h c 0 = nI N) (hM : zI hm 0 1 = nI N) (hN : N ≤ 8) (x1 x2 : Int32) : (gX11_noSector h 0 x1 x2 = some 1 ∧ gX12_noSector hm 0 x1 x2 = some 1) ∨ ∃ m g, m ≤ N ∧ g ≤ 1 ∧ x1 = nI m ∧ x2 = nI (sgI g) ∧ gX11_noSector h 0 x1 x2 = some 0 ∧ gX12_noSector hm 0 x1 x2 = some 0 := by
  have hb : (nI N).toInt64.toInt = N := by rw [Int32.toInt_toInt64, nI_int (by omega)]
  have e1 : x1 < 0 ↔ x1.toInt < 0 := Int32.lt_iff_toInt_lt
  have e2 : nI N < x1 ↔ (N : Int) < x1.toInt := by rw [Int32.lt_iff_toInt_lt, nI_int (by omega)]
  unfold gX11_noSector gX12_noSector
  simp only [zjn_, zlt_]
  rw [cn.1, zob_s, chainNow_ok cn, zbr_s, zob_s, hc, hM, in_ii, zbi_s, show (0 : Int64).toInt = 0 from rfl, hb]
  by_cases h1 : 0 ≤ x1.toInt ∧ x1.toInt ≤ N
  · rw [if_pos h1, if_neg (show ¬ (1 : Int32) = 0 by decide), if_neg (fun hh => by have := e1.mp hh; omega), if_neg (fun hh => by have := e2.mp hh; omega)]
    obtain ⟨m, hm, rfl⟩ := inR_f (x := x1) (n := N + 1) (by unfold inR; omega)
    by_cases h2 : x2 = 1
    · rw [if_pos h2, if_pos h2]
      exact Or.inr ⟨m, 0, by omega, by omega, rfl, h2, rfl, rfl⟩
    · rw [if_neg h2, if_neg h2]
      by_cases h3 : x2 = -1
      · rw [if_pos h3, if_pos h3]
        exact Or.inr ⟨m, 1, by omega, by omega, rfl, h3.trans (by decide), rfl, rfl⟩
      · rw [if_neg h3, if_neg h3]
        exact Or.inl ⟨rfl, rfl⟩
  · rw [if_neg h1, if_pos rfl]
    refine Or.inl ⟨?_, rfl⟩
    by_cases h2 : x1 < 0
    · rw [if_pos h2]; rfl
    · rw [if_neg h2, if_pos (e2.mpr (by have h4 := Int.not_lt.mp (fun hh => h2 (e1.mpr hh)); omega))]; rfl
theorem hasOrbit_ok {s k : Nat} (hs : seR h s) (h13 : zI h s 13 = nI k) (hk : k ≤ 38) (x : Int32) : gX5_hasOrbit h s x = some (if inR x k then 1 else 0) := by
  obtain ⟨r0, l0⟩ := hs 0 (by omega)
  unfold gX5_hasOrbit gX5_hasOrbit_J1
  rw [zjn_, zlt_, r0, zob_s, h13, l0]
  have e1 : x < 0 ↔ x.toInt < 0 := Int32.lt_iff_toInt_lt
  have e2 : nI k ≤ x ↔ (k : Int) ≤ x.toInt := by rw [Int32.le_iff_toInt_le, nI_int (by omega)]
  have e3 : nI 38 ≤ x ↔ (38 : Int) ≤ x.toInt := by rw [Int32.le_iff_toInt_le, nI_int (by omega)]; rfl
  by_cases h1 : inR x k
  · have h2 := h1
    unfold inR at h2
    rw [if_pos h1, if_neg (fun hh => by have := e1.mp hh; omega), if_neg (fun hh => by have := e2.mp hh; omega)]
    exact if_neg (fun hh => by have := e3.mp hh; omega)
  · rw [if_neg h1]
    by_cases h2 : x < 0
    · rw [if_pos h2]
    · rw [if_neg h2, if_pos (e2.mpr (by
        apply Classical.byContradiction
        intro hh
        exact h1 ⟨Int.not_lt.mp (fun h3 => h2 (e1.mpr h3)), by omega⟩))]
/-- both sides at a sector that there is -/
theorem sec_both {m g : Nat} (p : stX (seC QT QR) h o L n w S fa tr) (q : stM I L n w S fa tr) (k : stOk L n w S) (hm : m ≤ (L.1 L.2.2.1).1) (hg : g ≤ 1) : (∃ h' o' s c, gX11_sectorOf h 0 (nI m) (nI (sgI g)) = some (some s, h') ∧ stX (seC QT QR) h' o' L n w S fa tr ∧ seB h' o' s c (L.1 L.2.2.1) ∧ seK QT QR (L.1 L.2.2.1) m g (aI h' s) (aJ h' s) ∧ zN h' ≤ zN h + 9 ∧ zS h' ≤ zS h + 400) ∧ ∃ I' J', gX12_layOrbits (mH I J) 0 (nI m) (nI (sgI g)) = some (mH I' J') ∧ lyI I' (L.1 L.2.2.1).1 (L.1 L.2.2.1).2.1 m g ∧ stM I' L n w S fa tr := by
  obtain ⟨k1, k2, k3, k4, k5, k6, k7⟩ := (k.1.2.2 _ k.1.1).1
  refine ⟨sectorOf_ok p k.1 hm hg, ?_⟩
  obtain ⟨I', J', t1, t2, t3, t4⟩ := layOrbits_ok (J := J) (mc_st q) k1 k2 k3 hm hg
  exact ⟨I', J', t1, t2, stM.mv k.1 t3 q⟩
theorem size_st (p : stX (seC QT QR) h o L n w S fa tr) (q : stM I L n w S fa tr) (k : stOk L n w S) (x1 x2 : Int32) : stG (seC QT QR) (gX11_size h 0 x1 x2) (gX12_size (mH I J) 0 x1 x2) h := by
  obtain ⟨c, c1, c2⟩ := cn_st p k.1
  have hc := (k.1.2.2 _ k.1.1).1
  unfold gX11_size gX12_size
  rcases noSec_ok c1 c2.2.1 (mc_st (J := J) q).1 hc.2.1 x1 x2 with ⟨e1, e2⟩ | ⟨m, g, hm, hg, rfl, rfl, e1, e2⟩
  · rw [e1, e2, zbi_s, zbi_s, if_neg (by decide), if_neg (by decide)]
    exact stG_0 p q k _
  · obtain ⟨⟨h', o', s, c', a1, a2, a3, a4, a5, a6⟩, I', J', b1, b2, b3⟩ := sec_both (J := J) p q k hm hg
    rw [e1, e2, zbi_s, zbi_s, if_pos rfl, if_pos rfl, a1, zbR_s, zob_s, b1, zbV_s]
    have s13 : zI h' s 13 = zI (mH I' J') 0 5 := by
      have := a4.2.2.1.2.2.1
      rw [aI_i _ _ _ _ (by omega), Nat.add_zero] at this
      exact this.trans b2.1.symm
    rw [s13]
    exact ⟨_, h', I', J', o', L, n, w, S, fa, tr, rfl, rfl, a2, b3, k, by omega, by omega⟩
theorem getL {α : Type} (l : List α) (i : Nat) (h : i < l.length) : ∃ x, l[i]? = some x := ⟨l[i], List.getElem?_eq_getElem h⟩
theorem inK_ok {k : Nat} (hk : k ≤ 2000000) (x : Int32) : gX12_in x.toInt64 0 ((nI k).toInt64 - 1) = some (if inR x k then 1 else 0) := by
  rw [in_ii]
  have : ((nI k).toInt64 - 1).toInt = (k : Int) - 1 := by
    have h1 : (nI k).toInt64.toInt = k := by rw [Int32.toInt_toInt64, nI_int (by omega)]
    rw [Int64.toInt_sub, h1, show (1 : Int64).toInt = 1 from rfl]
    apply Int.bmod_eq_of_le <;> omega
  rw [this, show (0 : Int64).toInt = 0 from rfl]
  refine congrArg some ?_
  by_cases h1 : inR x k
  · rw [if_pos h1, if_pos ⟨h1.1, by have := h1.2; omega⟩]
  · rw [if_neg h1, if_neg (fun hh => h1 ⟨hh.1, by have := hh.2; omega⟩)]
theorem head_st (p : stX (seC QT QR) h o L n w S fa tr) (q : stM I L n w S fa tr) (k : stOk L n w S) (x1 x2 x3 : Int32) : stG (seC QT QR) (gX11_head h 0 x1 x2 x3) (gX12_head (mH I J) 0 x1 x2 x3) h := by
  obtain ⟨c, c1, c2⟩ := cn_st p k.1
  have hc := (k.1.2.2 _ k.1.1).1
  unfold gX11_head gX12_head
  rcases noSec_ok c1 c2.2.1 (mc_st (J := J) q).1 hc.2.1 x1 x2 with ⟨e1, e2⟩ | ⟨m, g, hm, hg, rfl, rfl, e1, e2⟩
  · rw [e1, e2, zbi_s, zbi_s, if_neg (by decide), if_neg (by decide)]
    exact stG_0 p q k _
  · obtain ⟨⟨h', o', s, c', a1, a2, a3, a4, a5, a6⟩, I', J', b1, b2, b3⟩ := sec_both (J := J) p q k hm hg
    rw [e1, e2, zbi_s, zbi_s, if_pos rfl, if_pos rfl, a1, zbR_s, zob_s, b1, zbV_s]
    have s13 := a4.2.2.1.2.2.1
    rw [aI_i _ _ _ _ (by omega), Nat.add_zero] at s13
    have m5 : zI (mH I' J') 0 5 = _ := b2.1
    have h38 := b2.2.1
    rw [hasOrbit_ok a3.2.2.1 s13 h38, m5, inK_ok (by omega), zbi_s, zbi_s]
    by_cases h1 : inR x3 (hdL (L.1 L.2.2.1).1 (L.1 L.2.2.1).2.1 m g).length
    · rw [if_pos h1, if_neg (by decide), if_neg (by decide)]
      obtain ⟨i, hi, rfl⟩ := inR_f h1
      obtain ⟨x, hx⟩ := getL _ i hi
      obtain ⟨r0, l0⟩ := a3.2.2.1 0 (by omega)
      have v1 := a4.2.2.1.2.2.2 i x hx
      rw [aI_i _ _ _ _ (by omega)] at v1
      have v2 : zI (mH I' J') 1 i = nI x := (b2.2.2.1 i x hx).1
      rw [zlt_, zlt_, r0, zob_s, l0, mR_6, zob_s, mL_1]
      rw [zg_t (zin_nI (by show i < 38; omega) (by omega)), zg_t (zin_nI (by omega) (by omega)), zx_nI (by omega), v2]
      rw [show s + 1 + 0 = s + 1 from rfl, v1]
      exact ⟨_, h', I', J', o', L, n, w, S, fa, tr, rfl, rfl, a2, b3, k, by omega, by omega⟩
    · rw [if_neg h1, if_pos rfl, if_pos rfl]
      exact ⟨_, h', I', J', o', L, n, w, S, fa, tr, rfl, rfl, a2, b3, k, by omega, by omega⟩
end Ops
