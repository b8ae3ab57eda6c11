/-! the sector solved: entry, poly -/
noncomputable abbrev seT (ch : Ch) (m g : Nat) : Nat → Nat → Int64 := tbV ch.1 ch.2.1 ch.2.2.1 ch.2.2.2 m g
noncomputable abbrev seN (ch : Ch) (m g : Nat) : Nat := (hdL ch.1 ch.2.1 m g).length
noncomputable abbrev seP (ch : Ch) (m g : Nat) : Nat → Int64 := bkP (seT ch m g) (seN ch m g)
def QTc : Qs := fun ch m g _ J => seN ch m g ≤ 10 ∧ (∀ i j, i < seN ch m g → j < seN ch m g → J 3 (10 * i + j) = seT ch m g i j) ∧ ∀ k, k ≤ seN ch m g → J 4 k = seP ch m g (seN ch m g - k)
def qrOk (QR : Qs) : Prop := ∀ ch m g I J I' J', QR ch m g I J → I 0 14 = 1 ∧ (I' 0 14 = I 0 14 → I' 0 16 = I 0 16 → I' 0 17 = I 0 17 → (∀ k, J' 6 k = J 6 k) → QR ch m g I' J')
section Ops
variable {QT QR : Qs} {h h' : Zh} {o : Nat → Nat} {L : Led} {n : Nat} {w : Nat → Wt} {S : Nat → Option Sh} {fa tr : Int32} {I : Nat → Nat → Int32} {J : Nat → Nat → Int64} {ch : Ch} {s c m g : Nat}
theorem seK_scr (hq : qrOk QR) (k : seK QTc QR ch m g (aI h s) (aJ h s)) (eI : ∀ a b, zI h' a b = zI h a b) (e3 : ∀ b, zJ h' (s + 3) b = zJ h (s + 3) b) (e4 : ∀ b, zJ h' (s + 4) b = zJ h (s + 4) b) (e6 : ∀ b, zJ h' (s + 6) b = zJ h (s + 6) b) : seK QTc QR ch m g (aI h' s) (aJ h' s) := by
  have eA : aI h' s = aI h s := by
    funext a b
    unfold aI
    rw [eI]
  have eJ : ∀ a, a < 9 → (∀ b, zJ h' (s + a) b = zJ h (s + a) b) → ∀ b, aJ h' s a b = aJ h s a b := fun a ha hh b => by
    rw [aJ_i _ _ _ _ ha, aJ_i _ _ _ _ ha, hh]
  obtain ⟨k1, k2, k3, k4, k5⟩ := k
  rw [eA]
  refine ⟨k1, k2, k3, ?_, ?_⟩
  · rcases k4 with k4 | ⟨k4, q1, q2, q3⟩
    · exact Or.inl k4
    · exact Or.inr ⟨k4, q1, fun i j hi hj => (eJ 3 (by omega) e3 _).trans (q2 i j hi hj), fun b hb => (eJ 4 (by omega) e4 _).trans (q3 b hb)⟩
  · rcases k5 with k5 | ⟨k5, q⟩
    · exact Or.inl k5
    · exact Or.inr ⟨k5, (hq _ _ _ _ _ _ _ q).2 rfl rfl rfl (eJ 6 (by omega) e6)⟩
theorem seK_13 (k : seK QT QR ch m g (aI h s) (aJ h s)) : zI h s 13 = nI (seN ch m g) := by
  have := k.2.2.1.2.2.1
  rwa [aI_i _ _ _ _ (by omega), Nat.add_zero] at this
theorem seK_T (k : seK QTc QR ch m g (aI h s) (aJ h s)) (h14 : zI h s 14 = 1) : QTc ch m g (aI h s) (aJ h s) := by
  rcases k.2.2.2.1 with q | q
  · rw [aI_i _ _ _ _ (by omega), Nat.add_zero, h14] at q
    exact absurd q (by decide)
  · exact q.2
theorem solve_ok (hq : qrOk QR) (b : seB h o s c ch) (k : seK QTc QR ch m g (aI h s) (aJ h s)) (hn : seN ch m g ≤ 10) : ∃ h', gX5_solve h s = some (1, h') ∧ scM s h h' ∧ seK QTc QR ch m g (aI h' s) (aJ h' s) ∧ zI h' s 14 = 1 := by
  have h13 := seK_13 k
  obtain ⟨b1, b2, b3, b4, b5, b6, b7⟩ := b
  obtain ⟨c1, c2, c3, c4, c5, c6, c7⟩ := b7
  unfold gX5_solve
  rw [h13, if_pos (show nI (seN ch m g) ≤ 10 from nI_le (b := 10) hn (by decide))]
  obtain ⟨k1, k2, k3, k4, k5⟩ := k
  have k4' := k4
  rw [aI_i _ _ _ _ (by omega), Nat.add_zero] at k4'
  rcases k4' with e | ⟨e, q⟩
  · rw [if_pos e, fillTable_ok b3 b5 b6.2 c1 c2 c3 k2 c6 c7 k3 hn, zbV_s]
    generalize hG : cwG (tbT ch.1 ch.2.1 ch.2.2.1 ch.2.2.2 m g) (fun j => olN ch.1 ch.2.1 (hdA ch.1 ch.2.1 m g j)) (hdL ch.1 ch.2.1 m g).length (z0f (zJ h (s + 3)) 100) (hdL ch.1 ch.2.1 m g).length 0 0 = G
    have hT : ∀ i j, i < seN ch m g → j < seN ch m g → zJ (wRJ h (s + 3) G) (s + 3) (10 * i + j) = seT ch m g i j := fun i j hi hj => by
      rw [wRJ_e, ← hG]
      exact cwG_v _ _ _ hi hj hn
    have sr : seR (wRJ h (s + 3) G) s := b3.mv (scM.W h (s + 3) G (by omega))
    obtain ⟨C', X', P', Q', g1, g2⟩ := findPoly_ok sr hn hT h13 (zJ (wRJ h (s + 3) G) (s + 4)) (zJ (wRJ h (s + 3) G) (s + 5)) (zJ (wRJ h (s + 3) G) (s + 6)) (zJ (wRJ h (s + 3) G) (s + 7)) (zJ (wRJ h (s + 3) G) (s + 8))
    rw [s5_self] at g1
    rw [g1, zbV_s, zlt_]
    refine ⟨_, rfl, ((scM.W h (s + 3) G (by omega)).tr (s5_m _ _ _ _ _ _ _)).tr (scM.I _ _ _ _ (by omega)), ?_, by rw [zI_s, if_pos ⟨rfl, rfl⟩]⟩
    generalize hh3 : zsI (s5 (wRJ h (s + 3) G) s C' X' (zJ (wRJ h (s + 3) G) (s + 6)) P' Q') s 14 1 = h3
    have hI : ∀ a b, ¬ (a = s ∧ b = 14) → zI h3 a b = zI h a b := fun a b hab => by
      rw [← hh3, zI_s, if_neg hab]; rfl
    have hA : ∀ a b, a < 9 → ¬ (a = 0 ∧ b = 14) → aI h3 s a b = aI h s a b := fun a b ha hab => by
      rw [aI_i _ _ _ _ ha, aI_i _ _ _ _ ha, hI _ _ (by omega)]
    refine ⟨k1, k2, ⟨?_, ?_, ?_, fun i x hx => ?_⟩, Or.inr ⟨?_, hn, fun i j hi hj => ?_, fun b hb => ?_⟩, ?_⟩
    · rw [hA _ _ (by omega) (by omega)]; exact k3.1
    · rw [hA _ _ (by omega) (by omega)]; exact k3.2.1
    · rw [hA _ _ (by omega) (by omega)]; exact k3.2.2.1
    · rw [hA _ _ (by omega) (by omega)]; exact k3.2.2.2 i x hx
    · rw [aI_i _ _ _ _ (by omega), Nat.add_zero, ← hh3, zI_s, if_pos ⟨rfl, rfl⟩]
    · rw [aJ_i _ _ _ _ (by omega), ← hh3, zJ_sI, s5_n _ _ _ _ _ _ _ _ _ (by omega)]
      exact hT i j hi hj
    · rw [aJ_i _ _ _ _ (by omega), ← hh3, zJ_sI, s5_4]
      exact g2 b hb
    · rcases k5 with k5 | ⟨k5, q⟩
      · exact Or.inl (by rw [hA _ _ (by omega) (by omega)]; exact k5)
      · have := (hq _ _ _ _ _ (aI h s) (aJ h s) q).1
        rw [aI_i _ _ _ _ (by omega), Nat.add_zero, e] at this
        exact absurd this (by decide)
  · rw [if_neg (by rw [e]; decide)]
    exact ⟨h, rfl, scM.rf s h, ⟨k1, k2, k3, k4, k5⟩, e⟩
theorem solve_no (k : seK QT QR ch m g (aI h s) (aJ h s)) (hn : 10 < seN ch m g) (h38 : seN ch m g ≤ 38) : gX5_solve h s = some (0, h) := by
  unfold gX5_solve
  rw [seK_13 k, if_neg (show ¬ nI (seN ch m g) ≤ 10 from zge_n (a := 10) hn (by omega))]
/-- both sides at a sector, solved where it can be -/
theorem both_solve (hq : qrOk QR) (p : stX (seC QTc QR) h o L n w S fa tr) (q : stM I L n w S fa tr) (k : stOk L n w S) (hm : m ≤ (L.1 L.2.2.1).1) (hg : g ≤ 1) (e2 : gX12_noSector (mH I J) 0 (nI m) (nI (sgI g)) = some 0) : ∃ h1 o1 s c I' J', gX11_sectorOf h 0 (nI m) (nI (sgI g)) = some (some s, h1) ∧ stX (seC QTc QR) h1 o1 L n w S fa tr ∧ seB h1 o1 s c (L.1 L.2.2.1) ∧ seK QTc QR (L.1 L.2.2.1) m g (aI h1 s) (aJ h1 s) ∧ stP h h1 ∧ stM I' L n w S fa tr ∧ lyI I' (L.1 L.2.2.1).1 (L.1 L.2.2.1).2.1 m g ∧ ((10 < seN (L.1 L.2.2.1) m g ∧ gX5_solve h1 s = some (0, h1) ∧ gX12_laySector (mH I J) 0 (nI m) (nI (sgI g)) = some (-6, mH I' J')) ∨ (seN (L.1 L.2.2.1) m g ≤ 10 ∧ gX12_laySector (mH I J) 0 (nI m) (nI (sgI g)) = some (0, mH I' J') ∧ (∀ i j, i < seN (L.1 L.2.2.1) m g → j < seN (L.1 L.2.2.1) m g → J' 5 (10 * i + j) = seT (L.1 L.2.2.1) m g i j) ∧ ∃ h2, gX5_solve h1 s = some (1, h2) ∧ stX (seC QTc QR) h2 o1 L n w S fa tr ∧ seB h2 o1 s c (L.1 L.2.2.1) ∧ seK QTc QR (L.1 L.2.2.1) m g (aI h2 s) (aJ h2 s) ∧ zI h2 s 14 = 1 ∧ stP h h2 ∧ tabOk (seT (L.1 L.2.2.1) m g) (seN (L.1 L.2.2.1) m g))) := by
  obtain ⟨⟨h1, o1, s, c, a1, a2, a3, a4, a5, a6⟩, I', J1, b1, b2, b3⟩ := sec_both (J := J) p q k hm hg
  obtain ⟨k1, k2, k3, k4, k5, k6, k7⟩ := (k.1.2.2 _ k.1.1).1
  have hp : stP h h1 := ⟨by omega, by omega⟩
  have m5 : zI (mH I' J1) 0 5 = nI (seN (L.1 L.2.2.1) m g) := b2.1
  by_cases hn : seN (L.1 L.2.2.1) m g ≤ 10
  · obtain ⟨J', t1, t2, -⟩ := layTable_ok J1 (mc_st b3) k1 k2 k3 b2 hn
    obtain ⟨h2, s1, s2, s3, s4⟩ := solve_ok hq a3 a4 hn
    obtain ⟨x1, x2⟩ := stX_sec a2 a3 s2 s3
    refine ⟨h1, o1, s, c, I', J', a1, a2, a3, a4, hp, b3, b2, Or.inr ⟨hn, ?_, t2, h2, s1, x1, x2, s3, s4, ?_, tab_ok k1 k2 k3 hm hg k4 k5 k6 k7 hn⟩⟩
    · unfold gX12_laySector
      rw [e2, zbi_s, if_pos rfl, b1, zbV_s, m5, if_pos (show nI (seN (L.1 L.2.2.1) m g) ≤ 10 from nI_le (b := 10) hn (by decide)), t1, zbV_s]
    · have e1 := s2.1.1
      have e2 := s2.1.2
      exact ⟨by rw [e1]; exact hp.1, by rw [e2]; exact hp.2⟩
  · refine ⟨h1, o1, s, c, I', J1, a1, a2, a3, a4, hp, b3, b2, Or.inl ⟨by omega, solve_no a4 (by omega) b2.2.1, ?_⟩⟩
    unfold gX12_laySector
    rw [e2, zbi_s, if_pos rfl, b1, zbV_s, m5, if_neg (show ¬ nI (seN (L.1 L.2.2.1) m g) ≤ 10 from zge_n (a := 10) (show 10 < seN (L.1 L.2.2.1) m g by omega) (by have h38 : seN (L.1 L.2.2.1) m g ≤ 38 := b2.2.1; omega))]
theorem laySec_no {x1 x2 : Int32} (e2 : gX12_noSector (mH I J) 0 x1 x2 = some 1) : gX12_laySector (mH I J) 0 x1 x2 = some (-2, mH I J) := by
  unfold gX12_laySector
  rw [e2, zbi_s, if_neg (by decide)]
theorem entry_st (hq : qrOk QR) (p : stX (seC QTc QR) h o L n w S fa tr) (q : stM I L n w S fa tr) (k : stOk L n w S) (x1 x2 x3 x4 : Int32) : stG (seC QTc QR) (gX11_entry h 0 x1 x2 x3 x4) (gX12_entry (mH I J) 0 x1 x2 x3 x4) h := by
  obtain ⟨cc, c1, c2⟩ := cn_st p k.1
  have hc := (k.1.2.2 _ k.1.1).1
  unfold gX11_entry gX12_entry
  simp only [zjn_]
  rcases noSec_ok c1 c2.2.1 (mc_st (J := J) q).1 hc.2.1 x1 x2 with ⟨e1, e2⟩ | ⟨m, g, hm, hg, rfl, rfl, e1, e2⟩
  · rw [e1, zbi_s, if_neg (by decide), laySec_no e2, zbI_s, if_pos (show (-2 : Int32) < 0 by decide)]
    unfold gX12_entry_J2 gX12_entry_J1 gX12_lost
    rw [if_neg (by decide), zbj_s]
    exact stG_0 p q k _
  · obtain ⟨h1, o1, s, c, I', J', a1, a2, a3, a4, a5, b3, b2, hcase⟩ := both_solve hq p q k hm hg e2
    have h38 : seN (L.1 L.2.2.1) m g ≤ 38 := b2.2.1
    rw [e1, zbi_s, if_pos rfl, a1, zbR_s, zob_s, hasOrbit_ok a3.2.2.1 (seK_13 a4) h38, hasOrbit_ok a3.2.2.1 (seK_13 a4) h38, zbi_s, zbi_s]
    have m5 : zI (mH I' J') 0 5 = nI (seN (L.1 L.2.2.1) m g) := b2.1
    have hlost : ∀ h2 o2, stX (seC QTc QR) h2 o2 L n w S fa tr → stP h h2 → stG (seC QTc QR) (some ((-9223372036854775808 : Int64), h2)) (some (-9223372036854775808, mH I' J')) h := fun h2 o2 z1 z2 => ⟨_, h2, I', J', o2, L, n, w, S, fa, tr, rfl, rfl, z1, b3, k, z2⟩
    have hJ2 : gX12_entry_J2 (gX12_entry_J1 0 x3 x4 (mH I' J')) = some (-9223372036854775808, mH I' J') := by
      unfold gX12_entry_J2 gX12_entry_J1 gX12_lost
      rw [if_neg (by decide), zbj_s]
    rcases hcase with ⟨hn, s1, s2⟩ | ⟨hn, s2, hT, h2, s1, y1, y2, y3, y4, y5, y6⟩
    · rw [s2, zbI_s, if_pos (show (-6 : Int32) < 0 by decide), hJ2]
      by_cases i3 : inR x3 (seN (L.1 L.2.2.1) m g)
      · rw [if_pos i3, if_neg (show ¬ (1 : Int32) = 0 by decide)]
        by_cases i4 : inR x4 (seN (L.1 L.2.2.1) m g)
        · rw [if_pos i4, if_neg (show ¬ (1 : Int32) = 0 by decide), s1, zbI_s, if_pos (show (0 : Int32) = 0 from rfl)]
          exact hlost _ _ a2 a5
        · rw [if_neg i4, if_pos (show (0 : Int32) = 0 from rfl)]
          exact hlost _ _ a2 a5
      · rw [if_neg i3, if_pos (show (0 : Int32) = 0 from rfl)]
        exact hlost _ _ a2 a5
    · rw [s2, zbI_s, if_neg (show ¬ (0 : Int32) < 0 by decide), m5, inK_ok (by omega), inK_ok (by omega), zbi_s, zbi_s]
      by_cases i3 : inR x3 (seN (L.1 L.2.2.1) m g)
      · rw [if_pos i3, if_neg (show ¬ (1 : Int32) = 0 by decide), if_neg (show ¬ (1 : Int32) = 0 by decide)]
        by_cases i4 : inR x4 (seN (L.1 L.2.2.1) m g)
        · rw [if_pos i4, if_neg (show ¬ (1 : Int32) = 0 by decide), if_neg (show ¬ (1 : Int32) = 0 by decide), s1, zbI_s, if_neg (show ¬ (1 : Int32) = 0 by decide)]
          obtain ⟨i, hi, rfl⟩ := inR_f i3
          obtain ⟨j, hj, rfl⟩ := inR_f i4
          obtain ⟨r2, l2⟩ : zR h2 s 2 = some (s + 3) ∧ zL h2 (s + 3) = 100 := y2.2.2.1 2 (by omega)
          have hn' : seN (L.1 L.2.2.1) m g ≤ 10 := hn
          have v1 : zJ h2 (s + 3) (10 * i + j) = seT (L.1 L.2.2.1) m g i j := by
            have := (seK_T y3 y4).2.1 i j hi hj
            rwa [aJ_i _ _ _ _ (by omega)] at this
          have v2 : zJ (mH I' J') 5 (10 * i + j) = seT (L.1 L.2.2.1) m g i j := hT i j hi hj
          unfold gX12_entry_J1
          rw [if_pos rfl, zlt_, zlt_, r2, zob_s, e10r, l2, zg_t (zin_nI (show 10 * i + j < 100 by omega) (by omega)), zx_nI (show 10 * i + j < 2 ^ 31 by omega), v1, mR_10, zob_s, e10l, min_ (mL_5 _ _) (show 10 * i + j < 100 by omega) (by omega), zg_1, zx_nI (show 10 * i + j < 2 ^ 31 by omega), v2]
          exact ⟨_, h2, I', J', o1, L, n, w, S, fa, tr, rfl, rfl, y1, b3, k, y5⟩
        · rw [if_neg i4, if_pos (show (0 : Int32) = 0 from rfl), if_pos (show (0 : Int32) = 0 from rfl), hJ2]
          exact hlost _ _ a2 a5
      · rw [if_neg i3, if_pos (show (0 : Int32) = 0 from rfl), if_pos (show (0 : Int32) = 0 from rfl), hJ2]
        exact hlost _ _ a2 a5
theorem inN_ok {k : Nat} (hk : k ≤ 2000000) (x : Int32) : gX12_in x.toInt64 0 (nI k).toInt64 = some (if inR x (k + 1) then 1 else 0) := by
  rw [in_ii]
  have : (nI k).toInt64.toInt = (k : Int) := by rw [Int32.toInt_toInt64, nI_int (by omega)]
  rw [this, show (0 : Int64).toInt = 0 from rfl]
  refine congrArg some ?_
  by_cases h1 : inR x (k + 1)
  · rw [if_pos h1, if_pos ⟨h1.1, by have := h1.2; omega⟩]
  · rw [if_neg h1, if_neg (fun hh => h1 ⟨hh.1, by have := hh.2; omega⟩)]
theorem poly_st (hq : qrOk QR) (p : stX (seC QTc QR) h o L n w S fa tr) (q : stM I L n w S fa tr) (k : stOk L n w S) (x1 x2 x3 : Int32) : stG (seC QTc QR) (gX11_poly h 0 x1 x2 x3) (gX12_poly (mH I J) 0 x1 x2 x3) h := by
  obtain ⟨cc, c1, c2⟩ := cn_st p k.1
  have hc := (k.1.2.2 _ k.1.1).1
  unfold gX11_poly gX12_poly
  simp only [zjn_]
  rcases noSec_ok c1 c2.2.1 (mc_st (J := J) q).1 hc.2.1 x1 x2 with ⟨e1, e2⟩ | ⟨m, g, hm, hg, rfl, rfl, e1, e2⟩
  · rw [e1, zbi_s, if_neg (by decide), laySec_no e2, zbI_s, if_pos (show (-2 : Int32) < 0 by decide)]
    unfold gX12_poly_J1 gX12_lost
    rw [zbj_s]
    exact stG_0 p q k _
  · obtain ⟨h1, o1, s, c, I', J', a1, a2, a3, a4, a5, b3, b2, hcase⟩ := both_solve hq p q k hm hg e2
    have h38 : seN (L.1 L.2.2.1) m g ≤ 38 := b2.2.1
    have e3 : x3 < 0 ↔ x3.toInt < 0 := Int32.lt_iff_toInt_lt
    have e4 : nI (seN (L.1 L.2.2.1) m g) < x3 ↔ ((seN (L.1 L.2.2.1) m g) : Int) < x3.toInt := by rw [Int32.lt_iff_toInt_lt, nI_int (by omega)]
    rw [e1, zbi_s, if_pos rfl, a1, zbR_s, zob_s, seK_13 a4]
    have m5 : zI (mH I' J') 0 5 = nI (seN (L.1 L.2.2.1) m g) := b2.1
    have hlost : ∀ h2 o2 J'', stX (seC QTc QR) h2 o2 L n w S fa tr → stP h h2 → stG (seC QTc QR) (some ((-9223372036854775808 : Int64), h2)) (some (-9223372036854775808, mH I' J'')) h := fun h2 o2 J'' z1 z2 => ⟨_, h2, I', J'', o2, L, n, w, S, fa, tr, rfl, rfl, z1, b3, k, z2⟩
    have hJ2 : gX12_poly_J1 (mH I' J') = some (-9223372036854775808, mH I' J') := by
      unfold gX12_poly_J1 gX12_lost
      rw [zbj_s]
    have hout : ¬ inR x3 ((seN (L.1 L.2.2.1) m g) + 1) → ∀ K : Option (Int64 × Zh), (if x3 < 0 then some ((-9223372036854775808 : Int64), h1) else if nI (seN (L.1 L.2.2.1) m g) < x3 then some (-9223372036854775808, h1) else K) = some (-9223372036854775808, h1) := fun hh K => by
      by_cases f1 : x3 < 0
      · rw [if_pos f1]
      · rw [if_neg f1, if_pos (e4.mpr (by
          apply Classical.byContradiction
          intro h4
          exact hh ⟨Int.not_lt.mp (fun h5 => f1 (e3.mpr h5)), by omega⟩))]
    rcases hcase with ⟨hn, s1, s2⟩ | ⟨hn, s2, hT, h2, s1, y1, y2, y3, y4, y5, y6⟩
    · rw [s2, zbI_s, if_pos (show (-6 : Int32) < 0 by decide), hJ2]
      by_cases i3 : inR x3 ((seN (L.1 L.2.2.1) m g) + 1)
      · rw [if_neg (fun hh => by have := e3.mp hh; have := i3.1; omega), if_neg (fun hh => by have := e4.mp hh; have := i3.2; omega), s1, zbI_s, if_pos (show (0 : Int32) = 0 from rfl)]
        exact hlost _ _ _ a2 a5
      · rw [hout i3]
        exact hlost _ _ _ a2 a5
    · rw [s2, zbI_s, if_neg (show ¬ (0 : Int32) < 0 by decide), m5, inN_ok (by omega), zbi_s]
      by_cases i3 : inR x3 ((seN (L.1 L.2.2.1) m g) + 1)
      · rw [if_neg (fun hh => by have := e3.mp hh; have := i3.1; omega), if_neg (fun hh => by have := e4.mp hh; have := i3.2; omega), s1, zbI_s, if_neg (show ¬ (1 : Int32) = 0 by decide), if_pos i3, if_neg (show ¬ (1 : Int32) = 0 by decide)]
        obtain ⟨i, hi, rfl⟩ := inR_f i3
        obtain ⟨r3, l3⟩ : zR h2 s 3 = some (s + 4) ∧ zL h2 (s + 4) = 11 := y2.2.2.1 3 (by omega)
        have hn' : seN (L.1 L.2.2.1) m g ≤ 10 := hn
        have v1 : zJ h2 (s + 4) i = seP (L.1 L.2.2.1) m g (seN (L.1 L.2.2.1) m g - i) := by
          have := (seK_T y3 y4).2.2 i (by omega)
          rwa [aJ_i _ _ _ _ (by omega)] at this
        obtain ⟨J2, t1, t2, t3⟩ := layPoly_ok (c := seP (L.1 L.2.2.1) m g) b2.1 hn' J' hT y6.1
        have v2 : zJ (mH I' J2) 6 i = seP (L.1 L.2.2.1) m g (seN (L.1 L.2.2.1) m g - i) := t2 i (show i ≤ seN (L.1 L.2.2.1) m g by omega)
        rw [zlt_, r3, zob_s, l3, zg_t (zin_nI (show i < 11 by omega) (by omega)), zx_nI (show i < 2 ^ 31 by omega), v1, t1, zbV_s, zlt_, mR_11, zob_s, min_ (mL_6 _ _) (show i < 11 by omega) (by omega), zg_1, v2]
        exact ⟨_, h2, I', J2, o1, L, n, w, S, fa, tr, rfl, rfl, y1, b3, k, y5⟩
      · rw [hout i3, if_neg i3, if_pos (show (0 : Int32) = 0 from rfl), hJ2]
        exact hlost _ _ _ a2 a5
end Ops
