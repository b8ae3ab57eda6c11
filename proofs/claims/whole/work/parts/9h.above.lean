/-! above, often, whole, power: both sides -/
theorem tooFar_ok (x : Int32) : gX11_tooFar x = some (if x.toInt.natAbs ≤ 50 then 0 else 1) := by
  unfold gX11_tooFar gX11_tooFar_J1
  rw [zjn_]
  have e1 : x < (-50) ↔ x.toInt < -50 := Int32.lt_iff_toInt_lt
  have e2 : x ≤ 50 ↔ x.toInt ≤ 50 := Int32.le_iff_toInt_le
  by_cases h1 : x < (-50)
  · have := e1.mp h1
    rw [if_pos h1, if_neg (by omega)]
  · have h1' : ¬ x.toInt < -50 := fun hh => h1 (e1.mpr hh)
    rw [if_neg h1]
    by_cases h2 : x ≤ 50
    · have := e2.mp h2
      rw [if_pos h2, if_pos (by omega)]
    · have h2' : ¬ x.toInt ≤ 50 := fun hh => h2 (e2.mpr hh)
      rw [if_neg h2, if_neg (by omega)]
theorem in50_ok (x : Int32) : gX12_in x.toInt64 (-50) 50 = some (if x.toInt.natAbs ≤ 50 then 1 else 0) := by
  rw [in_ii, show (-50 : Int64).toInt = -50 from rfl, show (50 : Int64).toInt = 50 from rfl]
  refine congrArg some ?_
  by_cases h : x.toInt.natAbs ≤ 50
  · rw [if_pos h, if_pos (by omega)]
  · rw [if_neg h, if_neg (by omega)]
def wN (p : Nat → Int64) (n : Nat) : Nat → Nat
  | 0 => 0
  | t + 1 => wN p n t + zrN (shF ((t : Int) - 50) n p) n n 0
theorem c32_i {t : Nat} (ht : t ≤ 101) : (nI t - 50).toInt = (t : Int) - 50 := by
  rw [Int32.toInt_sub, nI_int (by omega), show (50 : Int32).toInt = 50 from rfl]
  exact Int.bmod_eq_of_le (by omega) (by omega)
theorem wholeX {h : Zh} {s n : Nat} {p : Nat → Int64} (hs : seR h s) (hn : n ≤ 10) (h13 : zI h s 13 = nI n) (C V P Q : Nat → Int64) (hC : ∀ k, k ≤ n → C k = p (n - k)) (h0 : p 0 = 1) (hsf : sfOk n p) : ∀ (u t : Nat) (X : Nat → Int64) (fu : Nat), t + u = 101 → u < fu → ∃ X', zlp (fun (_ : Int32) (_ : Int32) (_ : Zh) => (none : Option (Int32 × Zh))) (gX5_wholeRoots_L2 s) fu (nI (wN p n t)) (nI t - 50) (s5 h s C X V P Q) = some (nI (wN p n 101), s5 h s C X' V P Q) := by
  intro u
  induction u with
  | zero =>
    intro t X fu ht hfu
    obtain ⟨fu, rfl⟩ : ∃ f, fu = f + 1 := ⟨fu - 1, by omega⟩
    have : t = 101 := by omega
    subst this
    refine ⟨X, ?_⟩
    show gX5_wholeRoots_L2 s _ (nI (wN p n 101)) (nI 101 - 50) _ = _
    unfold gX5_wholeRoots_L2
    rw [if_pos (by decide)]
  | succ u ih =>
    intro t X fu ht hfu
    obtain ⟨fu, rfl⟩ : ∃ f, fu = f + 1 := ⟨fu - 1, by omega⟩
    have hci := c32_i (t := t) (by omega)
    have hc50 : (nI t - 50).toInt.natAbs ≤ 50 := by rw [hci]; omega
    have hb := shF_b hc50 h0 hsf
    have hval := valueAt_ok hs hn h13 C X V P Q hC (nI t - 50)
    have hroot := rootsAt_ok hs hn h13 C X V P Q hC (nI t - 50) (hb.1 n (Nat.le_refl _))
    rw [← shF_val] at hval
    rw [hci] at hval hroot hb
    have hbn := sF_b62 (hb.1 n (Nat.le_refl _) n (Nat.le_refl _))
    have hz : oI (shF ((t : Int) - 50) n p n) = 0 ↔ shF ((t : Int) - 50) n p n = 0 := by rw [← Int64.toInt_inj, hbn, show (0 : Int64).toInt = 0 from rfl]
    have ec : nI t - 50 + 1 = nI (t + 1) - 50 := by rw [nI_sc]; grind
    have hgo : ∀ Z : Int32 → Int32 → Zh → Option (Int32 × Zh), ∃ X', gX5_wholeRoots_L2 s Z (nI (wN p n t)) (nI t - 50) (s5 h s C X V P Q) = Z (nI (wN p n (t + 1))) (nI (t + 1) - 50) (s5 h s C X' V P Q) := by
      intro Z
      unfold gX5_wholeRoots_L2
      have hlt : ¬ (50 : Int32) < nI t - 50 := fun hh => by
        rw [Int32.lt_iff_toInt_lt, hci, show (50 : Int32).toInt = 50 from rfl] at hh
        omega
      rw [if_neg hlt, hval, zbj_s, zjn_]
      by_cases h1 : shF ((t : Int) - 50) n p n = 0
      · refine ⟨pre (n + 1) (fun k => oI (shF ((t : Int) - 50) n p (n - k))) X, ?_⟩
        rw [if_pos ((cmp0 _).mpr (hz.mpr h1)), hroot, zbI_s, zlt_]
        unfold gX5_wholeRoots_J1
        rw [nI_add, ec]
        rfl
      · refine ⟨X, ?_⟩
        rw [if_neg (fun hh => h1 (hz.mp ((cmp0 _).mp hh)))]
        unfold gX5_wholeRoots_J1
        have e : wN p n (t + 1) = wN p n t := by
          show wN p n t + zrN (shF ((t : Int) - 50) n p) n n 0 = _
          have : zrN (shF ((t : Int) - 50) n p) n n 0 = 0 := by
            cases n with
            | zero => rfl
            | succ n => exact if_neg (by rw [Nat.sub_zero]; exact h1)
          rw [this]; rfl
        rw [e, ec]
    obtain ⟨X1, g1⟩ := hgo (zlp (fun (_ : Int32) (_ : Int32) (_ : Zh) => (none : Option (Int32 × Zh))) (gX5_wholeRoots_L2 s) fu)
    obtain ⟨X', g2⟩ := ih (t + 1) X1 fu (by omega) (by omega)
    exact ⟨X', g1.trans g2⟩
theorem wholeM {I : Nat → Nat → Int32} {n : Nat} {T : Nat → Nat → Int64} {p : Nat → Int64} (h5 : I 0 5 = nI n) (hn : n ≤ 10) (hp : flOk T n p) (hs : sfOk n p) : ∀ (u t : Nat) (J : Nat → Nat → Int64) (fu : Nat), t + u = 101 → u < fu → (∀ i j, i < n → j < n → J 5 (10 * i + j) = T i j) → ∃ J', zlp (fun (_ : Int32) (_ : Int32) (_ : Zh) => (none : Option (Int32 × Zh))) (gX12_whole_L1 0) fu (nI (wN p n t)) (nI t - 50) (mH I J) = some (nI (wN p n 101), mH I J') := by
  intro u
  induction u with
  | zero =>
    intro t J fu ht hfu _
    obtain ⟨fu, rfl⟩ : ∃ f, fu = f + 1 := ⟨fu - 1, by omega⟩
    have : t = 101 := by omega
    subst this
    refine ⟨J, ?_⟩
    show gX12_whole_L1 0 _ (nI (wN p n 101)) (nI 101 - 50) _ = _
    unfold gX12_whole_L1
    rw [if_pos (by decide)]
  | succ u ih =>
    intro t J fu ht hfu hT
    obtain ⟨fu, rfl⟩ : ∃ f, fu = f + 1 := ⟨fu - 1, by omega⟩
    have hci := c32_i (t := t) (by omega)
    have hc50 : (nI t - 50).toInt.natAbs ≤ 50 := by rw [hci]; omega
    have hb := shF_b hc50 hp.1 hs
    obtain ⟨J1, t1, t2, t3⟩ := shiftTo_ok h5 hn J hT hp hs hc50
    have hz := zeros_ok (I := I) hn t2 (hb.1 n (Nat.le_refl _)) (by
      show rZ _ n (fun m => (p m).toInt) n 0 ≠ 0
      rw [rZ_top, hp.1]; decide)
    rw [hci] at hz
    have ec : nI t - 50 + 1 = nI (t + 1) - 50 := by rw [nI_sc]; grind
    obtain ⟨J', g2⟩ := ih (t + 1) J1 fu (by omega) (by omega) (fun i j hi hj => by rw [t3 5 (by omega)]; exact hT i j hi hj)
    refine ⟨J', ?_⟩
    rw [← g2]
    show gX12_whole_L1 0 (zlp (fun (_ : Int32) (_ : Int32) (_ : Zh) => (none : Option (Int32 × Zh))) (gX12_whole_L1 0) fu) (nI (wN p n t)) (nI t - 50) (mH I J) = _
    generalize zlp (fun (_ : Int32) (_ : Int32) (_ : Zh) => (none : Option (Int32 × Zh))) (gX12_whole_L1 0) fu = Z
    unfold gX12_whole_L1
    have hlt : ¬ (50 : Int32) < nI t - 50 := fun hh => by
      rw [Int32.lt_iff_toInt_lt, hci, show (50 : Int32).toInt = 50 from rfl] at hh
      omega
    rw [if_neg hlt, t1, zbV_s, hz, zbi_s, zlt_, nI_add, ec]
    rfl
/-- the class's power sums: Newton's way -/
theorem powerSum_ok {h : Zh} {s n : Nat} {p : Nat → Int64} {T : Nat → Nat → Int64} (hs : seR h s) (hn : n ≤ 10) (h13 : zI h s 13 = nI n) (C X V P Q : Nat → Int64) (hC : ∀ k, k ≤ n → C k = p (n - k)) (hhi : ∀ k, n < k → p k = 0) (hw : nwOk T n p) {e : Nat} (he1 : 1 ≤ e) (he : e ≤ 4) : ∃ P', gX5_powerSum (s5 h s C X V P Q) s (nI e) = some (pwT T n e, s5 h s C X V P' Q) := by
  obtain ⟨r3, l3⟩ : zR h s 3 = some (s + 4) ∧ zL h (s + 4) = 11 := hs 3 (by omega)
  obtain ⟨r6, l6⟩ : zR h s 6 = some (s + 7) ∧ zL h (s + 7) = 11 := hs 6 (by omega)
  have hft : ∀ (P : Nat → Int64) k, k ≤ 10 → gX5_fromTop (s5 h s C X V P Q) s (nI k) = some (p k) := fun P k hk => by
    unfold gX5_fromTop
    rw [s5_I, h13]
    by_cases h1 : n < k
    · rw [if_pos (nI_lt h1 (by omega)), hhi k h1]
    · have j1 : zin (nI (n - k)) 11 = true := zin_nI (by omega) (by omega)
      rw [if_neg (nI_nlt (by omega) (by omega)), zlt_, s5_R, r3, zob_s, nI_sub2 (by omega), s5_L, l3, j1, zg_1, zx_nI (show n - k < 2 ^ 31 by omega), s5_4, hC _ (by omega), show n - (n - k) = k by omega]
  let G : Nat → Nat → Int64 := fun t y => if 1 ≤ y ∧ y ≤ t then pwT T n y else P y
  have hh := zlp_it (R := Option (Int64 × Zh)) (z := fun (_ : Int32) (_ : Zh) => (none : Option (Int64 × Zh))) (F := gX5_powerSum_L4 s (nI e) (gX5_powerSum_J1 s (nI e))) (fun t (F : Int32 → Zh → Option (Int64 × Zh)) => F (nI (t + 1)) (s5 h s C X V (G t) Q)) (some (pwT T n e, s5 h s C X V (G e) Q)) e ?_ ?_ zFU (by unfold zFU; omega)
  · refine ⟨G e, ?_⟩
    have e0 : G 0 = P := funext fun y => if_neg (by omega)
    rw [e0] at hh
    unfold gX5_powerSum
    rw [zjn_]
    exact hh
  · intro t ht rr
    show gX5_powerSum_L4 s (nI e) (gX5_powerSum_J1 s (nI e)) rr (nI (t + 1)) (s5 h s C X V (G t) Q) = rr (nI (t + 1 + 1)) (s5 h s C X V (G (t + 1)) Q)
    unfold gX5_powerSum_L4
    rw [if_neg (nI_nlt (by omega) (by omega)), hft _ _ (by omega), zbj_s, zlt_, zjn_, nI_J (by omega)]
    have hsum := zlp_it (R := Option (Int64 × Zh)) (z := fun (_ : Int64) (_ : Int32) => (none : Option (Int64 × Zh))) (F := gX5_powerSum_L3 s (nI (t + 1)) (s5 h s C X V (G t) Q) (gX5_powerSum_J2 s (nI (t + 1)) (s5 h s C X V (G t) Q) rr)) (fun j (F : Int64 → Int32 → Option (Int64 × Zh)) => F (jN (t + 1) * p (t + 1) + sF (fun j => p (j + 1) * pwT T n (t - j)) (List.range j)) (nI (j + 1))) (gX5_powerSum_J2 s (nI (t + 1)) (s5 h s C X V (G t) Q) rr (jN (t + 1) * p (t + 1) + sF (fun j => p (j + 1) * pwT T n (t - j)) (List.range t))) t ?_ ?_ zFU (by unfold zFU; omega)
    · have e0 : jN (t + 1) * p (t + 1) + sF (fun j => p (j + 1) * pwT T n (t - j)) (List.range 0) = jN (t + 1) * p (t + 1) := by
        show _ + 0 = _
        grind
      rw [e0] at hsum
      refine Eq.trans hsum ?_
      have j1 : zin (nI (t + 1)) 11 = true := zin_nI (by omega) (by omega)
      have hu : updJ (G t) (t + 1) (pwT T n (t + 1)) = G (t + 1) := by
        funext y
        show (if y = t + 1 then pwT T n (t + 1) else (if 1 ≤ y ∧ y ≤ t then pwT T n y else P y)) = if 1 ≤ y ∧ y ≤ t + 1 then pwT T n y else P y
        by_cases h1 : y = t + 1
        · rw [if_pos h1, if_pos (by omega), h1]
        · rw [if_neg h1]
          by_cases h2 : 1 ≤ y ∧ y ≤ t
          · rw [if_pos h2, if_pos (by omega)]
          · rw [if_neg h2, if_neg (by omega)]
      unfold gX5_powerSum_J2
      rw [zlt_, s5_R, r6, zob_s, s5_L, l6, j1, zg_1, zlt_, zx_nI (show t + 1 < 2 ^ 31 by omega), ← hw t (by omega), s5_s7, hu, ← nI_sc]
    · intro j hj rr'
      show gX5_powerSum_L3 s (nI (t + 1)) (s5 h s C X V (G t) Q) _ rr' (jN (t + 1) * p (t + 1) + sF (fun j => p (j + 1) * pwT T n (t - j)) (List.range j)) (nI (j + 1)) = rr' (jN (t + 1) * p (t + 1) + sF (fun j => p (j + 1) * pwT T n (t - j)) (List.range (j + 1))) (nI (j + 1 + 1))
      have j1 : zin (nI (t - j)) 11 = true := zin_nI (by omega) (by omega)
      have es : nI (t + 1) - nI (j + 1) = nI (t - j) := by rw [nI_sub2 (by omega), show t + 1 - (j + 1) = t - j by omega]
      have gv : G t (t - j) = pwT T n (t - j) := if_pos (by omega)
      rw [sF_range]
      unfold gX5_powerSum_L3
      rw [if_neg (zge_n (show j + 1 < t + 1 by omega) (by omega)), hft _ _ (by omega), zbj_s, zlt_, s5_R, r6, zob_s, es, s5_L, l6, j1, zg_1, zlt_, zx_nI (show t - j < 2 ^ 31 by omega), s5_7, gv, ← nI_sc]
      refine congrArg (fun v => rr' v (nI (j + 1 + 1))) ?_
      grind
    · intro rr'
      show gX5_powerSum_L3 s (nI (t + 1)) (s5 h s C X V (G t) Q) _ rr' _ (nI (t + 1)) = _
      unfold gX5_powerSum_L3
      rw [if_pos (Int32.le_refl _)]
  · intro rr
    show gX5_powerSum_L4 s (nI e) (gX5_powerSum_J1 s (nI e)) rr (nI (e + 1)) _ = _
    have j1 : zin (nI e) 11 = true := zin_nI (by omega) (by omega)
    have gv : G e e = pwT T n e := if_pos (by omega)
    unfold gX5_powerSum_L4
    rw [if_pos (nI_lt (by omega) (by omega))]
    unfold gX5_powerSum_J1
    rw [zlt_, s5_R, r6, zob_s, s5_L, l6, j1, zg_1, zx_nI (show e < 2 ^ 31 by omega), s5_7, gv]
theorem powerM {I : Nat → Nat → Int32} {n : Nat} {T : Nat → Nat → Int64} (h5 : I 0 5 = nI n) (hn : n ≤ 10) {e : Nat} (he : e ≤ 4) (K : Zh → Option (Int64 × Zh)) : ∀ (u t : Nat) (J : Nat → Nat → Int64) (fu : Nat), t + u = e → u < fu → (∀ i j, i < n → j < n → J 5 (10 * i + j) = T i j) → (∀ i j, i < n → j < n → J 7 (10 * i + j) = pwM T n t i j) → ∃ J', zlp (fun (_ : Int32) (_ : Zh) => (none : Option (Int64 × Zh))) (gX12_power_L3 0 (nI e) K) fu (nI t) (mH I J) = K (mH I J') ∧ ∀ i j, i < n → j < n → J' 7 (10 * i + j) = pwM T n e i j := by
  intro u
  induction u with
  | zero =>
    intro t J fu ht hfu _ h7
    obtain ⟨fu, rfl⟩ : ∃ f, fu = f + 1 := ⟨fu - 1, by omega⟩
    have : t = e := by omega
    subst this
    refine ⟨J, ?_, h7⟩
    show gX12_power_L3 0 (nI t) K _ (nI t) _ = _
    unfold gX12_power_L3
    rw [if_pos (Int32.le_refl _)]
  | succ u ih =>
    intro t J fu ht hfu hT h7
    obtain ⟨fu, rfl⟩ : ∃ f, fu = f + 1 := ⟨fu - 1, by omega⟩
    obtain ⟨J1, g1, g2, g3⟩ := timesT_ok h5 hn J hT h7
    obtain ⟨J', r1, r2⟩ := ih (t + 1) J1 fu (by omega) (by omega) (fun i j hi hj => by rw [g3 5 (by decide) (by decide)]; exact hT i j hi hj) (fun i j hi hj => g2 i j hi hj)
    refine ⟨J', ?_, r2⟩
    rw [← r1]
    show gX12_power_L3 0 (nI e) K (zlp (fun (_ : Int32) (_ : Zh) => (none : Option (Int64 × Zh))) (gX12_power_L3 0 (nI e) K) fu) (nI t) (mH I J) = _
    generalize zlp (fun (_ : Int32) (_ : Zh) => (none : Option (Int64 × Zh))) (gX12_power_L3 0 (nI e) K) fu = Z
    unfold gX12_power_L3
    rw [if_neg (zge_n (show t < e by omega) (by omega)), g1, zbV_s, ← nI_sc]
section Ops
variable {QR : Qs} {h h' : Zh} {o : Nat → Nat} {L : Led} {n : Nat} {w : Nat → Wt} {S : Nat → Option Sh} {fa tr : Int32} {I : Nat → Nat → Int32} {J : Nat → Nat → Int64} {ch : Ch} {s c m g : Nat}
theorem after_s5 (hq : qrOk QR) (y1 : stX (seC QTc QR) h o L n w S fa tr) (y2 : seB h o s c ch) (y3 : seK QTc QR ch m g (aI h s) (aJ h s)) (X P Q : Nat → Int64) : stX (seC QTc QR) (s5 h s (zJ h (s + 4)) X (zJ h (s + 6)) P Q) o L n w S fa tr := (stX_sec y1 y2 (s5_m h s _ X _ P Q) (seK_scr hq y3 (fun _ _ => rfl) (fun b => s5_n _ _ _ _ _ _ _ _ _ (by omega)) (fun b => s5_4 _ _ _ _ _ _ _ _) (fun b => s5_6 _ _ _ _ _ _ _ _))).1
theorem seK_C (y3 : seK QTc QR ch m g (aI h s) (aJ h s)) (y4 : zI h s 14 = 1) : ∀ k, k ≤ seN ch m g → zJ h (s + 4) k = seP ch m g (seN ch m g - k) := fun k hk => by
  have := (seK_T y3 y4).2.2 k hk
  rwa [aJ_i _ _ _ _ (by omega)] at this
theorem above_st (hq : qrOk QR) (p : stX (seC QTc QR) h o L n w S fa tr) (q : stM I L n w S fa tr) (k : stOk L n w S) (x1 x2 x3 : Int32) : stG (seC QTc QR) (gX11_above h 0 x1 x2 x3) (gX12_above (mH I J) 0 x1 x2 x3) h := by
  obtain ⟨cc, c1, c2⟩ := cn_st p k.1
  have hc := (k.1.2.2 _ k.1.1).1
  unfold gX11_above gX12_above
  rcases noSec_ok c1 c2.2.1 (mc_st (J := J) q).1 hc.2.1 x1 x2 with ⟨e1, e2⟩ | ⟨m, g, hm, hg, rfl, rfl, e1, e2⟩
  · rw [e1, e2, zbi_s, zbi_s, if_neg (by decide), if_neg (by decide)]
    exact stG_0 p q k _
  · rw [e1, e2, zbi_s, zbi_s, if_pos rfl, if_pos rfl, tooFar_ok, in50_ok, zbi_s, zbi_s]
    by_cases hx : x3.toInt.natAbs ≤ 50
    · rw [if_pos hx, if_pos hx, if_pos rfl, if_neg (by decide)]
      obtain ⟨h1, o1, s, c, I', J', a1, a2, a3, a4, a5, b3, b2, hcase⟩ := both_solve hq p q k hm hg e2
      rw [a1, zbR_s, zob_s]
      rcases hcase with ⟨hn, s1, s2⟩ | ⟨hn, s2, hT, h2, s1, y1, y2, y3, y4, y5, y6⟩
      · rw [s1, s2, zbI_s, zbI_s, if_pos rfl, if_neg (by decide)]
        exact ⟨_, h1, I', J', o1, L, n, w, S, fa, tr, rfl, rfl, a2, b3, k, a5⟩
      · have hb := shF_b hx y6.1.1 y6.2.2
        have hX := rootsAbove_ok y2.2.2.1 hn (seK_13 y3) (zJ h2 (s + 4)) (zJ h2 (s + 5)) (zJ h2 (s + 6)) (zJ h2 (s + 7)) (zJ h2 (s + 8)) (seK_C y3 y4) x3 (hb.1 _ (Nat.le_refl _))
        rw [s5_self] at hX
        obtain ⟨J1, t1, t2, t3⟩ := shiftTo_ok b2.1 hn J' hT y6.1 y6.2.2 hx
        have hM := aboveM (I := I') b2.1 hn t2 (hb.1 _ (Nat.le_refl _))
        have m5 : zI (mH I' J1) 0 5 = nI (seN (L.1 L.2.2.1) m g) := b2.1
        rw [s1, s2, zbI_s, zbI_s, if_neg (by decide), if_pos (by decide), hX, zbI_s, t1, zbV_s, zlt_, m5, hM]
        exact ⟨_, _, I', J1, o1, L, n, w, S, fa, tr, rfl, rfl, after_s5 hq y1 y2 y3 _ _ _, b3, k, y5⟩
    · rw [if_neg hx, if_neg hx, if_neg (by decide), if_pos rfl]
      exact stG_0 p q k _
theorem often_st (hq : qrOk QR) (p : stX (seC QTc QR) h o L n w S fa tr) (q : stM I L n w S fa tr) (k : stOk L n w S) (x1 x2 x3 : Int32) : stG (seC QTc QR) (gX11_often h 0 x1 x2 x3) (gX12_often (mH I J) 0 x1 x2 x3) h := by
  obtain ⟨cc, c1, c2⟩ := cn_st p k.1
  have hc := (k.1.2.2 _ k.1.1).1
  unfold gX11_often gX12_often
  rcases noSec_ok c1 c2.2.1 (mc_st (J := J) q).1 hc.2.1 x1 x2 with ⟨e1, e2⟩ | ⟨m, g, hm, hg, rfl, rfl, e1, e2⟩
  · rw [e1, e2, zbi_s, zbi_s, if_neg (by decide), if_neg (by decide)]
    exact stG_0 p q k _
  · rw [e1, e2, zbi_s, zbi_s, if_pos rfl, if_pos rfl, tooFar_ok, in50_ok, zbi_s, zbi_s]
    by_cases hx : x3.toInt.natAbs ≤ 50
    · rw [if_pos hx, if_pos hx, if_pos rfl, if_neg (by decide)]
      obtain ⟨h1, o1, s, c, I', J', a1, a2, a3, a4, a5, b3, b2, hcase⟩ := both_solve hq p q k hm hg e2
      rw [a1, zbR_s, zob_s]
      rcases hcase with ⟨hn, s1, s2⟩ | ⟨hn, s2, hT, h2, s1, y1, y2, y3, y4, y5, y6⟩
      · rw [s1, s2, zbI_s, zbI_s, if_pos rfl, if_neg (by decide)]
        exact ⟨_, h1, I', J', o1, L, n, w, S, fa, tr, rfl, rfl, a2, b3, k, a5⟩
      · have hb := shF_b hx y6.1.1 y6.2.2
        have hX := rootsAt_ok y2.2.2.1 hn (seK_13 y3) (zJ h2 (s + 4)) (zJ h2 (s + 5)) (zJ h2 (s + 6)) (zJ h2 (s + 7)) (zJ h2 (s + 8)) (seK_C y3 y4) x3 (hb.1 _ (Nat.le_refl _))
        rw [s5_self] at hX
        obtain ⟨J1, t1, t2, t3⟩ := shiftTo_ok b2.1 hn J' hT y6.1 y6.2.2 hx
        have hM := zeros_ok (I := I') hn t2 (hb.1 _ (Nat.le_refl _)) (by
          show rZ _ _ (fun m' => (seP (L.1 L.2.2.1) m g m').toInt) _ 0 ≠ 0
          rw [rZ_top, show seP (L.1 L.2.2.1) m g 0 = 1 from y6.1.1]; decide)
        rw [s1, s2, zbI_s, zbI_s, if_neg (by decide), if_pos (by decide), hX, zbI_s, t1, zbV_s, hM, zbi_s]
        exact ⟨_, _, I', J1, o1, L, n, w, S, fa, tr, rfl, rfl, after_s5 hq y1 y2 y3 _ _ _, b3, k, y5⟩
    · rw [if_neg hx, if_neg hx, if_neg (by decide), if_pos rfl]
      exact stG_0 p q k _
theorem whole_st (hq : qrOk QR) (p : stX (seC QTc QR) h o L n w S fa tr) (q : stM I L n w S fa tr) (k : stOk L n w S) (x1 x2 : Int32) : stG (seC QTc QR) (gX11_whole h 0 x1 x2) (gX12_whole (mH I J) 0 x1 x2) h := by
  obtain ⟨cc, c1, c2⟩ := cn_st p k.1
  have hc := (k.1.2.2 _ k.1.1).1
  unfold gX11_whole gX12_whole
  rcases noSec_ok c1 c2.2.1 (mc_st (J := J) q).1 hc.2.1 x1 x2 with ⟨e1, e2⟩ | ⟨m, g, hm, hg, rfl, rfl, e1, e2⟩
  · rw [e1, zbi_s, if_neg (by decide), laySec_no e2, zbI_s, if_neg (by decide)]
    exact stG_0 p q k _
  · obtain ⟨h1, o1, s, c, I', J', a1, a2, a3, a4, a5, b3, b2, hcase⟩ := both_solve hq p q k hm hg e2
    rw [e1, zbi_s, if_pos rfl, a1, zbR_s, zob_s]
    rcases hcase with ⟨hn, s1, s2⟩ | ⟨hn, s2, hT, h2, s1, y1, y2, y3, y4, y5, y6⟩
    · rw [s1, s2, zbI_s, zbI_s, if_pos rfl, if_neg (by decide)]
      exact ⟨_, h1, I', J', o1, L, n, w, S, fa, tr, rfl, rfl, a2, b3, k, a5⟩
    · obtain ⟨X', hX⟩ := wholeX y2.2.2.1 hn (seK_13 y3) (zJ h2 (s + 4)) (zJ h2 (s + 6)) (zJ h2 (s + 7)) (zJ h2 (s + 8)) (seK_C y3 y4) y6.1.1 y6.2.2 101 0 (zJ h2 (s + 5)) zFU (by omega) (by unfold zFU; omega)
      rw [s5_self] at hX
      obtain ⟨J1, hM⟩ := wholeM b2.1 hn y6.1 y6.2.2 101 0 J' zFU (by omega) (by unfold zFU; omega) hT
      have eX : gX5_wholeRoots h2 s = some (nI (wN (seP (L.1 L.2.2.1) m g) (seN (L.1 L.2.2.1) m g) 101), s5 h2 s (zJ h2 (s + 4)) X' (zJ h2 (s + 6)) (zJ h2 (s + 7)) (zJ h2 (s + 8))) := hX
      rw [s1, s2, zbI_s, zbI_s, if_neg (by decide), if_pos (by decide), eX, zbI_s]
      exact ⟨_, _, I', J1, o1, L, n, w, S, fa, tr, rfl, hM, after_s5 hq y1 y2 y3 _ _ _, b3, k, y5⟩
theorem power_st (hq : qrOk QR) (p : stX (seC QTc QR) h o L n w S fa tr) (q : stM I L n w S fa tr) (k : stOk L n w S) (x1 x2 x3 : Int32) : stG (seC QTc QR) (gX11_power h 0 x1 x2 x3) (gX12_power (mH I J) 0 x1 x2 x3) h := by
  obtain ⟨cc, c1, c2⟩ := cn_st p k.1
  have hc := (k.1.2.2 _ k.1.1).1
  have e3 : x3 < 1 ↔ x3.toInt < 1 := Int32.lt_iff_toInt_lt
  have e4 : x3 ≤ 4 ↔ x3.toInt ≤ 4 := Int32.le_iff_toInt_le
  have hlM : ∀ hh : Zh, gX12_power_J1 hh = some (-9223372036854775808, hh) := fun hh => by
    unfold gX12_power_J1 gX12_lost
    rw [zbj_s]
  unfold gX11_power gX12_power
  rw [in_ii, zbi_s, zjn_, show (1 : Int64).toInt = 1 from rfl, show (4 : Int64).toInt = 4 from rfl]
  have hout : ¬ (1 ≤ x3.toInt ∧ x3.toInt ≤ 4) → ∀ K : Option (Int64 × Zh), (if x3 < 1 then some ((-9223372036854775808 : Int64), h) else if x3 ≤ 4 then K else some (-9223372036854775808, h)) = some (-9223372036854775808, h) := fun hh K => by
    by_cases f1 : x3 < 1
    · rw [if_pos f1]
    · rw [if_neg f1, if_neg (fun f2 => hh ⟨Int.not_lt.mp (fun f3 => f1 (e3.mpr f3)), e4.mp f2⟩)]
  rcases noSec_ok c1 c2.2.1 (mc_st (J := J) q).1 hc.2.1 x1 x2 with ⟨e1, e2⟩ | ⟨m, g, hm, hg, rfl, rfl, e1, e2⟩
  · rw [e1, zbi_s, if_neg (show ¬ (1 : Int32) = 0 by decide), laySec_no e2, zbI_s, if_neg (show ¬ (0 : Int32) ≤ -2 by decide), hlM]
    by_cases hx : 1 ≤ x3.toInt ∧ x3.toInt ≤ 4
    · rw [if_pos hx, if_neg (by decide)]
      exact stG_0 p q k _
    · rw [if_neg hx, if_pos rfl]
      exact stG_0 p q k _
  · rw [e1, zbi_s, if_pos rfl]
    by_cases hx : 1 ≤ x3.toInt ∧ x3.toInt ≤ 4
    · rw [if_pos hx, if_neg (show ¬ (1 : Int32) = 0 by decide), if_neg (fun hh => by have := e3.mp hh; omega), if_pos (e4.mpr hx.2)]
      obtain ⟨e, he, rfl⟩ := inR_f (x := x3) (n := 5) (by unfold inR; omega)
      have he1 : 1 ≤ e := by have := hx.1; rw [nI_int (by omega)] at this; omega
      obtain ⟨h1, o1, s, c, I', J', a1, a2, a3, a4, a5, b3, b2, hcase⟩ := both_solve hq p q k hm hg e2
      rw [a1, zbR_s, zob_s]
      rcases hcase with ⟨hn, s1, s2⟩ | ⟨hn, s2, hT, h2, s1, y1, y2, y3, y4, y5, y6⟩
      · rw [s1, s2, zbI_s, zbI_s, if_pos rfl, if_neg (show ¬ (0 : Int32) ≤ -6 by decide), hlM]
        exact ⟨_, h1, I', J', o1, L, n, w, S, fa, tr, rfl, rfl, a2, b3, k, a5⟩
      · obtain ⟨P', hX⟩ := powerSum_ok y2.2.2.1 hn (seK_13 y3) (zJ h2 (s + 4)) (zJ h2 (s + 5)) (zJ h2 (s + 6)) (zJ h2 (s + 7)) (zJ h2 (s + 8)) (seK_C y3 y4) (fun k hk => bkP_hi _ _ _ hk) y6.2.1 he1 (show e ≤ 4 by omega)
        rw [s5_self] at hX
        obtain ⟨J1, r1, r2⟩ := powerM (T := seT (L.1 L.2.2.1) m g) b2.1 hn (show e ≤ 4 by omega) (gX12_power_J2 0) e 0 (zW J' 7 (pre 100 (fun k => if k % 11 = 0 then 1 else 0) (J' 7))) zFU (by omega) (by unfold zFU; omega) (fun i j hi hj => by rw [zW_n _ _ _ _ (by decide)]; exact hT i j hi hj) (fun i j hi hj => unitP_v hn J' hi hj)
        have hsum : sF (fun i => J1 7 (10 * i + i)) (List.range (seN (L.1 L.2.2.1) m g)) = pwT (seT (L.1 L.2.2.1) m g) (seN (L.1 L.2.2.1) m g) e := sF_cg _ (fun i hi => r2 i i (List.mem_range.mp hi) (List.mem_range.mp hi))
        rw [s1, s2, zbI_s, zbI_s, if_neg (show ¬ (1 : Int32) = 0 by decide), if_pos (show (0 : Int32) ≤ 0 by decide), hX, zbJ_s, unitP_ok, zbV_s, zjn_]
        refine ⟨_, _, I', J1, o1, L, n, w, S, fa, tr, rfl, ?_, after_s5 hq y1 y2 y3 _ _ _, b3, k, y5⟩
        refine r1.trans ?_
        unfold gX12_power_J2
        rw [sumOf_ok b2.1 hn, hsum, zbj_s]
    · rw [if_neg hx, if_pos rfl, hout hx, hlM]
      exact stG_0 p q k _
end Ops
