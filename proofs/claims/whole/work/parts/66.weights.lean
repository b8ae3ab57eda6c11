/-! weights told, asked, named -/
section Ops
variable {SC : Ch → (Nat → Nat → Int32) → (Nat → Nat → Int64) → Prop} {h : Zh} {o : Nat → Nat} {L : Led} {n : Nat} {w : Nat → Wt} {S : Nat → Option Sh} {fa tr : Int32} {I : Nat → Nat → Int32} {J : Nat → Nat → Int64}
abbrev is9 (x : Int32) : Prop := -9 ≤ x.toInt ∧ x.toInt ≤ 9
theorem noWeightsX (x y z : Int32) : gX11_noWeights x y z = some (if is9 x ∧ is9 y ∧ is9 z then 0 else 1) := by
  unfold gX11_noWeights gX11_noWeights_J1
  rw [zjn_]
  have e1 : x < -9 ↔ x.toInt < -9 := Int32.lt_iff_toInt_lt
  have e2 : 9 < x ↔ 9 < x.toInt := Int32.lt_iff_toInt_lt
  have e3 : y < -9 ↔ y.toInt < -9 := Int32.lt_iff_toInt_lt
  have e4 : 9 < y ↔ 9 < y.toInt := Int32.lt_iff_toInt_lt
  have e5 : z < -9 ↔ z.toInt < -9 := Int32.lt_iff_toInt_lt
  have e6 : z ≤ 9 ↔ z.toInt ≤ 9 := Int32.le_iff_toInt_le
  simp only [e1, e2, e3, e4, e5, e6]
  by_cases hC : is9 x ∧ is9 y ∧ is9 z
  · rw [if_pos hC]
    repeat' split
    all_goals first | rfl | (exfalso; omega)
  · rw [if_neg hC]
    repeat' split
    all_goals first | rfl | (exfalso; omega)
theorem isWeightM (x : Int32) : gX12_isWeight x = some (if is9 x then 1 else 0) := by
  unfold gX12_isWeight
  rw [in_ii, show (-9 : Int64).toInt = -9 from rfl, show (9 : Int64).toInt = 9 from rfl, zbi_s]
  by_cases hx : is9 x
  · rw [if_pos hx]; rfl
  · rw [if_neg hx]; rfl
theorem noWeightsM (q : weiM I n w) (hn : n ≤ 6) (x : Int32) : gX12_noWeights (mH I J) 0 x = some (if inR x n then 0 else 1) := by
  unfold gX12_noWeights
  rw [mI_, q.1, in_len (by omega), zbi_s]
  by_cases hx : inR x n
  · rw [if_pos hx, if_neg (by decide), if_pos hx]
  · rw [if_neg hx, if_pos rfl, if_neg hx]
theorem weightsAt_n (p : stX SC h o L n w S fa tr) (hn : n ≤ 6) (x : Int32) (hx : ¬ inR x n) : gX11_weightsAt h 0 x = some none := by
  unfold gX11_weightsAt gX11_weightsAt_J1
  rw [zjn_, p.2.2.1.1, rng_if x (nI n) n (nI_int (by omega)), if_neg hx]
theorem weightsAt_s (p : stX SC h o L n w S fa tr) (hn : n ≤ 6) {k : Nat} (hk : k < n) : ∃ a, gX11_weightsAt h 0 (nI k) = some (some a) ∧ frX h o a ∧ wtX h a k (w k) := by
  obtain ⟨a, a1, a2, a3⟩ := p.2.2.1.2 k hk
  refine ⟨a, ?_, a2, a3⟩
  have hr : inR (nI k) n := by
    show 0 ≤ (nI k).toInt ∧ (nI k).toInt < n
    rw [nI_int (by omega)]; omega
  have f1 : zR h 0 1 = some 9 := p.1.1.2.1
  have l9 : zL h 9 = 6 := p.1.2.2.1.1
  have i1 : zin (nI k) (zL h 9) = true := by rw [l9]; exact zin_nI (by omega) (by omega)
  unfold gX11_weightsAt gX11_weightsAt_J1
  rw [zjn_, p.2.2.1.1, rng_if (nI k) (nI n) n (nI_int (by omega)), if_pos hr]
  repeat (first | rw [f1] | rw [i1] | rw [zx_nI (show k < 2 ^ 31 by omega)] | rw [a1] | rw [zlt_] | rw [zjn_] | rw [zob_s] | rw [zg_1] | rw [zbi_s] | rw [zbI_s] | rw [zbr_s] | rw [zbR_s] | rw [zbV_s] | rw [zbj_s] | rw [zbJ_s] | rw [zcs_s] | rw [zcs_n])
theorem wtX_k {h : Zh} {a k : Nat} {v : Wt} (hv : wtOk v) (hx : wtX h a k v) {B : Type} (x y z : Option B) : zdp h a x y z = if v.1 = 0 then x else if v.1 = 1 then y else z := by
  unfold zdp
  rw [hx.1]
  have := hv.1
  rcases (show v.1 = 0 ∨ v.1 = 1 ∨ v.1 = 2 by omega) with e | e | e <;> rw [e] <;> rfl
theorem weight_st (p : stX SC h o L n w S fa tr) (q : stM I L n w S fa tr) (k : stOk L n w S) (x1 x2 : Int32) : ∃ r, gX11_weight h 0 x1 x2 = some r ∧ gX12_weight (mH I J) 0 x1 x2 = some r := by
  have hn := k.2.1.1
  unfold gX11_weight gX12_weight
  rw [noWeightsM q.2.1 hn, zbi_s]
  by_cases h1 : inR x1 n
  · rw [if_pos h1, if_pos rfl]
    obtain ⟨c, hc, rfl⟩ := inR_f h1
    obtain ⟨a, a1, a2, a3⟩ := weightsAt_s p hn hc
    have hv := k.2.1.2 c hc
    obtain ⟨b0, b1, b2, b3, b4⟩ := id a3
    obtain ⟨d1, d2, d3, d4⟩ := q.2.1.2 c hc
    have hk : ∀ (f : Int32 → Option Int64), (if (w c).1 = 0 then zbi (gX4_kind a) f else if (w c).1 = 1 then zbi (gX10_kind a) f else zbi (gX7_kind a) f) = f (nI (w c).1) := by
      intro f
      have := hv.1
      rcases (show (w c).1 = 0 ∨ (w c).1 = 1 ∨ (w c).1 = 2 by omega) with e | e | e <;> rw [e] <;> rfl
    repeat (first | rw [a1] | rw [b2] | rw [b3] | rw [b4] | rw [wtX_k hv a3] | rw [hk] | rw [mR_20] | rw [mR_21] | rw [mR_22] | rw [mR_23] | rw [min_ (mL_14 _ _) (show c < 6 by omega) (by omega)] | rw [min_ (mL_15 _ _) (show c < 6 by omega) (by omega)] | rw [min_ (mL_16 _ _) (show c < 6 by omega) (by omega)] | rw [min_ (mL_17 _ _) (show c < 6 by omega) (by omega)] | rw [zx_nI (show c < 2 ^ 31 by omega)] | rw [mI_] | rw [d1] | rw [d2] | rw [d3] | rw [d4] | rw [zlt_] | rw [zjn_] | rw [zob_s] | rw [zg_1] | rw [zbi_s] | rw [zbI_s] | rw [zbr_s] | rw [zbR_s] | rw [zbV_s] | rw [zbj_s] | rw [zbJ_s] | rw [zcs_s] | rw [zcs_n])
    unfold gX11_weight_J1
    repeat' split
    all_goals exact ⟨_, rfl, rfl⟩
  · rw [if_neg h1, if_neg (by decide), weightsAt_n p hn x1 h1]
    exact ⟨_, rfl, rfl⟩
/-- weights as they are held -/
def wtN (kd : Nat) (a b c : Int32) : Wt := (kd, (if kd = 0 then a else b), (if kd = 0 then b else a), if kd = 2 then -c else c)
theorem wtN_ok {kd : Nat} (hk : kd < 3) {a b c : Int32} (ha : is9 a) (hb : is9 b) (hc : is9 c) : wtOk (wtN kd a b c) := by
  refine ⟨hk, ?_, ?_, ?_⟩
  · show is9 (if kd = 0 then a else b)
    split <;> assumption
  · show is9 (if kd = 0 then b else a)
    split <;> assumption
  · show is9 (if kd = 2 then -c else c)
    split
    · show -9 ≤ (-c).toInt ∧ (-c).toInt ≤ 9
      rw [Int32.toInt_neg, Int.bmod_eq_of_le (by omega) (by omega)]
      omega
    · exact hc
def wtU (w : Nat → Wt) (n : Nat) (v : Wt) : Nat → Wt := fun k => if k = n then v else w k
theorem addW_M (q : stM I L n w S fa tr) (hL : ledOk L) (hn : n < 6) {kd : Nat} (hk : kd < 3) {a b c : Int32} (ha : is9 a) (hb : is9 b) (hc : is9 c) : ∃ I', gX12_addWeights (mH I J) 0 (nI kd) a b c = some (nI n, mH I' J) ∧ stM I' L (n + 1) (wtU w n (wtN kd a b c)) S fa tr := by
  have w1 : I 0 19 = nI n := q.2.1.1
  let v := wtN kd a b c
  refine ⟨zU (zU (zU (zU (zU I 14 n (nI kd)) 15 n v.2.1) 16 n v.2.2.1) 17 n v.2.2.2) 0 19 (nI (n + 1)), ?_, ?_⟩
  · unfold gX12_addWeights
    rw [isWeightM, isWeightM, isWeightM, zbi_s, if_pos ha, if_neg (by decide), if_pos hb, zbi_s, if_neg (by decide), if_pos hc, zbi_s, if_neg (by decide), mI_, w1, if_neg (show ¬ nI n = (6 : Int32) from fun hh => by have := (nI_inj (b := 6) (by omega) (by omega)).mp hh; omega)]
    have e0 : ∀ (K : Int32 → Option (Int32 × Zh)) (x y : Int32), (if nI kd = 0 then K x else K y) = K (if kd = 0 then x else y) := fun K x y => by
      rcases (show kd = 0 ∨ kd = 1 ∨ kd = 2 by omega) with rfl | rfl | rfl <;> rfl
    have e2 : ∀ (K : Int32 → Option (Int32 × Zh)) (x y : Int32), (if nI kd = 2 then K x else K y) = K (if kd = 2 then x else y) := fun K x y => by
      rcases (show kd = 0 ∨ kd = 1 ∨ kd = 2 by omega) with rfl | rfl | rfl <;> rfl
    have u1 : ∀ (I : Nat → Nat → Int32) (a b : Nat) (v : Int32), a ≠ 0 → zU I a b v 0 19 = I 0 19 := fun I a b v ha => zU_n _ _ _ _ _ _ (by omega)
    repeat (first | rw [mR_20] | rw [mR_21] | rw [min_ (mL_14 _ _) (show n < 6 by omega) (by omega)] | rw [zx_nI (show n < 2 ^ 31 by omega)] | rw [msI] | rw [e0] | rw [zlt_] | rw [zjn_] | rw [zob_s] | rw [zg_1] | rw [zbi_s] | rw [zbI_s] | rw [zbr_s] | rw [zbR_s] | rw [zbV_s] | rw [zbj_s] | rw [zbJ_s] | rw [zcs_s] | rw [zcs_n])
    unfold gX12_addWeights_J3
    repeat (first | rw [mI_] | rw [u1 _ _ _ _ (by decide)] | rw [w1] | rw [mR_22] | rw [min_ (mL_15 _ _) (show n < 6 by omega) (by omega)] | rw [zx_nI (show n < 2 ^ 31 by omega)] | rw [msI] | rw [e0] | rw [zlt_] | rw [zjn_] | rw [zob_s] | rw [zg_1] | rw [zbi_s] | rw [zbI_s] | rw [zbr_s] | rw [zbR_s] | rw [zbV_s] | rw [zbj_s] | rw [zbJ_s] | rw [zcs_s] | rw [zcs_n])
    unfold gX12_addWeights_J2
    repeat (first | rw [mI_] | rw [u1 _ _ _ _ (by decide)] | rw [w1] | rw [mR_23] | rw [min_ (mL_16 _ _) (show n < 6 by omega) (by omega)] | rw [zx_nI (show n < 2 ^ 31 by omega)] | rw [msI] | rw [e2] | rw [zlt_] | rw [zjn_] | rw [zob_s] | rw [zg_1] | rw [zbi_s] | rw [zbI_s] | rw [zbr_s] | rw [zbR_s] | rw [zbV_s] | rw [zbj_s] | rw [zbJ_s] | rw [zcs_s] | rw [zcs_n])
    unfold gX12_addWeights_J1
    repeat (first | rw [mI_] | rw [u1 _ _ _ _ (by decide)] | rw [w1] | rw [min_ (mL_17 _ _) (show n < 6 by omega) (by omega)] | rw [zx_nI (show n < 2 ^ 31 by omega)] | rw [msI] | rw [zU_e] | rw [← nI_sc] | rw [zlt_] | rw [zjn_] | rw [zob_s] | rw [zg_1] | rw [zbi_s] | rw [zbI_s] | rw [zbr_s] | rw [zbR_s] | rw [zbV_s] | rw [zbj_s] | rw [zbJ_s] | rw [zcs_s] | rw [zcs_n])
    rw [show nI (n + 1) - 1 = nI n by rw [nI_sc]; grind]
    rfl
  · obtain ⟨q1, q2, q3, q4, q5⟩ := q
    have hm : ∀ a b, ¬ (14 ≤ a ∧ a ≤ 17) → ¬ (a = 0 ∧ b = 19) → zU (zU (zU (zU (zU I 14 n (nI kd)) 15 n v.2.1) 16 n v.2.2.1) 17 n v.2.2.2) 0 19 (nI (n + 1)) a b = I a b := fun a b n1 n2 => by
      rw [zU_n _ _ _ _ _ _ (by omega), zU_n _ _ _ _ _ _ (by omega), zU_n _ _ _ _ _ _ (by omega), zU_n _ _ _ _ _ _ (by omega), zU_n _ _ _ _ _ _ (by omega)]
    refine ⟨q1.mv hL (fun b hb => hm _ _ (by omega) (by omega)) (fun a b _ _ => hm _ _ (by omega) (by omega)) (fun b => hm _ _ (by omega) (by omega)), ⟨zU_e _ _ _ _, fun k hk => ?_⟩, q3.mv (fun a b _ _ => hm _ _ (by omega) (by omega)), (hm _ _ (by omega) (by omega)).trans q4, (hm _ _ (by omega) (by omega)).trans q5⟩
    unfold wtU
    by_cases e : k = n
    · subst e
      rw [if_pos rfl]
      refine ⟨?_, ?_, ?_, ?_⟩ <;> simp [zU, v, wtN]
    · rw [if_neg e]
      obtain ⟨d1, d2, d3, d4⟩ := q2.2 k (by omega)
      refine ⟨?_, ?_, ?_, ?_⟩
      · simp [zU, e, d1]
      · simp [zU, e, d2]
      · simp [zU, e, d3]
      · simp [zU, e, d4]
theorem take_X (p : stX SC h o L n w S fa tr) (hn : n < 6) {kd : Nat} (hk : kd < 3) (a b c : Int32) : ∃ h' o', gX11_take h 0 (nI kd) a b c = some (nI n, h') ∧ stX SC h' o' L (n + 1) (wtU w n (wtN kd a b c)) S fa tr ∧ stP h h' := by
  obtain ⟨f1, l9, hN, o0, o9⟩ : zR h 0 1 = some 9 ∧ zL h 9 = 6 ∧ 12 ≤ zN h ∧ o 0 = 100 ∧ o 9 = 109 := ⟨p.1.1.2.1, p.1.2.2.1.1, p.1.2.2.2.1, p.1.2.2.2.2.1, p.1.2.2.2.2.2.2.2.2.1⟩
  have w1 : zI h 0 4 = nI n := p.2.2.1.1
  let v := wtN kd a b c
  let h1 := zsI (zsI (zsI (zsI (zA h (wtK kd) 4) (zN h) 0 (nI n)) (zN h) 1 v.2.1) (zN h) 2 v.2.2.1) (zN h) 3 v.2.2.2
  let h3 := zsI (zsR h1 9 n (some (zN h))) 0 4 (nI (n + 1))
  have l1 : zL h1 9 = 6 := by
    show zL (zA h (wtK kd) 4) 9 = 6
    rw [zA_L (by omega)]; exact l9
  have i1 : zin (nI n) (zL h1 9) = true := by rw [l1]; exact zin_nI hn (by omega)
  have hlt : (nI n : Int32) < 6 := nI_lt (b := 6) hn (by decide)
  have e4 : zI (zsR h1 9 n (some (zN h))) 0 4 = nI n := by
    show zI h1 0 4 = nI n
    have : ∀ (g : Zh) (k : Nat) (u : Int32), zI (zsI g (zN h) k u) 0 4 = zI g 0 4 := fun g k u => by rw [zI_s, if_neg (by omega)]
    rw [this, this, this, this, zA_I (by omega)]
    exact w1
  have m1 : zMv (fun _ => False) h o h1 (oA h o 1) := ((((zMv.A (T := fun _ => False) 1).nI (Nat.le_refl _)).nI (Nat.le_refl _)).nI (Nat.le_refl _)).nI (Nat.le_refl _)
  have p1 := stX_new m1 p
  have g4 : ∀ x y z : Int32, gX4_init (zA h (wtK kd) 4) (zN h) x y z (v.2.2.2) = some (zsI (zsI (zsI (zsI (zA h (wtK kd) 4) (zN h) 0 x) (zN h) 1 y) (zN h) 2 z) (zN h) 3 v.2.2.2) := fun x y z => rfl
  refine ⟨h3, oA h o 1, ?_, ?_, ?_⟩
  · unfold gX11_take
    rw [w1, if_pos hlt]
    rcases (show kd = 0 ∨ kd = 1 ∨ kd = 2 by omega) with rfl | rfl | rfl
    · rw [zlt_, zjn_, if_pos (show nI 0 = 0 from rfl)]
      have g : gX4_init (zA h 4 4) (zN h) (nI n) a b c = some h1 := rfl
      repeat (first | rw [f1] | rw [g] | rw [i1] | rw [zx_nI (show n < 2 ^ 31 by omega)] | rw [zlt_] | rw [zjn_] | rw [zob_s] | rw [zg_1] | rw [zbi_s] | rw [zbI_s] | rw [zbr_s] | rw [zbR_s] | rw [zbV_s] | rw [zbj_s] | rw [zbJ_s] | rw [zcs_s] | rw [zcs_n])
      unfold gX11_take_J1
      rw [zlt_, e4, ← nI_sc]
    · rw [zlt_, zjn_, if_neg (show ¬ nI 1 = 0 by decide), if_pos (show nI 1 = 1 from rfl)]
      have g : gX10_init (zA h 10 4) (zN h) (nI n) a b c = some h1 := rfl
      repeat (first | rw [f1] | rw [g] | rw [i1] | rw [zx_nI (show n < 2 ^ 31 by omega)] | rw [zlt_] | rw [zjn_] | rw [zob_s] | rw [zg_1] | rw [zbi_s] | rw [zbI_s] | rw [zbr_s] | rw [zbR_s] | rw [zbV_s] | rw [zbj_s] | rw [zbJ_s] | rw [zcs_s] | rw [zcs_n])
      unfold gX11_take_J1
      rw [zlt_, e4, ← nI_sc]
    · rw [zlt_, zjn_, if_neg (show ¬ nI 2 = 0 by decide), if_neg (show ¬ nI 2 = 1 by decide)]
      have g : gX7_init (zA h 7 4) (zN h) (nI n) a b c = some h1 := rfl
      repeat (first | rw [f1] | rw [g] | rw [i1] | rw [zx_nI (show n < 2 ^ 31 by omega)] | rw [zlt_] | rw [zjn_] | rw [zob_s] | rw [zg_1] | rw [zbi_s] | rw [zbI_s] | rw [zbr_s] | rw [zbR_s] | rw [zbV_s] | rw [zbj_s] | rw [zbJ_s] | rw [zcs_s] | rw [zcs_n])
      unfold gX11_take_J1
      rw [zlt_, e4, ← nI_sc]
  · have o9' : oA h o 1 9 = 109 := (oA_o (by omega)).trans o9
    have o0' : oA h o 1 0 = 100 := (oA_o (by omega)).trans o0
    have m3 : zMv (fun t => t = 100 ∨ t = 109) h1 (oA h o 1) h3 (oA h o 1) := (zMv.sR (T := fun t => t = 100 ∨ t = 109) (Or.inr o9')).tr (zMv.sI (Or.inl o0'))
    obtain ⟨p1, p2, p3, p4, ⟨p5, p6⟩, p7, p8, p9⟩ := p1
    obtain ⟨-, e1, e3, e4', -, e10, e11⟩ := p1.at m3
    have f10 := e10 (by omega)
    have f1' := e1 (by omega)
    have q1 : fixX h3 (oA h o 1) := by
      obtain ⟨r, ⟨l0, l1, l2, l3⟩, ⟨l9, l10, k0⟩, hn', ho⟩ := p1
      exact ⟨r, ⟨l0, l1, l2, l3⟩, ⟨l9, l10, k0⟩, hn', ho⟩
    refine ⟨q1, p2.mv m3 p1 (by omega) (by omega) (by omega) (by omega), ⟨zI_se _ _ _ _, fun k hk => ?_⟩, p4.mv m3 p1 (by omega) (by omega) (fun k hk => by omega), ⟨?_, ((e11 (by omega)).2.2.1 0).trans p6⟩, p7.mv m3 (by omega) rfl, p8.mv m3 (by omega) rfl, p9.mv m3 (by omega) (by omega) rfl⟩
    · unfold wtU
      by_cases e : k = n
      · subst e
        rw [if_pos rfl]
        refine ⟨zN h, ?_, ⟨Nat.lt_succ_self _, oA_n⟩, ?_⟩
        · show zR (zsR h1 9 k (some (zN h))) 9 k = _
          rw [zR_se]
        · have hz : ∀ j, zI h3 (zN h) j = zI h1 (zN h) j := fun j => by
            show zI (zsI (zsR h1 9 k (some (zN h))) 0 4 (nI (k + 1))) (zN h) j = _
            rw [zI_s, if_neg (by omega)]; rfl
          refine ⟨zA_Kn h _ 4, ?_, ?_, ?_, ?_⟩
          · rw [hz]; simp [h1, zI_s]
          · rw [hz]; simp [h1, zI_s, v]
          · rw [hz]; simp [h1, zI_s, v]
          · rw [hz]; simp [h1, zI_s, v]
      · rw [if_neg e]
        obtain ⟨a', a1, a2, b0, b1, b2, b3, b4⟩ := p3.2 k (by omega)
        have ea := a2.at m3 (by omega)
        refine ⟨a', ?_, a2.mv m3, ea.1.trans b0, (ea.2.2.1 0).trans b1, (ea.2.2.1 1).trans b2, (ea.2.2.1 2).trans b3, (ea.2.2.1 3).trans b4⟩
        show zR (zsR h1 9 n (some (zN h))) 9 k = _
        rw [zR_s, if_neg (by omega)]
        exact a1
    · show zI (zsI (zsR h1 9 n (some (zN h))) 0 4 (nI (n + 1))) 0 5 = fa
      rw [zI_s, if_neg (by omega)]
      exact p5
  · refine ⟨?_, ?_⟩
    · show zN h + 1 ≤ _
      omega
    · show zS h + 4 ≤ _
      omega
theorem weiOk_U (hk : weiOk n w) (hn : n < 6) {v : Wt} (hv : wtOk v) : weiOk (n + 1) (wtU w n v) := by
  refine ⟨by omega, fun k hk' => ?_⟩
  unfold wtU
  by_cases e : k = n
  · rw [if_pos e]; exact hv
  · rw [if_neg e]; exact hk.2 k (by omega)
/-- weights taken by both, kind and numbers being right -/
theorem take_st2 (p : stX SC h o L n w S fa tr) (q : stM I L n w S fa tr) (k : stOk L n w S) {kd : Nat} (hk : kd < 3) {a b c : Int32} (ha : is9 a) (hb : is9 b) (hc : is9 c) : stG SC (gX11_take h 0 (nI kd) a b c) (gX12_addWeights (mH I J) 0 (nI kd) a b c) h := by
  by_cases hn : n < 6
  · obtain ⟨I', i1, i2⟩ := addW_M (J := J) q k.1 hn hk ha hb hc
    obtain ⟨h', o', x1, x2, x3⟩ := take_X p hn hk a b c
    exact ⟨_, h', I', J, o', L, _, _, S, fa, tr, x1, i1, x2, i2, ⟨k.1, weiOk_U k.2.1 hn (wtN_ok hk ha hb hc), k.2.2⟩, x3⟩
  · have hn6 : n = 6 := by have := k.2.1.1; omega
    have w1 : zI h 0 4 = nI n := p.2.2.1.1
    have w2 : I 0 19 = nI n := q.2.1.1
    unfold gX11_take gX12_addWeights
    rw [w1, hn6, if_neg (show ¬ nI 6 < (6 : Int32) from Int32.lt_irrefl), isWeightM, isWeightM, isWeightM, zbi_s, if_pos ha, if_neg (show ¬ (1 : Int32) = 0 by decide), if_pos hb, zbi_s, if_neg (show ¬ (1 : Int32) = 0 by decide), if_pos hc, zbi_s, if_neg (show ¬ (1 : Int32) = 0 by decide), mI_, w2, hn6, if_pos (show nI 6 = (6 : Int32) from rfl)]
    exact stG_0 p q k _
theorem addW_no (g : Zh) (x : Int32) {a b c : Int32} (hC : ¬ (is9 a ∧ is9 b ∧ is9 c)) : gX12_addWeights g 0 x a b c = some (-2, g) := by
  unfold gX12_addWeights
  rw [isWeightM, isWeightM, isWeightM, zbi_s]
  by_cases ha : is9 a
  · rw [if_pos ha, if_neg (by decide)]
    by_cases hb : is9 b
    · rw [if_pos hb, zbi_s, if_neg (by decide), if_neg (fun hc => hC ⟨ha, hb, hc⟩), zbi_s, if_pos rfl]
    · rw [if_neg hb, zbi_s, if_pos rfl]
  · rw [if_neg ha, if_pos rfl]
theorem stG_bI {g1 g2 : Option (Int32 × Zh)} (hg : stG SC g1 g2 h) : stG SC (zbI g1 (fun x h1 => some (x, h1))) (zbI g2 (fun x h1 => some (x, h1))) h := by
  obtain ⟨r, h', I', J', o', L', n', w', S', fa', tr', e1, e2, e3⟩ := hg
  exact ⟨r, h', I', J', o', L', n', w', S', fa', tr', by rw [e1]; rfl, by rw [e2]; rfl, e3⟩
theorem weights_st (p : stX SC h o L n w S fa tr) (q : stM I L n w S fa tr) (k : stOk L n w S) (x1 x2 x3 x4 : Int32) : stG SC (gX11_weights h 0 x1 x2 x3 x4) (gX12_weights (mH I J) 0 x1 x2 x3 x4) h := by
  unfold gX11_weights gX12_weights
  rw [noKindX, zbi_s, in_R x1 2 3 rfl, zbi_s]
  by_cases h1 : inR x1 3
  · rw [if_pos h1, if_pos h1, if_pos rfl, if_neg (show ¬ (1 : Int32) = 0 by decide), noWeightsX, zbi_s]
    obtain ⟨kd, hk, rfl⟩ := inR_f h1
    by_cases hC : is9 x2 ∧ is9 x3 ∧ is9 x4
    · rw [if_pos hC, if_pos rfl]
      exact stG_bI (take_st2 p q k hk hC.1 hC.2.1 hC.2.2)
    · rw [if_neg hC, if_neg (by decide), addW_no _ _ hC, zbI_s]
      exact stG_0 p q k _
  · rw [if_neg h1, if_neg h1, if_neg (by decide), if_pos rfl]
    exact stG_0 p q k _
end Ops
