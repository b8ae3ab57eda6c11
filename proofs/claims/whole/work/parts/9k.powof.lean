/-! the class's powerOf -/
theorem seK_scr2 {QR : Qs} {h h' : Zh} {ch : Ch} {s m g : Nat} (hq : qrOk QR) (k : seK QTc QR ch m g (aI h s) (aJ h s)) (eI : ∀ b, zI h' s b = zI h s b) (e1 : ∀ b, zI h' (s + 1) b = zI h (s + 1) b) (e3 : ∀ b, zJ h' (s + 3) b = zJ h (s + 3) b) (e4 : ∀ b, zJ h' (s + 4) b = zJ h (s + 4) b) (e6 : ∀ b, zJ h' (s + 6) b = zJ h (s + 6) b) : seK QTc QR ch m g (aI h' s) (aJ h' s) := by
  have eA : ∀ b, aI h' s 0 b = aI h s 0 b := fun b => by rw [aI_i _ _ _ _ (by omega), aI_i _ _ _ _ (by omega)]; exact eI b
  have eB : ∀ b, aI h' s 1 b = aI h s 1 b := fun b => by rw [aI_i _ _ _ _ (by omega), aI_i _ _ _ _ (by omega)]; exact e1 b
  have eJ : ∀ a, a < 9 → (∀ b, zJ h' (s + a) b = zJ h (s + a) b) → ∀ b, aJ h' s a b = aJ h s a b := fun a ha hh b => by
    rw [aJ_i _ _ _ _ ha, aJ_i _ _ _ _ ha, hh]
  obtain ⟨k1, k2, ⟨j1, j2, j3, j4⟩, k4, k5⟩ := k
  refine ⟨k1, k2, ⟨(eA _).trans j1, (eA _).trans j2, (eA _).trans j3, fun i x hx => (eB _).trans (j4 i x hx)⟩, ?_, ?_⟩
  · rcases k4 with k4 | ⟨k4, q1, q2, q3⟩
    · exact Or.inl ((eA _).trans k4)
    · exact Or.inr ⟨(eA _).trans k4, q1, fun i j hi hj => (eJ 3 (by omega) e3 _).trans (q2 i j hi hj), fun b hb => (eJ 4 (by omega) e4 _).trans (q3 b hb)⟩
  · rcases k5 with k5 | ⟨k5, q⟩
    · exact Or.inl ((eA _).trans k5)
    · exact Or.inr ⟨(eA _).trans k5, (hq _ _ _ _ _ _ _ q).2 (eA _) (eA _) (eA _) (eJ 6 (by omega) e6)⟩
noncomputable def mlT (m t : Nat) : List Nat := (List.range t).filter (fun s => Nat.beq (poN s) m)
theorem mlT_s (m t : Nat) : mlT m (t + 1) = if poN t = m then mlT m t ++ [t] else mlT m t := by
  unfold mlT
  rw [List.range_succ, List.filter_append]
  by_cases h : poN t = m
  · rw [if_pos h, List.filter_cons_of_pos (by rw [h]; exact Nat.beq_refl m)]; rfl
  · rw [if_neg h, List.filter_cons_of_neg (by rw [beq_f h]; decide), List.filter_nil, List.append_nil]
theorem mlT_le (m : Nat) {t u : Nat} (h : t ≤ u) : (mlT m t).length ≤ (mlT m u).length := by
  obtain ⟨k, rfl⟩ : ∃ k, u = t + k := ⟨u - t, by omega⟩
  clear h
  induction k with
  | zero => exact Nat.le_refl _
  | succ k ih =>
    rw [show t + (k + 1) = (t + k) + 1 by omega, mlT_s]
    split
    · rw [List.length_append]; omega
    · exact ih
noncomputable def mbH (m s : Nat) (h : Zh) : Nat → Zh
  | 0 => h
  | t + 1 => if poN t = m then zsI (mbH m s h t) (s + 2) (mlT m t).length (nI t) else mbH m s h t
theorem mbH_ok (m s : Nat) (h : Zh) : ∀ t, ((zN (mbH m s h t) = zN h ∧ zS (mbH m s h t) = zS h) ∧ (∀ a, zK (mbH m s h t) a = zK h a ∧ zL (mbH m s h t) a = zL h a) ∧ (∀ a k, zR (mbH m s h t) a k = zR h a k) ∧ ∀ a k, zJ (mbH m s h t) a k = zJ h a k) ∧ (∀ a k, a ≠ s + 2 → zI (mbH m s h t) a k = zI h a k) ∧ ∀ i x, (mlT m t)[i]? = some x → zI (mbH m s h t) (s + 2) i = nI x
  | 0 => ⟨⟨⟨rfl, rfl⟩, fun _ => ⟨rfl, rfl⟩, fun _ _ => rfl, fun _ _ => rfl⟩, fun _ _ _ => rfl, fun i x hi => by simp [mlT] at hi⟩
  | t + 1 => by
    obtain ⟨a1, a2, a3⟩ := mbH_ok m s h t
    by_cases e : poN t = m
    · have e1 : mbH m s h (t + 1) = zsI (mbH m s h t) (s + 2) (mlT m t).length (nI t) := if_pos e
      rw [e1, mlT_s, if_pos e]
      refine ⟨a1, fun a k ha => ?_, fun i x hi => ?_⟩
      · rw [zI_s, if_neg (fun hh => ha hh.1)]; exact a2 a k ha
      · rw [zI_s]
        rcases Nat.lt_or_ge i (mlT m t).length with hlt | hge
        · rw [if_neg (fun hh => by omega)]
          rw [List.getElem?_append_left hlt] at hi
          exact a3 i x hi
        · rw [List.getElem?_append_right hge] at hi
          have h0 : i - (mlT m t).length = 0 := by
            have h1 := (List.getElem?_eq_some_iff.mp hi).1
            have h2 : i - (mlT m t).length < 1 := h1
            omega
          rw [h0] at hi
          have : t = x := by simpa using hi
          rw [if_pos ⟨rfl, by omega⟩, this]
    · have e1 : mbH m s h (t + 1) = mbH m s h t := if_neg e
      rw [e1, mlT_s, if_neg e]
      exact ⟨a1, a2, a3⟩
theorem chAt_I {h h' : Zh} {c N r : Nat} {e d : Int32} (eI : ∀ k, zI h' c k = zI h c k) (p : chAt h c N r e d) : chAt h' c N r e d := ⟨(eI _).trans p.1, (eI _).trans p.2.1, (eI _).trans p.2.2.1, (eI _).trans p.2.2.2.1, (eI _).trans p.2.2.2.2.1, (eI _).trans p.2.2.2.2.2⟩
theorem gatherM_ok {h : Zh} {s c N r m : Nat} {e d : Int32} (x : seR h s) (rc : zR h s 10 = some c) (hcs : c ≠ s + 2) (hc : chAt h c N r e d) (hN : N ≤ 8) (h11 : zI h s 11 = nI m) (hm : m ≤ N) (K : Int32 → Zh → Option (Int64 × Zh)) : zlp (fun (_ : Int32) (_ : Int32) (_ : Zh) => (none : Option (Int64 × Zh))) (gX5_powerSumOfAll_L5 s K) zFU 0 0 h = K (nI (mlL N m).length) (mbH m s h (2 ^ N)) := by
  have h256 : 2 ^ N ≤ 2 ^ 8 := Nat.pow_le_pow_right (by decide) hN
  have h70 : (mlT m (2 ^ N)).length ≤ 70 := ml_70 hN hm
  refine zlp_it (R := Option (Int64 × Zh)) (z := fun (_ : Int32) (_ : Int32) (_ : Zh) => (none : Option (Int64 × Zh))) (F := gX5_powerSumOfAll_L5 s K) (fun t (F : Int32 → Int32 → Zh → Option (Int64 × Zh)) => F (nI (mlT m t).length) (nI t) (mbH m s h t)) _ (2 ^ N) ?_ ?_ zFU (by unfold zFU; omega)
  · intro t ht rr
    obtain ⟨⟨a1, a2, a3, a4⟩, a5, a6⟩ := mbH_ok m s h t
    show gX5_powerSumOfAll_L5 s K rr (nI (mlT m t).length) (nI t) (mbH m s h t) = rr (nI (mlT m (t + 1)).length) (nI (t + 1)) (if poN t = m then zsI (mbH m s h t) (s + 2) (mlT m t).length (nI t) else mbH m s h t)
    have hs1 := mlT_s m t
    have hle := Nat.le_trans (mlT_le m (show t + 1 ≤ 2 ^ N from ht)) h70
    generalize mbH m s h t = G at *
    have hcG := chAt_I (fun k => a5 c k hcs) hc
    have rcG : zR G s 10 = some c := (a3 _ _).trans rc
    have q11 : zI G s 11 = nI m := (a5 _ _ (by omega)).trans h11
    have r1 : zR G s 1 = some (s + 2) := (a3 _ _).trans (x 1 (by omega)).1
    have l1 : zL G (s + 2) = 70 := (a2 _).2.trans (x 1 (by omega)).2
    have hJ : ∀ u k, gX5_powerSumOfAll_J4 (nI t) rr u k = rr u (nI (t + 1)) k := fun u k => by unfold gX5_powerSumOfAll_J4; rw [← nI_sc]
    have hpo : poN t < 16 := Nat.mod_lt _ (by decide)
    unfold gX5_powerSumOfAll_L5
    rw [zlt_, rcG, zob_s, hcG.2.2.2.2.1, if_neg (zge_n ht (by omega)), (popc_ok (show t < 256 by omega)).2, zbi_s, zjn_, q11]
    by_cases e1 : poN t = m
    · rw [if_pos e1] at hs1
      rw [hs1, List.length_append] at hle ⊢
      have hlt : (mlT m t).length < 70 := Nat.lt_of_lt_of_le (Nat.lt_succ_self _) hle
      have iz : zin (nI (mlT m t).length) 70 = true := zin_nI hlt (by omega)
      rw [if_pos (show nI (syg 4 popK t) = nI m by rw [← e1]), if_pos e1, zlt_, r1, zob_s, l1, if_neg (show ¬ Int32.ofNat 70 ≤ nI (mlT m t).length from zge_n (b := 70) hlt (by decide)), zlt_, zob_s, l1, iz, zg_1, zx_nI (by omega), zlt_, hJ, ← nI_sc]
      rfl
    · rw [if_neg e1] at hs1
      rw [hs1, if_neg (show ¬ nI (syg 4 popK t) = nI m from fun hh => e1 ((nI_inj (by omega) (by omega)).mp hh)), if_neg e1, hJ]
  · intro rr
    obtain ⟨⟨a1, a2, a3, a4⟩, a5, a6⟩ := mbH_ok m s h (2 ^ N)
    have hcG := chAt_I (fun k => a5 c k hcs) hc
    have rcG : zR (mbH m s h (2 ^ N)) s 10 = some c := (a3 _ _).trans rc
    show gX5_powerSumOfAll_L5 s K rr _ (nI (2 ^ N)) (mbH m s h (2 ^ N)) = _
    unfold gX5_powerSumOfAll_L5
    rw [zlt_, rcG, zob_s, hcG.2.2.2.2.1, if_pos (Int32.le_refl _)]
    rfl
theorem w2_self (h : Zh) (p q : Nat) : w2 h p q (zJ h p) (zJ h q) = h := by
  unfold w2
  rw [wRJ_self, wRJ_self]
section Sum
variable {h : Zh} {s c p q N r m : Nat} {e d : Int32}
theorem sumAll_ok (hpq : p ≠ q) (r8 : zR h s 8 = some p) (r9 : zR h s 9 = some q) (lp : zL h p = 256) (lq : zL h q = 256) (r1 : zR h s 1 = some (s + 2)) (l1 : zL h (s + 2) = 70) (hm : ∀ i, i < (mlL N m).length → zI h (s + 2) i = nI ((mlL N m).getD i 0)) (hmN : m ≤ N) (rc : zR h s 10 = some c) (hc : chAt h c N r e d) (h2 : 2 ≤ N) (hN : N ≤ 8) (hr : r ≤ 1) (he1 : 1 ≤ e.toInt) (he2 : e.toInt ≤ 4) (hd1 : -2 ≤ d.toInt) (hd2 : d.toInt ≤ 2) {n : Nat} (hn1 : 1 ≤ n) (hn4 : n ≤ 4) : ∀ (u i : Nat) (A B : Nat → Int64) (fu : Nat), i + u = (mlL N m).length → u < fu → ∃ A' B', zlp (fun (_ : Int64) (_ : Int32) (_ : Zh) => (none : Option (Int64 × Zh))) (gX5_powerSumOfAll_L2 s (nI n) (nI (mlL N m).length)) fu (sF (fun j => vK N r e d ((mlL N m).getD j 0) n ((mlL N m).getD j 0)) (List.range i)) (nI i) (w2 h p q A B) = some (sF (fun f => vK N r e d f n f) (mlL N m), w2 h p q A' B') := by
  have h70 := ml_70 (m := m) hN hmN
  have hmem : ∀ i, i < (mlL N m).length → (mlL N m).getD i 0 < 2 ^ N ∧ poN ((mlL N m).getD i 0) = m := fun i hi => by
    rw [← mlL_mem, List.getD_eq_getElem?_getD, List.getElem?_eq_getElem hi]
    exact List.getElem_mem hi
  have h256 : 2 ^ N ≤ 2 ^ 8 := Nat.pow_le_pow_right (by decide) hN
  intro u
  induction u with
  | zero =>
    intro i A B fu hi hfu
    obtain ⟨fu, rfl⟩ : ∃ f, fu = f + 1 := ⟨fu - 1, by omega⟩
    have ei : i = (mlL N m).length := by omega
    refine ⟨A, B, ?_⟩
    show gX5_powerSumOfAll_L2 s (nI n) (nI (mlL N m).length) _ _ (nI i) _ = _
    unfold gX5_powerSumOfAll_L2
    rw [ei, if_pos (Int32.le_refl _), sF_get (fun f => vK N r e d f n f)]
  | succ u ih =>
    intro i A B fu hi hfu
    obtain ⟨fu, rfl⟩ : ∃ f, fu = f + 1 := ⟨fu - 1, by omega⟩
    have hlt : i < (mlL N m).length := by omega
    obtain ⟨m1, m2⟩ := hmem i hlt
    have step : ∀ Z : Int64 → Int32 → Zh → Option (Int64 × Zh), ∃ A' B', gX5_powerSumOfAll_L2 s (nI n) (nI (mlL N m).length) Z (sF (fun j => vK N r e d ((mlL N m).getD j 0) n ((mlL N m).getD j 0)) (List.range i)) (nI i) (w2 h p q A B) = Z (sF (fun j => vK N r e d ((mlL N m).getD j 0) n ((mlL N m).getD j 0)) (List.range (i + 1))) (nI (i + 1)) (w2 h p q A' B') := by
      intro Z
      have jii : zin (nI i) 70 = true := zin_nI (by omega) (by omega)
      have yii : zx (nI i) = i := zx_nI (by omega)
      have w1 : ∀ A B, zR (w2 h p q A B) s 1 = some (s + 2) := fun _ _ => r1
      have w10 : ∀ A B, zR (w2 h p q A B) s 10 = some c := fun _ _ => rc
      have v1 : ∀ A B, zL (w2 h p q A B) (s + 2) = 70 := fun _ _ => l1
      have vm : ∀ A B, zI (w2 h p q A B) (s + 2) i = nI ((mlL N m).getD i 0) := fun _ _ => hm i hlt
      have hJ1 : ∀ v k, gX5_powerSumOfAll_J1 (sF (fun j => vK N r e d ((mlL N m).getD j 0) n ((mlL N m).getD j 0)) (List.range i)) (nI i) Z v k = Z (sF (fun j => vK N r e d ((mlL N m).getD j 0) n ((mlL N m).getD j 0)) (List.range i) + v) (nI (i + 1)) k := fun v k => by
        unfold gX5_powerSumOfAll_J1
        rw [zlt_, ← nI_sc]
      rw [sF_range]
      generalize hS0 : sF (fun j => vK N r e d ((mlL N m).getD j 0) n ((mlL N m).getD j 0)) (List.range i) = S0 at *
      unfold gX5_powerSumOfAll_L2
      by_cases hn : n = 1
      · have hst : gX0_stay (w2 h p q A B) c (nI ((mlL N m).getD i 0)) = some (aSum N e d ((mlL N m).getD i 0) ((mlL N m).getD i 0) (chP N r)) := stay_ok (h := w2 h p q A B) hc h2 hN hr hd1 hd2 _ m1
        refine ⟨A, B, ?_⟩
        rw [if_neg (zge_n hlt (by omega)), zjn_, if_pos (show nI n = 1 by rw [hn]; rfl)]
        repeat (first | rw [w10] | rw [w1] | rw [v1] | rw [jii] | rw [yii] | rw [vm] | rw [hst] | rw [hJ1] | rw [zlt_] | rw [zjn_] | rw [zob_s] | rw [zg_1] | rw [zbi_s] | rw [zbI_s] | rw [zbr_s] | rw [zbR_s] | rw [zbV_s] | rw [zbj_s] | rw [zbJ_s] | rw [zcs_s] | rw [zcs_n])
        rw [hn, vK_1 m1]
        rfl
      · obtain ⟨A', B', t1, t2, t3⟩ := atItself_ok (mA := fun j => (mlL N m).getD j 0) hpq r8 r9 lp lq r1 l1 h70 (fun j hj => ⟨hm j hj, (hmem j hj).1⟩) rc hc h2 hN hr hd1 hd2 m1 (show 2 ≤ n by omega) hn4 A B
        refine ⟨A', B', ?_⟩
        have hA : ∀ j, j < (mlL N m).length → A' ((mlL N m).getD j 0) = vK N r e d ((mlL N m).getD i 0) 1 ((mlL N m).getD j 0) := fun j hj => by
          rw [t2, spW_v h2 hN he1 he2 hd1 hd2 m1, zrA_v (fun j => (mlL N m).getD j 0) A _ j hj, vK_1 m1]; grind
        have hB : n ≠ 2 → ∀ j, j < (mlL N m).length → B' ((mlL N m).getD j 0) = vK N r e d ((mlL N m).getD i 0) 2 ((mlL N m).getD j 0) := fun hn2 j hj => by
          rw [t3, if_neg hn2, twB_v h2 hN he1 he2 hd1 hd2 _ _ _ (fun j hj => (hmem j hj).1) _ _ (Nat.le_refl _), zrA_v (fun j => (mlL N m).getD j 0) B _ j hj]
          have e1 : sF (fun l => A' ((mlL N m).getD l 0) * hV N r e d ((mlL N m).getD l 0) ((mlL N m).getD j 0)) (List.range (mlL N m).length) = sF (fun l => (fun u => hV N r e d ((mlL N m).getD i 0) u * hV N r e d u ((mlL N m).getD j 0)) ((mlL N m).getD l 0)) (List.range (mlL N m).length) := sF_cg _ (fun l hl => by
            rw [hA l (List.mem_range.mp hl), vK_1 m1])
          rw [e1, sF_get (fun u => hV N r e d ((mlL N m).getD i 0) u * hV N r e d u ((mlL N m).getD j 0))]
          have e2 := vK_2 (r := r) (e := e) (d := d) h2 hN m1 ((mlL N m).getD j 0)
          rw [m2] at e2
          rw [e2]; grind
        have hv : sF (fun j => (if n = 4 then B' ((mlL N m).getD j 0) else A' ((mlL N m).getD j 0)) * (if n = 2 then A' ((mlL N m).getD j 0) else B' ((mlL N m).getD j 0))) (List.range (mlL N m).length) = vK N r e d ((mlL N m).getD i 0) n ((mlL N m).getD i 0) := by
          have at2 := fun a b => at_n (r := r) (e := e) (d := d) h2 hN m1 a b
          rw [m2] at at2
          rcases (show n = 2 ∨ n = 3 ∨ n = 4 by omega) with e3 | e3 | e3
          · subst e3
            rw [← at2 1 1, ← sF_get (fun t => vK N r e d ((mlL N m).getD i 0) 1 t * vK N r e d ((mlL N m).getD i 0) 1 t)]
            exact sF_cg _ (fun j hj => by
              have hj := List.mem_range.mp hj
              rw [if_neg (by decide), if_pos rfl, hA j hj])
          · subst e3
            rw [← at2 1 2, ← sF_get (fun t => vK N r e d ((mlL N m).getD i 0) 1 t * vK N r e d ((mlL N m).getD i 0) 2 t)]
            exact sF_cg _ (fun j hj => by
              have hj := List.mem_range.mp hj
              rw [if_neg (by decide), if_neg (by decide), hA j hj, hB (by decide) j hj])
          · subst e3
            rw [← at2 2 2, ← sF_get (fun t => vK N r e d ((mlL N m).getD i 0) 2 t * vK N r e d ((mlL N m).getD i 0) 2 t)]
            exact sF_cg _ (fun j hj => by
              have hj := List.mem_range.mp hj
              rw [if_pos rfl, if_neg (by decide), hB (by decide) j hj])
        rw [hv] at t1
        rw [if_neg (zge_n hlt (by omega)), zjn_, if_neg (show ¬ nI n = 1 from fun hh => hn ((nI_inj (b := 1) (by omega) (by omega)).mp hh))]
        repeat (first | rw [w1] | rw [v1] | rw [jii] | rw [yii] | rw [vm] | rw [t1] | rw [hJ1] | rw [zlt_] | rw [zjn_] | rw [zob_s] | rw [zg_1] | rw [zbi_s] | rw [zbI_s] | rw [zbr_s] | rw [zbR_s] | rw [zbV_s] | rw [zbj_s] | rw [zbJ_s] | rw [zcs_s] | rw [zcs_n])
    obtain ⟨A1, B1, g1⟩ := step (zlp (fun (_ : Int64) (_ : Int32) (_ : Zh) => (none : Option (Int64 × Zh))) (gX5_powerSumOfAll_L2 s (nI n) (nI (mlL N m).length)) fu)
    obtain ⟨A', B', g2⟩ := ih (i + 1) A1 B1 fu (by omega) (by omega)
    exact ⟨A', B', g1.trans g2⟩
end Sum
section Ops
variable {QR : Qs} {h h' : Zh} {o o' : Nat → Nat} {L : Led} {n : Nat} {w : Nat → Wt} {S : Nat → Option Sh} {fa tr : Int32} {ch : Ch} {s c m g : Nat}
theorem stX_sec2 (p : stX (seC QTc QR) h o L n w S fa tr) (mm : zMv (fun t => t = 5) h o h' o') (b' : seB h' o' s c ch) (k : seK QTc QR ch m g (aI h' s) (aJ h' s)) : stX (seC QTc QR) h' o' L n w S fa tr := by
  obtain ⟨e0, -⟩ := p.1.at mm
  have f0 := e0 (by omega)
  exact p.works mm (fun t ht => Or.inr (Or.inr (Or.inr ht))) (fun k _ => f0.2.2.2.2 k) (f0.2.2.1 4) ((f0.2.2.1 5).trans p.2.2.2.2.1.1) f0.1 (p.2.2.2.2.2.1.mv mm (by omega) (f0.2.2.2.2 8)) (p.2.2.2.2.2.2.1.mv mm (by omega) (f0.2.2.2.2 7)) (b'.sec k)
theorem onceRows_ok (hq : qrOk QR) (p : stX (seC QTc QR) h o L n w S fa tr) (b : seB h o s c ch) (k : seK QTc QR ch m g (aI h s) (aJ h s)) (x1 : Int32) : ∃ h' o' u v, gX5_powerSumOfAll h s x1 = gX5_powerSumOfAll_J6 s x1 h' ∧ stX (seC QTc QR) h' o' L n w S fa tr ∧ seB h' o' s c ch ∧ seK QTc QR ch m g (aI h' s) (aJ h' s) ∧ (zR h' s 8 = some u ∧ zR h' s 9 = some v ∧ (u < zN h' ∧ o' u = 5) ∧ (v < zN h' ∧ o' v = 5) ∧ (s + 8 < u ∧ u < v) ∧ zL h' u = 256 ∧ zL h' v = 256) ∧ zN h' ≤ zN h + 2 ∧ zS h' ≤ zS h + 512 := by
  have h0 := fix_pos p b.2.1
  unfold gX5_powerSumOfAll
  rw [zlt_, zjn_, zjn_]
  have b' := b
  obtain ⟨b1, b2, b3, b4, b5, b6, b7⟩ := b
  have k256 : zok 256 = true := by decide
  have x256 : zx 256 = 256 := by decide
  rcases b4 with ⟨q1, q2⟩ | ⟨u, v, q1, q2, q3⟩
  · have hs8 := (b2 8 (by omega)).1
    have hs0 : s < zN h := by have := (b2 0 (by omega)).1; omega
    have o5 : o s = 5 := by have := (b2 0 (by omega)).2; rwa [Nat.add_zero] at this
    let g1 := zsR (zA h 21 256) s 8 (some (zN h))
    let g2 := zsR (zA g1 21 256) s 9 (some (zN h + 1))
    have n1 : zN g1 = zN h + 1 := rfl
    let o1 := oA h o 5
    let o2 := oA g1 o1 5
    have os1 : o1 s = 5 := (oA_o hs0).trans o5
    have os2 : o2 s = 5 := (oA_o (show s < zN g1 by rw [n1]; omega)).trans os1
    have m1 : zMv (fun t => t = 5) h o g1 o1 := (zMv.A 5).tr (zMv.sR os1)
    have m2 : zMv (fun t => t = 5) h o g2 o2 := m1.tr ((zMv.A 5).tr (zMv.sR os2))
    have eR : ∀ a b, a < zN h → ¬ (a = s ∧ (b = 8 ∨ b = 9)) → zR g2 a b = zR h a b := fun a b ha hab => by
      show zR (zsR (zA (zsR (zA h 21 256) s 8 (some (zN h))) 21 256) s 9 (some (zN h + 1))) a b = _
      rw [zR_s, if_neg (fun hh => hab ⟨hh.1, Or.inr hh.2⟩), zA_R (show a ≠ zN g1 by rw [n1]; omega), zR_s, if_neg (fun hh => hab ⟨hh.1, Or.inl hh.2⟩), zA_R (by omega)]
    have eI : ∀ a b, a < zN h → zI g2 a b = zI h a b := fun a b ha => by
      show zI (zA (zA h 21 256) 21 256) a b = _
      rw [zA_I (show a ≠ zN (zA h 21 256) by rw [zA_N]; omega), zA_I (by omega)]
    have eJ : ∀ a b, a < zN h → zJ g2 a b = zJ h a b := fun a b ha => by
      show zJ (zA (zA h 21 256) 21 256) a b = _
      rw [zA_J (show a ≠ zN (zA h 21 256) by rw [zA_N]; omega), zA_J (by omega)]
    have eL : ∀ a, a < zN h → zL g2 a = zL h a := fun a ha => by
      show zL (zA (zA h 21 256) 21 256) a = _
      rw [zA_L (show a ≠ zN (zA h 21 256) by rw [zA_N]; omega), zA_L (by omega)]
    have oo : ∀ a, a < zN h → o2 a = o a := fun a ha => (oA_o (show a < zN g1 by rw [n1]; omega)).trans (oA_o ha)
    have ou : o2 (zN h) = 5 := (oA_o (show zN h < zN g1 by rw [n1]; omega)).trans oA_n
    have ov : o2 (zN h + 1) = 5 := oA_n (h := g1)
    have r8 : zR g2 s 8 = some (zN h) := by
      show zR (zsR (zA (zsR (zA h 21 256) s 8 (some (zN h))) 21 256) s 9 (some (zN h + 1))) s 8 = _
      rw [zR_s, if_neg (fun hh => absurd hh.2 (by decide)), zA_R (show s ≠ zN g1 by rw [n1]; omega), zR_s, if_pos ⟨rfl, rfl⟩]
    have r9 : zR g2 s 9 = some (zN h + 1) := by
      show zR (zsR (zA (zsR (zA h 21 256) s 8 (some (zN h))) 21 256) s 9 (some (zN h + 1))) s 9 = _
      rw [zR_s, if_pos ⟨rfl, rfl⟩]
    have lu : zL g2 (zN h) = 256 := by
      show zL (zA (zA h 21 256) 21 256) (zN h) = _
      rw [zA_L (show zN h ≠ zN (zA h 21 256) by rw [zA_N]; omega), zA_Ln]
    have lv : zL g2 (zN h + 1) = 256 := zA_Ln (zA h 21 256) 21 256
    have hcn : c < zN h := b6.1.1
    have seo : zR g2 s 8 = some (zN h) ∧ zR g2 s 9 = some (zN h + 1) ∧ (zN h < zN g2 ∧ o2 (zN h) = 5) ∧ (zN h + 1 < zN g2 ∧ o2 (zN h + 1) = 5) ∧ (s + 8 < zN h ∧ zN h < zN h + 1) ∧ zL g2 (zN h) = 256 ∧ zL g2 (zN h + 1) = 256 := ⟨r8, r9, ⟨show zN h < zN h + 2 by omega, ou⟩, ⟨show zN h + 1 < zN h + 2 by omega, ov⟩, ⟨by omega, by omega⟩, lu, lv⟩
    have bb : seB g2 o2 s c ch := by
      refine ⟨(eR 0 6 (by have := p.1.2.2.2.1; omega) (by omega)).trans b1, fun a ha => ⟨show s + a < zN h + 2 by have := (b2 a ha).1; omega, (oo _ (b2 a ha).1).trans (b2 a ha).2⟩, fun a ha => ?_, Or.inr ⟨_, _, seo⟩, (eR s 10 hs0 (by omega)).trans b5, ⟨⟨show c < zN h + 2 by omega, (oo _ hcn).trans b6.1.2⟩, chAt_I (fun k => eI c k hcn) b6.2⟩, b7⟩
      rw [eR s a hs0 (by omega), eL _ (by have := (b2 (a + 1) (by omega)).1; omega)]
      exact b3 a ha
    have kk : seK QTc QR ch m g (aI g2 s) (aJ g2 s) := seK_scr2 hq k (fun b => eI s b hs0) (fun b => eI _ b (b2 1 (by omega)).1) (fun b => eJ _ b (b2 3 (by omega)).1) (fun b => eJ _ b (b2 4 (by omega)).1) (fun b => eJ _ b (b2 6 (by omega)).1)
    refine ⟨g2, o2, zN h, zN h + 1, ?_, stX_sec2 p m2 bb kk, bb, kk, seo, Nat.le_refl _, Nat.le_refl _⟩
    rw [q1, zcs_n]
    unfold gX5_powerSumOfAll_J7
    rw [k256, x256, zg_1, zlt_, zlt_, zlt_, zg_1, zlt_, zlt_, zlt_]
    rfl
  · rw [q1, zcs_s, zlt_, q2, zcs_s]
    exact ⟨h, o, u, v, rfl, p, b', k, ⟨q1, q2, q3⟩, by omega, by omega⟩
theorem powAll_ok (hq : qrOk QR) (p : stX (seC QTc QR) h o L n w S fa tr) (b : seB h o s c ch) (k : seK QTc QR ch m g (aI h s) (aJ h s)) {a : Nat} (ha1 : 1 ≤ a) (ha4 : a ≤ 4) : ∃ h' o', gX5_powerSumOfAll h s (nI a) = some (sF (fun f => vK ch.1 ch.2.1 ch.2.2.1 ch.2.2.2 f a f) (mlL ch.1 m), h') ∧ stX (seC QTc QR) h' o' L n w S fa tr ∧ zN h' ≤ zN h + 2 ∧ zS h' ≤ zS h + 512 := by
  obtain ⟨h1, o1, u, v, t1, p1, b1, k1, ⟨r8, r9, ⟨u1, u2⟩, ⟨v1, v2⟩, ⟨uv1, uv2⟩, lu, lv⟩, bN, bS⟩ := onceRows_ok hq p b k (nI a)
  have h0 := fix_pos p1 b1.2.1
  have hoff := b1.off
  obtain ⟨c1, c2, c3, c4, c5, c6, c7⟩ := b1.2.2.2.2.2.2
  have h11 : zI h1 s 11 = nI m := by have := k1.2.2.1.1; rwa [aI_i _ _ _ _ (by omega), Nat.add_zero] at this
  have rc := b1.2.2.2.2.1
  have hg := gatherM_ok b1.2.2.1 rc (by omega) b1.2.2.2.2.2.1.2 c2 h11 k1.1 (gX5_powerSumOfAll_J3 s (nI a))
  obtain ⟨⟨a1, a2, a3, a4⟩, a5, a6⟩ := mbH_ok m s h1 (2 ^ ch.1)
  generalize mbH m s h1 (2 ^ ch.1) = G at *
  have hmm : ∀ i, i < (mlL ch.1 m).length → zI G (s + 2) i = nI ((mlL ch.1 m).getD i 0) := fun i hi => a6 i _ (by
    show (mlL ch.1 m)[i]? = some _
    rw [List.getD_eq_getElem?_getD, List.getElem?_eq_getElem hi]; rfl)
  obtain ⟨A', B', hs⟩ := sumAll_ok (h := G) (s := s) (c := c) (p := u) (q := v) (r := ch.2.1) (e := ch.2.2.1) (d := ch.2.2.2) (m := m) (by omega) ((a3 _ _).trans r8) ((a3 _ _).trans r9) ((a2 _).2.trans lu) ((a2 _).2.trans lv) ((a3 _ _).trans (b1.2.2.1 1 (by omega)).1) ((a2 _).2.trans (b1.2.2.1 1 (by omega)).2) hmm k1.1 ((a3 _ _).trans rc) (chAt_I (fun k => a5 c k (by omega)) b1.2.2.2.2.2.1.2) c1 c2 c3 c4 c5 c6 c7 ha1 ha4 (mlL ch.1 m).length 0 (zJ G u) (zJ G v) zFU (by omega) (by have := ml_70 (m := m) c2 k1.1; unfold zFU; omega)
  rw [w2_self] at hs
  have o52 : o1 (s + 2) = 5 := (b1.2.1 2 (by omega)).2
  have fI : ∀ x y, x ≠ s + 2 → zI (w2 G u v A' B') x y = zI h1 x y := fun x y hx => a5 x y hx
  have fJ : ∀ x y, x ≠ u → x ≠ v → zJ (w2 G u v A' B') x y = zJ h1 x y := fun x y hu hv => by
    unfold w2
    rw [wRJ_n _ _ _ _ _ hv, wRJ_n _ _ _ _ _ hu]; exact a4 x y
  have fR : ∀ x y, zR (w2 G u v A' B') x y = zR h1 x y := fun x y => a3 x y
  have fL : ∀ x, zL (w2 G u v A' B') x = zL h1 x := fun x => (a2 x).2
  have fN : zN (w2 G u v A' B') = zN h1 := a1.1
  have mm : zMv (fun t => t = 5) h1 o1 (w2 G u v A' B') o1 := ⟨by rw [fN]; exact Nat.le_refl _, fun _ _ => rfl, fun x hx ht => ⟨(a2 x).1, fL x, fun y => fI x y (fun hh => ht (by rw [hh]; exact o52)), fun y => fJ x y (fun hh => ht (by rw [hh]; exact u2)) (fun hh => ht (by rw [hh]; exact v2)), fun y => fR x y⟩⟩
  have bb : seB (w2 G u v A' B') o1 s c ch := ⟨(fR _ _).trans b1.1, fun x hx => ⟨by rw [fN]; exact (b1.2.1 x hx).1, (b1.2.1 x hx).2⟩, fun x hx => ⟨(fR _ _).trans (b1.2.2.1 x hx).1, (fL _).trans (b1.2.2.1 x hx).2⟩, Or.inr ⟨u, v, (fR _ _).trans r8, (fR _ _).trans r9, ⟨by rw [fN]; exact u1, u2⟩, ⟨by rw [fN]; exact v1, v2⟩, ⟨uv1, uv2⟩, (fL _).trans lu, (fL _).trans lv⟩, (fR _ _).trans rc, ⟨⟨by rw [fN]; exact b1.2.2.2.2.2.1.1.1, b1.2.2.2.2.2.1.1.2⟩, chAt_I (fun k => fI c k (by omega)) b1.2.2.2.2.2.1.2⟩, b1.2.2.2.2.2.2⟩
  have kk : seK QTc QR ch m g (aI (w2 G u v A' B') s) (aJ (w2 G u v A' B') s) := seK_scr2 hq k1 (fun y => fI s y (by omega)) (fun y => fI _ y (by omega)) (fun y => fJ _ y (by omega) (by omega)) (fun y => fJ _ y (by omega) (by omega)) (fun y => fJ _ y (by omega) (by omega))
  refine ⟨w2 G u v A' B', o1, ?_, stX_sec2 p1 mm bb kk, by rw [fN]; exact bN, Nat.le_trans (Nat.le_of_eq (show zS (w2 G u v A' B') = zS h1 from a1.2)) bS⟩
  rw [t1]
  unfold gX5_powerSumOfAll_J6
  rw [zjn_, hg]
  unfold gX5_powerSumOfAll_J3
  exact hs
end Ops
