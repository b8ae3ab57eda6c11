/-! the tables of all sectors, in codes: one table of hops, one of bends, and every swap and bent -/
noncomputable def axN (N f t P : Nat) : Nat := Nat.rec (motive := fun _ => Nat) 0 (fun p ih => Nat.add ih (syc (Nat.beq (Nat.mod (Nat.div f (Nat.pow 2 p)) 2) (Nat.mod (Nat.div f (Nat.pow 2 (Nat.mod (Nat.succ p) N))) 2)) 0 (syc (Nat.beq f t) 0 (syc (Nat.beq (Nat.xor (Nat.xor f (Nat.pow 2 p)) (Nat.pow 2 (Nat.mod (Nat.succ p) N))) t) 1 0)))) P
noncomputable def ayN (N f P : Nat) : Nat := Nat.rec (motive := fun _ => Nat) 0 (fun p ih => Nat.add ih (syc (Nat.beq (Nat.mod (Nat.div f (Nat.pow 2 p)) 2) (Nat.mod (Nat.div f (Nat.pow 2 (Nat.mod (Nat.succ p) N))) 2)) 1 18446744073709551615)) P
noncomputable def ayC (N f t P : Nat) : Nat := syc (Nat.beq f t) (ayN N f P) 0
noncomputable def sgM (g k : Nat) : Nat := syc (Nat.beq g 0) 1 (syc (Nat.beq (Nat.mod k 2) 0) 1 18446744073709551615)
theorem jN_m1 : jN 18446744073709551615 = -1 := by decide
theorem beq_f {a b : Nat} (h : ¬ a = b) : Nat.beq a b = false := Bool.not_eq_true _ ▸ fun hh => h (Nat.eq_of_beq_eq_true hh)
theorem i64_add {a b : Int32} (ha : a.toInt.natAbs ≤ 1000) (hb : b.toInt.natAbs ≤ 1000) : (a + b).toInt64 = a.toInt64 + b.toInt64 ∧ (a + b).toInt.natAbs ≤ a.toInt.natAbs + b.toInt.natAbs := by
  have h1 : (a + b).toInt = a.toInt + b.toInt := by
    rw [Int32.toInt_add]
    exact Int.bmod_eq_of_le (by omega) (by omega)
  refine ⟨Int64.toInt_inj.mp ?_, by rw [h1]; omega⟩
  rw [Int32.toInt_toInt64, Int64.toInt_add, Int32.toInt_toInt64, Int32.toInt_toInt64, h1]
  exact (Int.bmod_eq_of_le (by omega) (by omega)).symm
theorem i64_neg {a : Int32} (ha : a.toInt.natAbs ≤ 1000) : (-a).toInt64 = -a.toInt64 ∧ (-a).toInt.natAbs = a.toInt.natAbs := by
  have h1 : (-a).toInt = -a.toInt := by
    rw [Int32.toInt_neg]
    exact Int.bmod_eq_of_le (by omega) (by omega)
  refine ⟨Int64.toInt_inj.mp ?_, by rw [h1]; omega⟩
  rw [Int32.toInt_toInt64, Int64.toInt_neg, Int32.toInt_toInt64, h1]
  exact (Int.bmod_eq_of_le (by omega) (by omega)).symm
theorem aSum_c {N : Nat} {e d : Int32} (he1 : 1 ≤ e.toInt) (he2 : e.toInt ≤ 4) (hd1 : -2 ≤ d.toInt) (hd2 : d.toInt ≤ 2) (f t : Nat) : ∀ P, P ≤ 8 → (aSum N e d f t P).toInt64 = e.toInt64 * jN (axN N f t P) + d.toInt64 * jN (ayC N f t P) ∧ (aSum N e d f t P).toInt.natAbs ≤ 4 * P
  | 0, _ => by
    have h0 : ayC N f t 0 = 0 := by
      unfold ayC
      cases Nat.beq f t <;> rfl
    rw [h0]
    refine ⟨?_, Nat.le_refl _⟩
    show (0 : Int32).toInt64 = e.toInt64 * 0 + d.toInt64 * 0
    have : (0 : Int32).toInt64 = 0 := rfl
    rw [this]; grind
  | P + 1, hP => by
    obtain ⟨i1, i2⟩ := aSum_c he1 he2 hd1 hd2 f t P (by omega)
    have hs : (aStep N e d f t P).toInt.natAbs ≤ 4 ∧ (aStep N e d f t P).toInt64 + (e.toInt64 * jN (axN N f t P) + d.toInt64 * jN (ayC N f t P)) = e.toInt64 * jN (axN N f t (P + 1)) + d.toInt64 * jN (ayC N f t (P + 1)) := by
      have ex : axN N f t (P + 1) = axN N f t P + (syc (Nat.beq (f / 2 ^ P % 2) (f / 2 ^ ((P + 1) % N) % 2)) 0 (syc (Nat.beq f t) 0 (syc (Nat.beq ((f ^^^ 2 ^ P) ^^^ 2 ^ ((P + 1) % N)) t) 1 0))) := rfl
      have ey : ayC N f t (P + 1) = syc (Nat.beq f t) (ayN N f P + (syc (Nat.beq (f / 2 ^ P % 2) (f / 2 ^ ((P + 1) % N) % 2)) 1 18446744073709551615)) 0 := rfl
      have ey0 : ayC N f t P = syc (Nat.beq f t) (ayN N f P) 0 := rfl
      have z32 : (0 : Int32).toInt64 = 0 := rfl
      rw [ex, ey, ey0]
      unfold aStep
      by_cases h1 : f / 2 ^ P % 2 = f / 2 ^ ((P + 1) % N) % 2
      · rw [if_pos h1, h1, Nat.beq_refl]
        by_cases h2 : f = t
        · rw [if_pos h2, h2, Nat.beq_refl]
          refine ⟨by omega, ?_⟩
          show d.toInt64 + (_ + d.toInt64 * jN (ayN N t P)) = e.toInt64 * jN (_ + 0) + d.toInt64 * jN (ayN N t P + 1)
          rw [jN_s, Nat.add_zero]; grind
        · rw [if_neg h2, beq_f h2]
          refine ⟨by decide, ?_⟩
          rw [z32]
          show 0 + (_ + d.toInt64 * jN 0) = e.toInt64 * jN (_ + 0) + d.toInt64 * jN 0
          rw [Nat.add_zero]; grind
      · rw [if_neg h1, beq_f h1]
        by_cases h2 : f = t
        · rw [if_pos h2, h2, Nat.beq_refl]
          obtain ⟨n1, n2⟩ := i64_neg (a := d) (by omega)
          refine ⟨by omega, ?_⟩
          rw [n1]
          show -d.toInt64 + (_ + d.toInt64 * jN (ayN N t P)) = e.toInt64 * jN (_ + 0) + d.toInt64 * jN (ayN N t P + 18446744073709551615)
          rw [Nat.add_zero, jN_add, jN_m1]; grind
        · rw [if_neg h2, beq_f h2]
          by_cases h3 : (f ^^^ 2 ^ P) ^^^ 2 ^ ((P + 1) % N) = t
          · rw [if_pos h3, h3, Nat.beq_refl]
            refine ⟨by omega, ?_⟩
            show e.toInt64 + (_ + d.toInt64 * jN 0) = e.toInt64 * jN (_ + 1) + d.toInt64 * jN 0
            rw [jN_s]; grind
          · rw [if_neg h3, beq_f h3]
            refine ⟨by decide, ?_⟩
            rw [z32]
            show 0 + (_ + d.toInt64 * jN 0) = e.toInt64 * jN (_ + 0) + d.toInt64 * jN 0
            rw [Nat.add_zero]; grind
    obtain ⟨a1, a2⟩ := i64_add (a := aSum N e d f t P) (b := aStep N e d f t P) (Nat.le_trans i2 (by omega)) (Nat.le_trans hs.1 (by omega))
    refine ⟨?_, ?_⟩
    · show (aSum N e d f t P + aStep N e d f t P).toInt64 = _
      rw [a1, i1, ← hs.2]; grind
    · have h1 := hs.1
      exact Nat.le_trans a2 (by omega)
theorem sg_c {a : Int32} (ha : a.toInt.natAbs ≤ 1000) {g : Nat} (hg : g ≤ 1) (k : Nat) : (nI (sgC g k) * a).toInt64 = a.toInt64 * jN (sgM g k) := by
  have h1 : (nI 1 * a).toInt64 = a.toInt64 * jN 1 := by
    rw [show nI 1 * a = a by show (1 : Int32) * a = a; grind, show jN 1 = 1 from rfl]; grind
  have h2 : (nI 4294967295 * a).toInt64 = a.toInt64 * jN 18446744073709551615 := by
    rw [show nI 4294967295 * a = -a by rw [show nI 4294967295 = (-1 : Int32) by decide]; grind, (i64_neg ha).1, jN_m1]; grind
  rcases (show g = 0 ∨ g = 1 by omega) with rfl | rfl
  · exact h1
  · by_cases hk : k % 2 = 0
    · have e1 : sgC 1 k = 1 := by unfold sgC; rw [if_neg (by decide), if_pos hk]
      have e2 : sgM 1 k = 1 := by
        show syc (Nat.beq (k % 2) 0) 1 18446744073709551615 = 1
        rw [hk]; rfl
      rw [e1, e2]; exact h1
    · have e1 : sgC 1 k = 4294967295 := by unfold sgC; rw [if_neg (by decide), if_neg hk]
      have e2 : sgM 1 k = 18446744073709551615 := by
        show syc (Nat.beq (k % 2) 0) 1 18446744073709551615 = 18446744073709551615
        rw [beq_f hk]; rfl
      rw [e1, e2]; exact h2
noncomputable def xyM (w : Nat → Nat → Nat) (hs : List Nat) (os : List (List Nat)) (g : Nat) : List (List Nat) := hs.map (fun t => os.map (fun o => dotM (o.map (fun f => w f t)) ((List.range 8).map (sgM g))))
noncomputable def edM (n e d : Nat) (X Y : List (List Nat)) : List (List Nat) := (List.range n).map (fun i => (List.range n).map (fun j => Nat.mod (Nat.add (Nat.mul e ((X.getD i []).getD j 0)) (Nat.mul d ((Y.getD i []).getD j 0))) 18446744073709551616))
noncomputable def scK (N r m g : Nat) : Bool := fcL (hdL N r m g) (fun hs => syf hs.length (fun n => syc (Nat.ble n 10) (fcM (hs.map (fun h => orL N r (olN N r h) h)) (fun os => fcM (xyM (fun f t => axN N f t (chP N r)) hs os g) (fun X => fcM (xyM (fun f t => ayC N f t (chP N r)) hs os g) (fun Y => fcM (unC n) (fun U => [1, 2, 3, 4].all (fun e => [0, 1, 2, 18446744073709551614, 18446744073709551615].all (fun d => chT2 n (edM n e d X Y) U))))))) true))
theorem xyM_ok {N r m g : Nat} {w : Nat → Nat → Nat} {i j : Nat} (hi : i < (hdL N r m g).length) (hj : j < (hdL N r m g).length) : jN (((xyM w (hdL N r m g) ((hdL N r m g).map (fun h => orL N r (olN N r h) h)) g).getD i []).getD j 0) = sF (fun k => jN (w (tuP N r (hdA N r m g j) k) (hdA N r m g i)) * jN (sgM g k)) (List.range (olN N r (hdA N r m g j))) := by
  unfold xyM
  rw [getD_map _ _ i 0 [] hi, getD_map _ _ j [] 0 (by rw [List.length_map]; exact hj), getD_map _ _ j 0 [] hj, orL_eq, List.map_map]
  have h1 := dotM_ok (as := (List.range (olN N r ((hdL N r m g).getD j 0))).map ((fun f => w f ((hdL N r m g).getD i 0)) ∘ tuP N r ((hdL N r m g).getD j 0))) (rd_range (fun k _ => rfl)) (rd_range (n := 8) (F := sgM g) (fun k _ => rfl))
  rw [Nat.min_eq_left (olN_le N r _)] at h1
  exact h1
theorem sec_tab {N r m g : Nat} {e d : Int32} (hN : N ≤ 8) (hg : g ≤ 1) (he1 : 1 ≤ e.toInt) (he2 : e.toInt ≤ 4) (hd1 : -2 ≤ d.toInt) (hd2 : d.toInt ≤ 2) (hn : (hdL N r m g).length ≤ 10) (h : scK N r m g = true) : tabOk (tbV N r e d m g) (hdL N r m g).length := by
  unfold scK at h
  rw [fcL_eq, syf_eq, Nat.ble_eq_true_of_le hn] at h
  have h' : fcM ((hdL N r m g).map (fun h => orL N r (olN N r h) h)) (fun os => fcM (xyM (fun f t => axN N f t (chP N r)) (hdL N r m g) os g) (fun X => fcM (xyM (fun f t => ayC N f t (chP N r)) (hdL N r m g) os g) (fun Y => fcM (unC (hdL N r m g).length) (fun U => [1, 2, 3, 4].all (fun e => [0, 1, 2, 18446744073709551614, 18446744073709551615].all (fun d => chT2 (hdL N r m g).length (edM (hdL N r m g).length e d X Y) U)))))) = true := h
  rw [fcM_eq, fcM_eq, fcM_eq, fcM_eq] at h'
  have he : ∃ e', e' ∈ [1, 2, 3, 4] ∧ e.toInt64 = jN e' := by
    have h0 : ∀ z : Nat, z ≤ 4 → e.toInt = z → e.toInt64 = jN z := fun z hz hh => Int64.toInt_inj.mp (by
      rw [Int32.toInt_toInt64, hh, jN_int]
      exact (Int.bmod_eq_of_le (by omega) (by omega)).symm)
    rcases (show e.toInt = 1 ∨ e.toInt = 2 ∨ e.toInt = 3 ∨ e.toInt = 4 by omega) with q | q | q | q
    · exact ⟨1, by decide, h0 1 (by decide) q⟩
    · exact ⟨2, by decide, h0 2 (by decide) q⟩
    · exact ⟨3, by decide, h0 3 (by decide) q⟩
    · exact ⟨4, by decide, h0 4 (by decide) q⟩
  have hd : ∃ d', d' ∈ [0, 1, 2, 18446744073709551614, 18446744073709551615] ∧ d.toInt64 = jN d' := by
    have h0 : ∀ (z : Int) (c : Nat), (jN c).toInt = z → d.toInt = z → d.toInt64 = jN c := fun z c hc hh => Int64.toInt_inj.mp (by
      rw [Int32.toInt_toInt64, hh, hc])
    rcases (show d.toInt = 0 ∨ d.toInt = 1 ∨ d.toInt = 2 ∨ d.toInt = -2 ∨ d.toInt = -1 by omega) with q | q | q | q | q
    · exact ⟨0, by decide, h0 _ 0 (by decide) q⟩
    · exact ⟨1, by decide, h0 _ 1 (by decide) q⟩
    · exact ⟨2, by decide, h0 _ 2 (by decide) q⟩
    · exact ⟨18446744073709551614, by decide, h0 _ 18446744073709551614 (by decide) q⟩
    · exact ⟨18446744073709551615, by decide, h0 _ 18446744073709551615 (by decide) q⟩
  obtain ⟨e', e1, e2⟩ := he
  obtain ⟨d', d1, d2⟩ := hd
  have h2 := List.all_eq_true.mp (List.all_eq_true.mp h' e' e1) d' d1
  refine chT2_ok hn ?_ h2
  refine rdM_range (fun i hi => rd_range (fun j hj => ?_))
  rw [jN_mod]
  show jN (e' * _ + d' * _) = _
  rw [jN_add, jN_mul, jN_mul, xyM_ok hi hj, xyM_ok hi hj, ← e2, ← d2, sF_mul, sF_mul, ← sF_add]
  unfold tbV
  refine sF_cg _ (fun k _ => ?_)
  have hP : chP N r ≤ 8 := by unfold chP; split <;> omega
  obtain ⟨a1, a2⟩ := aSum_c (N := N) he1 he2 hd1 hd2 (tuP N r (hdA N r m g j) k) (hdA N r m g i) (chP N r) hP
  unfold tbT
  rw [sg_c (by omega) hg, a1]
  grind
