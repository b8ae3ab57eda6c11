/-! one check for a table: its polynomial, its powers, how large its shifts grow -/
def pwM (T : Nat → Nat → Int64) (n : Nat) : Nat → Nat → Nat → Int64
  | 0, i, j => unM i j
  | k + 1, i, j => sF (fun l => T i l * pwM T n k l j) (List.range n)
def pwT (T : Nat → Nat → Int64) (n k : Nat) : Int64 := sF (fun i => pwM T n k i i) (List.range n)
def nwOk (T : Nat → Nat → Int64) (n : Nat) (c : Nat → Int64) : Prop := ∀ k, k < 4 → pwT T n (k + 1) = -(jN (k + 1) * c (k + 1) + sF (fun j => c (j + 1) * pwT T n (k - j)) (List.range k))
noncomputable def pwK (T : List (List Nat)) (cs : List Nat) (f : Nat) : Nat → List (List Nat) → List Nat → Bool := Nat.rec (motive := fun _ => Nat → List (List Nat) → List Nat → Bool) (fun _ _ _ => true) (fun _ ih k C rv => mmK T C (fun C' => syf (trC C' 0 0) (fun t => syc (Nat.beq (Nat.mod (Nat.add t (Nat.add (Nat.mul (Nat.succ k) (cs.getD k 0)) (dotM cs rv))) 18446744073709551616) 0) (ih (Nat.succ k) C' (t :: rv)) false))) f
theorem pwK_ok {L : List (List Nat)} {n m : Nat} {T : Nat → Nat → Int64} (hL : rdM L n n T) {c : Nat → Int64} {cs : List Nat} (hc : rd cs m (fun i => c (i + 1))) : ∀ (f k : Nat) (C : List (List Nat)) (rv : List Nat), k + f ≤ m → rdM C n n (fun j i => pwM T n k i j) → rd rv k (fun j => pwT T n (k - j)) → pwK L cs f k C rv = true → ∀ k', k ≤ k' → k' < k + f → pwT T n (k' + 1) = -(jN (k' + 1) * c (k' + 1) + sF (fun j => c (j + 1) * pwT T n (k' - j)) (List.range k'))
  | 0, k, C, rv, _, _, _, _, k', h1, h2 => by omega
  | f + 1, k, C, rv, hm, hC, hrv, h, k', h1, h2 => by
    have h' : mmK L C (fun C' => syf (trC C' 0 0) (fun t => syc (Nat.beq (Nat.mod (Nat.add t (Nat.add (Nat.mul (Nat.succ k) (cs.getD k 0)) (dotM cs rv))) 18446744073709551616) 0) (pwK L cs f (Nat.succ k) C' (t :: rv)) false)) = true := h
    rw [mmK_eq, syf_eq] at h'
    obtain ⟨g1, g2⟩ := syc_f h'
    have hM := mulM_ok hL hC
    have ht : jN (trC (mulM L C) 0 0) = pwT T n (k + 1) := trC_ok hM
    have e := congrArg jN (Nat.eq_of_beq_eq_true g1)
    rw [jN_mod] at e
    have e2 : jN (trC (mulM L C) 0 0 + ((k + 1) * cs.getD k 0 + dotM cs rv)) = 0 := e
    rw [jN_add, jN_add, jN_mul, ht, hc.2 k (by omega), dotM_ok hc hrv, show min m k = k by omega] at e2
    by_cases hk : k' = k
    · subst hk
      grind
    · exact pwK_ok hL hc f (k + 1) (mulM L C) (trC (mulM L C) 0 0 :: rv) (by omega) hM (rd_cons.mpr ⟨ht, rd_cg hrv (fun i _ => congrArg (pwT T n) (by omega))⟩) g2 k' (by omega) (by omega)
/-- sums with 50, in naturals: from the top down -/
def scP (p : Nat) (x : Nat → Nat) : Nat → Nat
  | 0 => x 0 + 50 * p
  | m + 1 => x (m + 1) + 50 * scP p x m
def rdN (n : Nat) (x : Nat → Nat) : Nat → Nat → Nat
  | 0, m => x m
  | i + 1, m => if m ≤ n - i then scP 0 (rdN n x i) m else rdN n x i m
def sfOk (n : Nat) (c : Nat → Int64) : Prop := ∃ x : Nat → Nat, (∀ m, m ≤ n → (c m).toInt.natAbs ≤ x m) ∧ ∀ i, i < n → ∀ m, m ≤ n - i → scP 0 (rdN n x i) m ≤ 4611686018427387904
noncomputable def scL (l : List Nat) : Nat → List Nat := List.rec (motive := fun _ => Nat → List Nat) (fun _ => []) (fun a _ ih p => syf (Nat.add a (Nat.mul 50 p)) (fun v => v :: ih v)) l
theorem scP_s (p : Nat) (x : Nat → Nat) : ∀ m, scP (scP p x 0) (fun i => x (i + 1)) m = scP p x (m + 1)
  | 0 => rfl
  | m + 1 => by
    show x (m + 1 + 1) + 50 * scP (scP p x 0) (fun i => x (i + 1)) m = x (m + 1 + 1) + 50 * scP p x (m + 1)
    rw [scP_s p x m]
theorem scL_ok : ∀ (k : Nat) (x : Nat → Nat) (p : Nat), scL ((List.range k).map x) p = (List.range k).map (scP p x)
  | 0, x, p => rfl
  | k + 1, x, p => by
    rw [List.range_succ_eq_map, List.map_cons, List.map_map, List.map_cons, List.map_map]
    show syf (Nat.add (x 0) (Nat.mul 50 p)) (fun v => v :: scL ((List.range k).map (x ∘ Nat.succ)) v) = _
    rw [syf_eq, scL_ok k (x ∘ Nat.succ)]
    refine congrArg (scP p x 0 :: ·) ?_
    refine List.map_congr_left (fun m _ => scP_s p x m)
noncomputable def leB (l : List Nat) : Bool := List.rec (motive := fun _ => Bool) true (fun a _ ih => syc (Nat.ble a 4611686018427387904) ih false) l
theorem leB_ok : ∀ {l : List Nat}, leB l = true → ∀ x ∈ l, x ≤ 4611686018427387904
  | a :: l, h, x, hx => by
    obtain ⟨h1, h2⟩ := syc_f (show syc (Nat.ble a 4611686018427387904) (leB l) false = true from h)
    rcases List.mem_cons.mp hx with rfl | hx
    · exact Nat.le_of_ble_eq_true h1
    · exact leB_ok h2 x hx
noncomputable def shB (f : Nat) : List Nat → Bool := Nat.rec (motive := fun _ => List Nat → Bool) (fun _ => true) (fun _ ih l => fcL (scL l 0) (fun s => syc (leB s) (ih s.dropLast) false)) f
theorem shB_ok {n : Nat} {x : Nat → Nat} : ∀ (f i : Nat) (l : List Nat), i + f = n → l = (List.range (n + 1 - i)).map (rdN n x i) → shB f l = true → ∀ i', i ≤ i' → i' < n → ∀ m, m ≤ n - i' → scP 0 (rdN n x i') m ≤ 4611686018427387904
  | 0, i, l, hi, _, _, i', h1, h2, _, _ => by omega
  | f + 1, i, l, hi, hl, h, i', h1, h2, m, hm => by
    have h' : fcL (scL l 0) (fun s => syc (leB s) (shB f s.dropLast) false) = true := h
    rw [fcL_eq, hl, scL_ok] at h'
    obtain ⟨g1, g2⟩ := syc_f h'
    by_cases hk : i' = i
    · subst hk
      exact leB_ok g1 _ (List.mem_map.mpr ⟨m, List.mem_range.mpr (by omega), rfl⟩)
    · refine shB_ok f (i + 1) _ (by omega) ?_ g2 i' (by omega) h2 m hm
      rw [show n + 1 - i = (n + 1 - (i + 1)) + 1 by omega, List.range_succ, List.map_append, List.map_cons, List.map_nil, List.dropLast_concat]
      refine List.map_congr_left (fun k hk => ?_)
      exact (if_pos (by have := List.mem_range.mp hk; omega)).symm
noncomputable def absC (c : Nat) : Nat := syc (Nat.ble c 9223372036854775807) c (Nat.sub 18446744073709551616 c)
theorem absC_ok {c : Nat} (h : smB c = true) : (jN c).toInt.natAbs ≤ absC c := by
  rw [jN_int]
  unfold smB at h
  unfold absC
  by_cases h1 : c ≤ 9223372036854775807
  · rw [Nat.ble_eq_true_of_le h1, Int.bmod_eq_of_le (by omega) (by omega)]
    show (c : Int).natAbs ≤ c
    omega
  · rw [show Nat.ble c 9223372036854775807 = false from Bool.not_eq_true _ ▸ fun hh => h1 (Nat.le_of_ble_eq_true hh)]
    rw [show Nat.ble c 576460752303423487 = false from Bool.not_eq_true _ ▸ fun hh => h1 (by have := Nat.le_of_ble_eq_true hh; omega)] at h
    have h3 : c ≤ 18446744073709551615 := Nat.le_of_ble_eq_true (syc_f h).2
    show ((c : Int).bmod 18446744073709551616).natAbs ≤ 18446744073709551616 - c
    have : (c : Int).bmod 18446744073709551616 = (c : Int) - 18446744073709551616 := by
      unfold Int.bmod
      simp only []
      split <;> omega
    rw [this]; omega
noncomputable def smA (l : List Nat) : Bool := List.rec (motive := fun _ => Bool) true (fun a _ ih => syc (smB a) ih false) l
theorem smA_ok : ∀ {l : List Nat}, smA l = true → ∀ i, i < l.length → smB (l.getD i 0) = true
  | a :: l, h, i, hi => by
    obtain ⟨h1, h2⟩ := syc_f (show syc (smB a) (smA l) false = true from h)
    cases i with
    | zero => exact h1
    | succ i => exact smA_ok h2 i (Nat.lt_of_succ_lt_succ hi)
noncomputable def chT2 (n : Nat) (L U : List (List Nat)) : Bool := fcM L (fun T => bkI T n (fun p => syc (smA p) (syc (flK T p.tail 0 U) (syc (pwK T (p.tail ++ [0, 0, 0, 0]) 4 0 U []) (fcL (p.map absC) (fun a => shB n a)) false) false) false))
def tabOk (T : Nat → Nat → Int64) (n : Nat) : Prop := flOk T n (bkP T n) ∧ nwOk T n (bkP T n) ∧ sfOk n (bkP T n)
theorem bkP_0 (T : Nat → Nat → Int64) : ∀ n, bkP T n 0 = 1
  | 0 => rfl
  | n + 1 => by
    show (if 0 ≤ n + 1 then sF (fun j => bkS T n (0 - j) * bkP T n j) (List.range (min 0 n + 1)) else 0) = 1
    rw [if_pos (Nat.zero_le _), Nat.zero_min]
    show bkS T n 0 * bkP T n 0 + 0 = 1
    rw [bkP_0 T n]; rfl
theorem rd_tail {l : List Nat} {n : Nat} {f : Nat → Int64} (h : rd l (n + 1) f) : rd l.tail n (fun i => f (i + 1)) := by
  cases l with
  | nil => exact absurd h.1 (by simp)
  | cons a l => exact (rd_cons.mp h).2
theorem rd_pad {l : List Nat} {n : Nat} {f : Nat → Int64} (h : rd l n f) (hf : ∀ i, n ≤ i → f i = 0) : rd (l ++ [0, 0, 0, 0]) (n + 4) f := by
  refine ⟨by rw [List.length_append, h.1]; rfl, fun i hi => ?_⟩
  by_cases h1 : i < n
  · rw [← h.2 i h1, List.getD_eq_getElem?_getD, List.getD_eq_getElem?_getD, List.getElem?_append_left (by rw [h.1]; exact h1)]
  · rw [hf i (by omega), List.getD_eq_getElem?_getD, List.getElem?_append_right (by rw [h.1]; omega), h.1]
    rcases (show i - n = 0 ∨ i - n = 1 ∨ i - n = 2 ∨ i - n = 3 by omega) with e | e | e | e <;> rw [e] <;> rfl
theorem chT2_ok {n : Nat} (hn : n ≤ 10) {L : List (List Nat)} {T : Nat → Nat → Int64} (hL : rdM L n n T) (h : chT2 n L (unC n) = true) : tabOk T n := by
  unfold chT2 at h
  rw [fcM_eq] at h
  obtain ⟨p, h1, h2⟩ := bkI_ok hL n (Nat.le_refl _) (fun p => syc (smA p) (syc (flK L p.tail 0 (unC n)) (syc (pwK L (p.tail ++ [0, 0, 0, 0]) 4 0 (unC n) []) (fcL (p.map absC) (fun a => shB n a)) false) false) false)
  rw [h1] at h
  obtain ⟨g1, h⟩ := syc_f h
  obtain ⟨g2, h⟩ := syc_f h
  obtain ⟨g3, h⟩ := syc_f h
  rw [fcL_eq] at h
  have ht := rd_tail h2
  refine ⟨⟨bkP_0 T n, fun k hk => ?_⟩, fun k hk => ?_, ?_⟩
  · have hlen : p.tail.length = n := ht.1
    have h3 := flK_ok hL (c := bkP T n) p.tail 0 (unC n) (by rw [hlen]; exact rd_cg ht (fun i _ => congrArg (bkP T n) (by omega))) (unC_ok n) g2 k (by rw [hlen]; exact hk)
    rw [Nat.zero_add] at h3
    exact divBack (by omega) h3.2 h3.1
  · exact pwK_ok hL (rd_pad ht (fun i hi => bkP_hi T n (i + 1) (by omega))) 4 0 (unC n) [] (by omega) (unC_ok n) ⟨rfl, fun i hi => by omega⟩ g3 k (by omega) (by omega)
  · have hp : ∀ m, m ≤ n → (bkP T n m).toInt.natAbs ≤ absC (p.getD m 0) := fun m hm => by
      rw [← h2.2 m (by omega)]
      exact absC_ok (smA_ok g1 m (by rw [h2.1]; omega))
    refine ⟨fun m => absC (p.getD m 0), hp, fun i hi m hm => ?_⟩
    refine shB_ok n 0 (p.map absC) (by omega) ?_ h i (by omega) hi m hm
    refine List.ext_getElem (by simp [h2.1]) (fun k h3 h4 => ?_)
    have hk : k < p.length := by simpa using h3
    rw [List.getElem_map, List.getElem_map]
    show absC p[k] = absC (p.getD ((List.range (n + 1 - 0))[k]'(by simpa using h4)) 0)
    rw [List.getElem_range, List.getD_eq_getElem?_getD, List.getElem?_eq_getElem hk]
    rfl
