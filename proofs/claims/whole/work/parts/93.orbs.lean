/-! orbits: as they are, and as the reference lays them -/
abbrev poN (s : Nat) : Nat := syg 4 popK s
noncomputable def olF (N r s : Nat) : Nat → Nat → Nat → Nat
  | 0, _, len => len
  | f + 1, nx, len => syc (Nat.beq nx s) len (syc (Nat.ble s nx) (syf (tuN N r nx) (fun y => olF N r s f y (Nat.succ len))) 0)
/-- how long the orbit of a head is; 0: it is none -/
noncomputable def olN (N r s : Nat) : Nat := syf (tuN N r s) (fun y => olF N r s 7 y 1)
noncomputable def ldN (g l : Nat) : Bool := syc (Nat.beq l 0) false (syc (Nat.beq g 0) true (Nat.beq (Nat.mod l 2) 0))
noncomputable def isH (N r m g s : Nat) : Bool := syc (Nat.beq (poN s) m) (syf (olN N r s) (fun l => ldN g l)) false
noncomputable def hdL (N r m g : Nat) : List Nat := (List.range (2 ^ N)).filter (isH N r m g)
/-- a state turned so often -/
def tuP (N r s : Nat) : Nat → Nat
  | 0 => s
  | t + 1 => tuN N r (tuP N r s t)
/-- the code of a sign -/
def sgC (g t : Nat) : Nat := if g = 0 then 1 else if t % 2 = 0 then 1 else 4294967295
noncomputable def orL (N r : Nat) : Nat → Nat → List Nat
  | 0, _ => []
  | f + 1, x => x :: syf (tuN N r x) (fun y => orL N r f y)
noncomputable def chT (N r g b o : Nat) : Nat → Nat → Nat → Bool
  | 0, _, _ => true
  | f + 1, t, x => syc (Nat.beq (syg 33 b (512 + x)) (Nat.succ o)) (syc (Nat.beq (syg 33 b (768 + x)) (Nat.succ (sgC g t))) (syc (Nat.ble (Nat.pow 2 N) x) false (syf (tuN N r x) (fun y => chT N r g b o f (Nat.succ t) y))) false) false
noncomputable def ndN : List Nat → Bool
  | [] => true
  | x :: l => syc (l.contains x) false (ndN l)
noncomputable def chH (N r g b : Nat) : List Nat → Nat → Bool
  | [], o => Nat.beq (syg 33 b 5) (Nat.succ o)
  | h :: hs, o => syc (Nat.beq (syg 33 b (256 + o)) (Nat.succ h)) (syc (syf (olN N r h) (fun l => syc (chT N r g b o l 0 h) (ndN (orL N r l h)) false)) (chH N r g b hs (Nat.succ o)) false) false
noncomputable def chN (N r b : Nat) (hd : List Nat) : Nat → Bool
  | 0 => true
  | s + 1 => syc (chN N r b hd s) (syf (syg 33 b (512 + s)) (fun c => syc (Nat.beq c 0) false (syc (Nat.ble 2147483649 c) (Nat.ble c 4294967296) (syc (Nat.ble c (hd.length)) (syf (hd.getD (Nat.pred c) 0) (fun h => syf (olN N r h) (fun l => (orL N r l h).contains s))) false)))) false
def lyW : Nat := 2 ^ 5 + (2 ^ 1280 - 2 ^ 256)
def lyE : Se := (pk 20 [0, 257, 257, 257, 257], lyW, 0)
def lyT (N r : Nat) : Sy := (pk 33 [0, N + 1, r + 1], 0, pk 17 [0, 0, 0, 0, 0, 0, 3, 4, 5, 6])
def sgI (g : Nat) : Nat := if g = 0 then 1 else 4294967295
noncomputable def okB (s : Option Sy) (K : Nat → Bool) : Bool := Option.rec (motive := fun _ => Bool) false (fun b => syf b.1 K) s
theorem okB_s {s : Option Sy} {K : Nat → Bool} (h : okB s K = true) : ∃ b, s = some b ∧ K b.1 = true := by
  cases s with
  | none => cases h
  | some b => exact ⟨b, rfl, by rw [← syf_eq b.1 K]; exact h⟩
noncomputable def chK (N r m g b1 : Nat) : Bool := chH N r g b1 (hdL N r m g) 0 && (chN N r b1 (hdL N r m g) (2 ^ N) && Nat.ble (hdL N r m g).length 38)
noncomputable def chO (N r m g : Nat) : Bool := okB (sX12_layOrbits lyE (lyT N r) 0 m (sgI g)) (chK N r m g)
theorem syc_t {b x y : Bool} (h : syc b x y = true) : (b = true ∧ x = true) ∨ (b = false ∧ y = true) := by
  cases b
  · exact Or.inr ⟨rfl, h⟩
  · exact Or.inl ⟨rfl, h⟩
theorem syc_f {b x : Bool} (h : syc b x false = true) : b = true ∧ x = true := by
  rcases syc_t h with h | ⟨-, h⟩
  · exact h
  · cases h
theorem tuP_s (N r s : Nat) : ∀ k, tuP N r (tuN N r s) k = tuP N r s (k + 1)
  | 0 => rfl
  | k + 1 => by
    show tuN N r (tuP N r (tuN N r s) k) = tuN N r (tuP N r s (k + 1))
    rw [tuP_s N r s k]
theorem orL_eq (N r : Nat) : ∀ f x, orL N r f x = (List.range f).map (tuP N r x)
  | 0, _ => rfl
  | f + 1, x => by
    show x :: syf (tuN N r x) (fun y => orL N r f y) = _
    rw [syf_eq, orL_eq N r f, List.range_succ_eq_map, List.map_cons, List.map_map]
    refine congrArg (x :: ·) ?_
    refine List.map_congr_left (fun k _ => ?_)
    exact tuP_s N r x k
theorem chT_ok (N r g b o : Nat) : ∀ f t x, chT N r g b o f t x = true → ∀ k, k < f → syg 33 b (512 + tuP N r x k) = o + 1 ∧ syg 33 b (768 + tuP N r x k) = sgC g (t + k) + 1 ∧ tuP N r x k < 2 ^ N
  | 0, _, _, _, k, hk => absurd hk (Nat.not_lt_zero k)
  | f + 1, t, x, h, k, hk => by
    obtain ⟨h1, h2⟩ := syc_f h
    obtain ⟨h3, h4⟩ := syc_f h2
    rcases syc_t h4 with ⟨-, h5⟩ | ⟨h5, h6⟩
    · cases h5
    · rw [syf_eq] at h6
      cases k with
      | zero =>
        refine ⟨Nat.eq_of_beq_eq_true h1, Nat.eq_of_beq_eq_true h3, ?_⟩
        show x < 2 ^ N
        rcases Nat.lt_or_ge x (2 ^ N) with hh | hh
        · exact hh
        · have h7 : Nat.ble (Nat.pow 2 N) x = true := Nat.ble_eq_true_of_le hh
          rw [h7] at h5; cases h5
      | succ k =>
        have ih := chT_ok N r g b o f (Nat.succ t) (tuN N r x) h6 k (by omega)
        rw [tuP_s] at ih
        rw [show t + (k + 1) = Nat.succ t + k by omega]
        exact ih
theorem ndN_ok : ∀ l : List Nat, ndN l = true → l.Nodup
  | [], _ => List.nodup_nil
  | x :: l, h => by
    rcases syc_t h with ⟨-, h5⟩ | ⟨h5, h6⟩
    · cases h5
    · rw [List.nodup_cons]
      refine ⟨fun hm => ?_, ndN_ok l h6⟩
      have : l.contains x = true := List.contains_iff_mem.mpr hm
      rw [this] at h5; cases h5
theorem chH_ok (N r g b : Nat) : ∀ (hd : List Nat) (o : Nat), chH N r g b hd o = true → syg 33 b 5 = o + hd.length + 1 ∧ ∀ i h, hd[i]? = some h → syg 33 b (256 + (o + i)) = h + 1 ∧ chT N r g b (o + i) (olN N r h) 0 h = true ∧ ((List.range (olN N r h)).map (tuP N r h)).Nodup
  | [], o, h => ⟨Nat.eq_of_beq_eq_true h, fun i h hh => by simp at hh⟩
  | x :: hd, o, h => by
    obtain ⟨h1, h2⟩ := syc_f h
    obtain ⟨h3, h4⟩ := syc_f h2
    rw [syf_eq] at h3
    obtain ⟨h5, h6⟩ := syc_f h3
    have h6 := ndN_ok _ h6
    rw [orL_eq] at h6
    obtain ⟨i1, i2⟩ := chH_ok N r g b hd (Nat.succ o) h4
    refine ⟨by rw [i1, List.length_cons]; omega, fun i h hh => ?_⟩
    cases i with
    | zero =>
      have : x = h := by simpa using hh
      subst this
      exact ⟨Nat.eq_of_beq_eq_true h1, h5, h6⟩
    | succ i =>
      have := i2 i h (by simpa using hh)
      rw [show o + (i + 1) = Nat.succ o + i by omega]
      exact this
theorem chN_ok (N r b : Nat) (hd : List Nat) : ∀ n, chN N r b hd n = true → ∀ s, s < n → ∃ c, syg 33 b (512 + s) = c + 1 ∧ ((2147483648 ≤ c ∧ c < 4294967296) ∨ (c < hd.length ∧ ∃ k, k < olN N r (hd.getD c 0) ∧ s = tuP N r (hd.getD c 0) k))
  | 0, _, s, hs => absurd hs (Nat.not_lt_zero s)
  | n + 1, h, s, hs => by
    obtain ⟨h1, h2⟩ := syc_f h
    by_cases e : s = n
    · subst e
      rw [syf_eq] at h2
      rcases syc_t h2 with ⟨-, h3⟩ | ⟨h3, h4⟩
      · cases h3
      · obtain ⟨c, hc⟩ : ∃ c, syg 33 b (512 + s) = c + 1 := by
          cases hh : syg 33 b (512 + s) with
          | zero => rw [hh] at h3; cases h3
          | succ c => exact ⟨c, rfl⟩
        refine ⟨c, hc, ?_⟩
        rw [hc] at h4
        rcases syc_t h4 with ⟨h5, h6⟩ | ⟨-, h6⟩
        · exact Or.inl ⟨by have := Nat.le_of_ble_eq_true h5; omega, by have := Nat.le_of_ble_eq_true h6; omega⟩
        · obtain ⟨h7, h8⟩ := syc_f h6
          rw [syf_eq, syf_eq] at h8
          have h9 : s ∈ orL N r (olN N r (hd.getD c 0)) (hd.getD c 0) := List.contains_iff_mem.mp h8
          rw [orL_eq, List.mem_map] at h9
          obtain ⟨k, k1, k2⟩ := h9
          exact Or.inr ⟨Nat.le_of_ble_eq_true h7, k, List.mem_range.mp k1, k2.symm⟩
    · exact chN_ok N r b hd n h1 s (by omega)
theorem pkl_lt (W : Nat) (l : List Nat) (p : Nat) (h : ∀ c ∈ l, c < 2 ^ W) {v : Nat} (hv : syg W (pk W l) p = v + 1) : p < l.length ∧ l.getD p 0 = v + 1 := by
  rw [syg_pk W l p h] at hv
  refine ⟨?_, hv⟩
  rcases Nat.lt_or_ge p l.length with h1 | h1
  · exact h1
  · rw [List.getD_eq_getElem?_getD, List.getElem?_eq_none h1] at hv; cases hv
theorem lyT_ok (I : Nat → Nat → Int32) (J : Nat → Nat → Int64) {N r : Nat} {e d : Int32} (hc : mcAt (mH I J) N r e d) (hN : N ≤ 8) (hr : r ≤ 1) : syR (fun a => a) lyE (mH I J) (lyT N r) (mH I J) := by
  obtain ⟨c1, c2, -, -⟩ := hc
  have hz : ∀ W p, syg W 0 p = 0 := fun W p => by show (0 >>> (W * p)) % 2 ^ W = 0; simp [Nat.shiftRight_eq_div_pow]
  refine ⟨fun a v hv => ?_, fun a k v hk hv => ?_, fun a k v hk hv => ?_, fun a k v hk hv => ?_, fun b k => Or.inl rfl, fun b k => Or.inl rfl, fun b k => Or.inl rfl, rfl, rfl, rfl⟩
  · obtain ⟨h1, h2⟩ := pkl_lt 20 [0, 257, 257, 257, 257] a (by decide) hv
    have h1 : a < 5 := h1
    rcases (show a = 0 ∨ a = 1 ∨ a = 2 ∨ a = 3 ∨ a = 4 by omega) with rfl | rfl | rfl | rfl | rfl
    · cases h2
    · cases h2; exact mL_1 I J
    · cases h2; exact mL_2 I J
    · cases h2; exact mL_3 I J
    · cases h2; exact mL_4 I J
  · obtain ⟨h1, h2⟩ := pkl_lt 33 [0, N + 1, r + 1] (a * 256 + k) (by intro c hc; simp at hc; omega) hv
    have h1 : a * 256 + k < 3 := h1
    have ha0 : a = 0 := by omega
    subst ha0
    rw [Nat.zero_mul, Nat.zero_add] at h2 h1
    rcases (show k = 0 ∨ k = 1 ∨ k = 2 by omega) with rfl | rfl | rfl
    · cases h2
    · have : v = N := by simp at h2; omega
      rw [this]; exact c1
    · have : v = r := by simp at h2; omega
      rw [this]; exact c2
  · change syg 65 0 _ = _ at hv
    rw [hz] at hv; omega
  · obtain ⟨h1, h2⟩ := pkl_lt 17 [0, 0, 0, 0, 0, 0, 3, 4, 5, 6] (a * 64 + k) (by decide) hv
    have h1 : a * 64 + k < 10 := h1
    have ha0 : a = 0 := by omega
    subst ha0
    rw [Nat.zero_mul, Nat.zero_add] at h2 h1
    rcases (show k = 0 ∨ k = 1 ∨ k = 2 ∨ k = 3 ∨ k = 4 ∨ k = 5 ∨ k = 6 ∨ k = 7 ∨ k = 8 ∨ k = 9 by omega) with rfl | rfl | rfl | rfl | rfl | rfl | rfl | rfl | rfl | rfl
    · cases h2
    · cases h2
    · cases h2
    · cases h2
    · cases h2
    · cases h2
    · cases h2; exact mR_6 I J
    · cases h2; exact mR_7 I J
    · cases h2; exact mR_8 I J
    · cases h2; exact mR_9 I J
theorem orbs_2 : (List.range 6).all (fun N => Nat.ble N 1 || (List.range 2).all (fun r => (List.range (N + 1)).all (fun m => chO N r m 0 && chO N r m 1))) = true := by decide +kernel
theorem orbs_600 : (List.range 7).all (fun m => chO 6 0 m 0) = true := by decide +kernel
theorem orbs_601 : (List.range 7).all (fun m => chO 6 0 m 1) = true := by decide +kernel
theorem orbs_610 : (List.range 7).all (fun m => chO 6 1 m 0) = true := by decide +kernel
theorem orbs_611 : (List.range 7).all (fun m => chO 6 1 m 1) = true := by decide +kernel
theorem orbs_700 : (List.range 8).all (fun m => chO 7 0 m 0) = true := by decide +kernel
theorem orbs_701 : (List.range 8).all (fun m => chO 7 0 m 1) = true := by decide +kernel
theorem orbs_710 : (List.range 8).all (fun m => chO 7 1 m 0) = true := by decide +kernel
theorem orbs_711 : (List.range 8).all (fun m => chO 7 1 m 1) = true := by decide +kernel
theorem orbs_800 : (List.range 9).all (fun m => chO 8 0 m 0) = true := by decide +kernel
theorem orbs_801 : (List.range 9).all (fun m => chO 8 0 m 1) = true := by decide +kernel
theorem orbs_810 : (List.range 9).all (fun m => chO 8 1 m 0) = true := by decide +kernel
theorem orbs_811 : (List.range 9).all (fun m => chO 8 1 m 1) = true := by decide +kernel
theorem orbs_all {N r m g : Nat} (h2 : 2 ≤ N) (hN : N ≤ 8) (hr : r ≤ 1) (hm : m ≤ N) (hg : g ≤ 1) : chO N r m g = true := by
  have key : ∀ {N r g : Nat}, ((List.range (N + 1)).all (fun m => chO N r m g) = true) → m ≤ N → chO N r m g = true := fun h hm => List.all_eq_true.mp h m (List.mem_range.mpr (by omega))
  rcases (show N ≤ 5 ∨ N = 6 ∨ N = 7 ∨ N = 8 by omega) with h | rfl | rfl | rfl
  · have h1 := List.all_eq_true.mp orbs_2 N (List.mem_range.mpr (by omega))
    rw [sy_ble_f (show ¬ N ≤ 1 by omega), Bool.false_or] at h1
    have h1 := List.all_eq_true.mp (List.all_eq_true.mp h1 r (List.mem_range.mpr (by omega))) m (List.mem_range.mpr (by omega))
    rw [Bool.and_eq_true] at h1
    rcases (show g = 0 ∨ g = 1 by omega) with rfl | rfl
    · exact h1.1
    · exact h1.2
  · rcases (show r = 0 ∨ r = 1 by omega) with rfl | rfl <;> rcases (show g = 0 ∨ g = 1 by omega) with rfl | rfl
    · exact key orbs_600 hm
    · exact key orbs_601 hm
    · exact key orbs_610 hm
    · exact key orbs_611 hm
  · rcases (show r = 0 ∨ r = 1 by omega) with rfl | rfl <;> rcases (show g = 0 ∨ g = 1 by omega) with rfl | rfl
    · exact key orbs_700 hm
    · exact key orbs_701 hm
    · exact key orbs_710 hm
    · exact key orbs_711 hm
  · rcases (show r = 0 ∨ r = 1 by omega) with rfl | rfl <;> rcases (show g = 0 ∨ g = 1 by omega) with rfl | rfl
    · exact key orbs_800 hm
    · exact key orbs_801 hm
    · exact key orbs_810 hm
    · exact key orbs_811 hm
theorem lyW_lt : lyW < 2 ^ 1280 := by decide +kernel
theorem lyW_0 : (List.range 256).all (fun k => Nat.beq k 5 || !(Nat.testBit lyW k)) = true := by decide +kernel
theorem wrB {W B : Nat} (hB : B = 1280) (hlt : W < 2 ^ B) (h0 : (List.range 256).all (fun k => Nat.beq k 5 || !(Nat.testBit W k)) = true) {a k : Nat} (hk : k < 256) (h : syg 1 W (a * 256 + k) = 1) : mScr a k := by
  have hb : Nat.testBit W (a * 256 + k) = true := by
    have h1 := syg_bit 1 W (a * 256 + k) 0
    rw [h, Nat.one_mul, Nat.add_zero] at h1
    exact h1.symm
  unfold mScr
  by_cases h1 : 1 ≤ a ∧ a ≤ 4
  · exact Or.inl h1
  · refine Or.inr (Or.inr ?_)
    by_cases h5 : 5 ≤ a
    · have hlt : W < 2 ^ (a * 256 + k) := Nat.lt_of_lt_of_le hlt (Nat.pow_le_pow_right (by decide) (by omega))
      rw [Nat.testBit_lt_two_pow hlt] at hb; cases hb
    · have ha : a = 0 := by omega
      subst ha
      refine ⟨rfl, ?_⟩
      have := List.all_eq_true.mp h0 k (List.mem_range.mpr hk)
      rw [Nat.zero_mul, Nat.zero_add] at hb
      rw [hb] at this
      simpa using this
/-- what the reference's rows say of a sector -/
def lyI (I : Nat → Nat → Int32) (N r m g : Nat) : Prop := I 0 5 = nI (hdL N r m g).length ∧ (hdL N r m g).length ≤ 38 ∧ (∀ i h, (hdL N r m g)[i]? = some h → I 1 i = nI h ∧ (∀ k, k < olN N r h → I 2 (tuP N r h k) = nI i ∧ I 3 (tuP N r h k) = nI (sgC g k) ∧ tuP N r h k < 2 ^ N) ∧ ((List.range (olN N r h)).map (tuP N r h)).Nodup) ∧ ∀ s, s < 2 ^ N → I 2 s < 0 ∨ ∃ i h k, (hdL N r m g)[i]? = some h ∧ I 2 s = nI i ∧ k < olN N r h ∧ s = tuP N r h k
theorem nI_hi {c : Nat} (h1 : 2147483648 ≤ c) (h2 : c < 4294967296) : nI c < 0 := by
  rw [Int32.lt_iff_toInt_lt]
  have h3 : (nI c).toInt = (c : Int).bmod (2 ^ 32) := Int32.toInt_ofNat
  have h4 : (c : Int).bmod (2 ^ 32) = c - 4294967296 := by
    rw [Int.bmod_def]
    omega
  have h5 : (0 : Int32).toInt = 0 := rfl
  rw [h3, h4, h5]
  omega
theorem lay_ok0 {I : Nat → Nat → Int32} {J : Nat → Nat → Int64} {N r m g : Nat} {E : Se} (hW : ∀ a k, k < 256 → syg 1 E.2.1 (a * 256 + k) = 1 → mScr a k) (hE : E.2.2 = 0) {b : Sy} {h' : Zh} (hN : N ≤ 8) (hq : syR (fun a => a) E (mH I J) b h') (k1 : chH N r g b.1 (hdL N r m g) 0 = true) (k2 : chN N r b.1 (hdL N r m g) (2 ^ N) = true) (k3 : (hdL N r m g).length ≤ 38) : ∃ I' J', h' = mH I' J' ∧ lyI I' N r m g ∧ (∀ a b, ¬ mScr a b → I' a b = I a b) ∧ ∀ a b, ¬ mScr a b → J' a b = J a b := by
  have h256 : 2 ^ N ≤ 2 ^ 8 := Nat.pow_le_pow_right (by decide) hN
  obtain ⟨q1, q2, q3, q4, f1, f2, f3, s1, s2, s3⟩ := hq
  obtain ⟨a1, a2⟩ := chH_ok N r g b.1 _ 0 k1
  have hR : ∀ x k, zR h' x k = zR (mH I J) x k := fun x k => by
    rcases f3 x k with hh | ⟨a, -, -, hh⟩
    · exact hh
    · have : syg 1 0 (a * 256 + k) = 0 := by show (0 >>> (1 * (a * 256 + k))) % 2 ^ 1 = 0; simp [Nat.shiftRight_eq_div_pow]
      rw [hE, this] at hh; cases hh
  have hh' : h' = mH (zI h') (zJ h') := by
    obtain ⟨x1, x2, x3, x4, x5, x6⟩ := h'
    have e1 : x1 = 34 := s1
    have e2 : x2 = 157735 := s2
    have e3 : x3 = mB33.2.2.1 := s3
    have e6 : x6 = mB33.2.2.2.2.2 := by funext x k; exact hR x k
    subst e1 e2 e3 e6
    rfl
  refine ⟨zI h', zJ h', hh', ⟨?_, k3, fun i h hi => ?_, fun s hs => ?_⟩, fun x k hx => ?_, fun x k hx => ?_⟩
  · have := q2 0 5 (hdL N r m g).length (by decide) (by rw [show 0 * 256 + 5 = 5 from rfl, a1]; omega)
    exact this
  · obtain ⟨b1, b2, b3⟩ := a2 i h hi
    have hil : i < (hdL N r m g).length := (List.getElem?_eq_some_iff.mp hi).1
    refine ⟨q2 1 i h (by omega) (by rw [← b1]; congr 1; omega), fun k hk => ?_, b3⟩
    obtain ⟨c1, c2, c3⟩ := chT_ok N r g b.1 _ _ _ _ b2 k hk
    refine ⟨q2 2 (tuP N r h k) i (by omega) (by rw [show 2 * 256 + tuP N r h k = 512 + tuP N r h k by omega, c1]; omega), q2 3 (tuP N r h k) (sgC g k) (by omega) (by rw [show 3 * 256 + tuP N r h k = 768 + tuP N r h k by omega, c2, Nat.zero_add]), c3⟩
  · obtain ⟨c, c1, c2⟩ := chN_ok N r b.1 _ _ k2 s hs
    have e2 : zI h' 2 s = nI c := q2 2 s c (by omega) (by rw [show 2 * 256 + s = 512 + s by omega, c1])
    rcases c2 with ⟨c2, c5⟩ | ⟨c2, k, c3, c4⟩
    · refine Or.inl ?_
      rw [e2]
      exact nI_hi c2 c5
    · refine Or.inr ⟨c, (hdL N r m g).getD c 0, k, ?_, e2, c3, c4⟩
      rw [List.getD_eq_getElem?_getD, List.getElem?_eq_getElem c2]; rfl
  · rcases f1 x k with hh | ⟨a, ha, hk, hh⟩
    · exact hh
    · exact absurd (by rw [← ha]; exact hW a k hk hh) hx
  · rcases f2 x k with hh | ⟨a, ha, hk, hh⟩
    · exact hh
    · exact absurd (by rw [← ha]; exact hW a k hk hh) hx
theorem lyE_1 : lyE.2.1 = lyW := rfl
theorem lyE_2 : lyE.2.2 = 0 := rfl
theorem lyE_w (a k : Nat) (hk : k < 256) (h : syg 1 lyE.2.1 (a * 256 + k) = 1) : mScr a k := by
  rw [lyE_1] at h
  exact wrB (B := 1280) (Eq.refl _) lyW_lt lyW_0 hk h
theorem layOrbits_ok {I : Nat → Nat → Int32} {J : Nat → Nat → Int64} {N r m g : Nat} {e d : Int32} (hc : mcAt (mH I J) N r e d) (h2 : 2 ≤ N) (hN : N ≤ 8) (hr : r ≤ 1) (hm : m ≤ N) (hg : g ≤ 1) : ∃ I' J', gX12_layOrbits (mH I J) 0 (nI m) (nI (sgI g)) = some (mH I' J') ∧ lyI I' N r m g ∧ (∀ a b, ¬ mScr a b → I' a b = I a b) ∧ ∀ a b, ¬ mScr a b → J' a b = J a b := by
  have hq := sX12_layOrbits_ok (fun _ _ hh => hh) (lyT_ok I J hc hN hr) (show yA (fun a => a) 0 0 from rfl) (nI_yI m) (nI_yI (sgI g))
  obtain ⟨b, hb, hk⟩ := okB_s (orbs_all h2 hN hr hm hg)
  obtain ⟨h', e1, q⟩ := hq b hb
  unfold chK at hk
  rw [Bool.and_eq_true, Bool.and_eq_true] at hk
  obtain ⟨k1, k2, k3⟩ := hk
  obtain ⟨I', J', h1, h2⟩ := lay_ok0 lyE_w lyE_2 hN q k1 k2 (Nat.le_of_ble_eq_true k3)
  exact ⟨I', J', e1.trans (congrArg some h1), h2⟩
