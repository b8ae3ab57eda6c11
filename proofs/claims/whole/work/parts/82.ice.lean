/-! ice: crossings, rows; rowEntry -/
def crN (w : Wt) (l u r o : Nat) : Int32 := if l = r ∧ u = o then (if l = u then w.2.1 else w.2.2.1) else if l = o ∧ u = r then w.2.2.2 else 0
theorem nI_eq2 {a b : Nat} (ha : a < 2) (hb : b < 2) : (nI a = nI b) ↔ a = b := nI_inj (by omega) (by omega)
theorem crX {h : Zh} {a k : Nat} {w : Wt} (hx : wtX h a k w) {l u r o : Nat} (hl : l < 2) (hu : u < 2) (hr : r < 2) (ho : o < 2) : gX4_crossing h a (nI l) (nI u) (nI r) (nI o) = some (crN w l u r o) := by
  obtain ⟨-, -, b1, b2, b3⟩ := hx
  unfold gX4_crossing gX4_crossing_J2 gX4_crossing_J1 crN
  rw [b1, b2, b3]
  rcases (show l = 0 ∨ l = 1 by omega) with rfl | rfl <;> rcases (show u = 0 ∨ u = 1 by omega) with rfl | rfl <;> rcases (show r = 0 ∨ r = 1 by omega) with rfl | rfl <;> rcases (show o = 0 ∨ o = 1 by omega) with rfl | rfl <;> rfl
theorem crM {I : Nat → Nat → Int32} (J : Nat → Nat → Int64) {n : Nat} {w : Nat → Wt} (q : weiM I n w) (hn : n ≤ 6) {k : Nat} (hk : k < n) {l u r o : Nat} (hl : l < 2) (hu : u < 2) (hr : r < 2) (ho : o < 2) : gX12_crossing (mH I J) 0 (nI k) (nI l) (nI u) (nI r) (nI o) = some (crN (w k) l u r o) := by
  obtain ⟨-, d2, d3, d4⟩ := q.2 k hk
  unfold gX12_crossing gX12_crossing_J3 gX12_crossing_J2 gX12_crossing_J1 crN
  repeat (first | rw [mR_21] | rw [mR_22] | rw [mR_23] | rw [min_ (mL_15 _ _) (show k < 6 by omega) (by omega)] | rw [min_ (mL_16 _ _) (show k < 6 by omega) (by omega)] | rw [min_ (mL_17 _ _) (show k < 6 by omega) (by omega)] | rw [zx_nI (show k < 2 ^ 31 by omega)] | rw [mI_] | rw [d2] | rw [d3] | rw [d4] | rw [zlt_] | rw [zjn_] | rw [zob_s] | rw [zg_1] | rw [zbi_s] | rw [zbI_s] | rw [zbr_s] | rw [zbR_s] | rw [zbV_s] | rw [zbj_s] | rw [zbJ_s] | rw [zcs_s] | rw [zcs_n])
  rcases (show l = 0 ∨ l = 1 by omega) with rfl | rfl <;> rcases (show u = 0 ∨ u = 1 by omega) with rfl | rfl <;> rcases (show r = 0 ∨ r = 1 by omega) with rfl | rfl <;> rcases (show o = 0 ∨ o = 1 by omega) with rfl | rfl <;> rfl
/-- both sums along a row: those that come to 0, to 1 -/
def zo (w : Wt) (s t f : Nat) : Nat → Int64 × Int64
  | 0 => (if f = 0 then 1 else 0, if f = 1 then 1 else 0)
  | p + 1 => ((zo w s t f p).1 * (crN w 0 (s / 2 ^ p % 2) 0 (t / 2 ^ p % 2)).toInt64 + (zo w s t f p).2 * (crN w 1 (s / 2 ^ p % 2) 0 (t / 2 ^ p % 2)).toInt64, (zo w s t f p).1 * (crN w 0 (s / 2 ^ p % 2) 1 (t / 2 ^ p % 2)).toInt64 + (zo w s t f p).2 * (crN w 1 (s / 2 ^ p % 2) 1 (t / 2 ^ p % 2)).toInt64)
def alN (w : Wt) (n s t f g : Nat) : Int64 := if g = 0 then (zo w s t f n).1 else (zo w s t f n).2
theorem bitI {s p : Nat} (hs : s < 2147483648) (hp : p < 32) : (nI s >>> (nI p &&& 31)) &&& 1 = nI (s / 2 ^ p % 2) := by
  rw [nI_shr hs hp, nI_o 1, nI_and, and1]
theorem alongM {I : Nat → Nat → Int32} (J : Nat → Nat → Int64) {n : Nat} {w : Nat → Wt} (q : weiM I n w) (hn : n ≤ 6) {k : Nat} (hk : k < n) {m s t f g : Nat} (hm : m ≤ 8) (hs : s < 256) (ht : t < 256) (hf : f < 2) (hg : g < 2) : gX12_along (mH I J) 0 (nI k) (nI m) (nI s) (nI t) (nI f) (nI g) = some (alN (w k) m s t f g) := by
  unfold gX12_along
  rw [zjn_]
  have hJ : ∀ x y : Int64, x = (zo (w k) s t f 0).1 → y = (zo (w k) s t f 0).2 → gX12_along_J3 (mH I J) 0 (nI k) (nI m) (nI s) (nI t) (nI g) x y = some (alN (w k) m s t f g) := by
    rintro x y rfl rfl
    unfold gX12_along_J3
    rw [zjn_]
    refine zlp_it (R := Option Int64) (z := fun (_ : Int64) (_ : Int64) (_ : Int32) => (none : Option (Int64))) (F := gX12_along_L2 (mH I J) 0 (nI k) (nI m) (nI s) (nI t) (gX12_along_J1 (nI g))) (fun p (F : Int64 → Int64 → Int32 → Option Int64) => F (zo (w k) s t f p).1 (zo (w k) s t f p).2 (nI p)) _ m ?_ ?_ zFU (by unfold zFU; omega)
    · intro p hp r
      show gX12_along_L2 (mH I J) 0 (nI k) (nI m) (nI s) (nI t) (gX12_along_J1 (nI g)) r (zo (w k) s t f p).1 (zo (w k) s t f p).2 (nI p) = r (zo (w k) s t f (p + 1)).1 (zo (w k) s t f (p + 1)).2 (nI (p + 1))
      have hu : s / 2 ^ p % 2 < 2 := Nat.mod_lt _ (by decide)
      have ho : t / 2 ^ p % 2 < 2 := Nat.mod_lt _ (by decide)
      have c00 : gX12_crossing (mH I J) 0 (nI k) 0 (nI (s / 2 ^ p % 2)) 0 (nI (t / 2 ^ p % 2)) = _ := crM J q hn hk (l := 0) (r := 0) (by omega) hu (by omega) ho
      have c10 : gX12_crossing (mH I J) 0 (nI k) 1 (nI (s / 2 ^ p % 2)) 0 (nI (t / 2 ^ p % 2)) = _ := crM J q hn hk (l := 1) (r := 0) (by omega) hu (by omega) ho
      have c01 : gX12_crossing (mH I J) 0 (nI k) 0 (nI (s / 2 ^ p % 2)) 1 (nI (t / 2 ^ p % 2)) = _ := crM J q hn hk (l := 0) (r := 1) (by omega) hu (by omega) ho
      have c11 : gX12_crossing (mH I J) 0 (nI k) 1 (nI (s / 2 ^ p % 2)) 1 (nI (t / 2 ^ p % 2)) = _ := crM J q hn hk (l := 1) (r := 1) (by omega) hu (by omega) ho
      unfold gX12_along_L2
      rw [if_neg (zge_n hp (by omega)), bitI (by omega) (by omega), zlt_, bitI (by omega) (by omega), zlt_, c00, zbi_s, c10, zbi_s, zlt_, c01, zbi_s, c11, zbi_s, zlt_, ← nI_sc]
      rfl
    · intro r
      show gX12_along_L2 (mH I J) 0 (nI k) (nI m) (nI s) (nI t) (gX12_along_J1 (nI g)) r (zo (w k) s t f m).1 (zo (w k) s t f m).2 (nI m) = _
      unfold gX12_along_L2
      rw [if_pos (Int32.le_refl _)]
      unfold gX12_along_J1 alN
      rcases (show g = 0 ∨ g = 1 by omega) with rfl | rfl <;> rfl
  have hJ4 : ∀ x : Int64, x = (zo (w k) s t f 0).1 → gX12_along_J4 (mH I J) 0 (nI k) (nI m) (nI s) (nI t) (nI f) (nI g) x = some (alN (w k) m s t f g) := by
    intro x hx
    unfold gX12_along_J4
    rw [zjn_]
    rcases (show f = 0 ∨ f = 1 by omega) with rfl | rfl
    · rw [if_neg (by decide)]; exact hJ _ _ hx rfl
    · rw [if_pos (by decide)]; exact hJ _ _ hx rfl
  rcases (show f = 0 ∨ f = 1 by omega) with rfl | rfl
  · rw [if_pos (by decide)]; exact hJ4 _ rfl
  · rw [if_neg (by decide)]; exact hJ4 _ rfl
theorem zo_dead (w : Wt) (s t f : Nat) {p : Nat} (h : zo w s t f p = (0, 0)) : ∀ d, zo w s t f (p + d) = (0, 0)
  | 0 => h
  | d + 1 => by
    show ((zo w s t f (p + d)).1 * _ + (zo w s t f (p + d)).2 * _, (zo w s t f (p + d)).1 * _ + (zo w s t f (p + d)).2 * _) = _
    rw [zo_dead w s t f h d]
    simp
theorem crN_z (w : Wt) {l u r o : Nat} (hl : l < 2) (hu : u < 2) (hr : r < 2) (ho : o < 2) (h : l + u ≠ r + o) : crN w l u r o = 0 := by
  unfold crN
  rw [if_neg (by omega), if_neg (by omega)]
theorem alongX {h : Zh} {a k : Nat} {w : Wt} (hv : wtOk w) (hx : wtX h a k w) {m s t f g : Nat} (hm : m ≤ 8) (hs : s < 256) (ht : t < 256) (hf : f < 2) (hg : g < 2) : gX1_along h (some a) (nI m) (nI s) (nI t) (nI f) (nI g) = some (alN w m s t f g) := by
  unfold gX1_along
  rw [zjn_]
  have hgo : ∀ (d p l : Nat) (x : Int64) (fu : Nat), p + d = m → l < 2 → zo w s t f p = (if l = 0 then x else 0, if l = 1 then x else 0) → d < fu → zlp (fun (_ : Int64) (_ : Int32) (_ : Int32) => (none : Option (Int64))) (gX1_along_L3 h (some a) (nI m) (nI s) (nI t) (gX1_along_J1 (nI g))) fu x (nI l) (nI p) = some (alN w m s t f g) := by
    intro d
    induction d with
    | zero =>
      intro p l x fu hp hl hz hfu
      have : p = m := by omega
      subst this
      obtain ⟨fu, rfl⟩ : ∃ f, fu = f + 1 := ⟨fu - 1, by omega⟩
      show gX1_along_L3 h (some a) (nI p) (nI s) (nI t) (gX1_along_J1 (nI g)) _ x (nI l) (nI p) = _
      unfold gX1_along_L3
      rw [if_pos (Int32.le_refl _)]
      unfold gX1_along_J1 alN
      rw [hz]
      rcases (show l = 0 ∨ l = 1 by omega) with rfl | rfl <;> rcases (show g = 0 ∨ g = 1 by omega) with rfl | rfl <;> rfl
    | succ d ih =>
      intro p l x fu hp hl hz hfu
      obtain ⟨fu, rfl⟩ : ∃ f, fu = f + 1 := ⟨fu - 1, by omega⟩
      have hu : s / 2 ^ p % 2 < 2 := Nat.mod_lt _ (by decide)
      have ho : t / 2 ^ p % 2 < 2 := Nat.mod_lt _ (by decide)
      have hd0 : l + s / 2 ^ p % 2 < t / 2 ^ p % 2 ∨ t / 2 ^ p % 2 + 1 < l + s / 2 ^ p % 2 → alN w m s t f g = 0 := by
        intro hh
        have hz1 : zo w s t f (p + 1) = (0, 0) := by
          show ((zo w s t f p).1 * _ + (zo w s t f p).2 * _, (zo w s t f p).1 * _ + (zo w s t f p).2 * _) = _
          rw [hz]
          rcases (show l = 0 ∨ l = 1 by omega) with rfl | rfl
          · rw [crN_z w (l := 0) (r := 0) (by omega) hu (by omega) ho (by omega), crN_z w (l := 0) (r := 1) (by omega) hu (by omega) ho (by omega)]
            simp
          · rw [crN_z w (l := 1) (r := 0) (by omega) hu (by omega) ho (by omega), crN_z w (l := 1) (r := 1) (by omega) hu (by omega) ho (by omega)]
            simp
        have := zo_dead w s t f hz1 d
        rw [show p + 1 + d = m by omega] at this
        unfold alN
        rw [this]
        split <;> rfl
      show gX1_along_L3 h (some a) (nI m) (nI s) (nI t) (gX1_along_J1 (nI g)) _ x (nI l) (nI p) = _
      generalize hZ : zlp (fun (_ : Int64) (_ : Int32) (_ : Int32) => (none : Option (Int64))) (gX1_along_L3 h (some a) (nI m) (nI s) (nI t) (gX1_along_J1 (nI g))) fu = Z
      unfold gX1_along_L3
      rw [if_neg (zge_n (by omega) (by omega)), bitI (by omega) (by omega), zlt_, bitI (by omega) (by omega), zlt_, zlt_]
      by_cases h1 : l + s / 2 ^ p % 2 < t / 2 ^ p % 2
      · have e : nI l + nI (s / 2 ^ p % 2) - nI (t / 2 ^ p % 2) < 0 := by
          have a1 : l = 0 := by omega
          have a2 : s / 2 ^ p % 2 = 0 := by omega
          have a3 : t / 2 ^ p % 2 = 1 := by omega
          rw [a1, a2, a3]; decide
        rw [if_pos e, hd0 (Or.inl h1)]
      · by_cases h2 : t / 2 ^ p % 2 + 1 < l + s / 2 ^ p % 2
        · have a1 : l = 1 := by omega
          have a2 : s / 2 ^ p % 2 = 1 := by omega
          have a3 : t / 2 ^ p % 2 = 0 := by omega
          have e1 : ¬ nI l + nI (s / 2 ^ p % 2) - nI (t / 2 ^ p % 2) < 0 := by rw [a1, a2, a3]; decide
          have e2 : ¬ nI l + nI (s / 2 ^ p % 2) - nI (t / 2 ^ p % 2) ≤ 1 := by rw [a1, a2, a3]; decide
          rw [if_neg e1, if_neg e2, hd0 (Or.inr h2)]
        · obtain ⟨r, hr⟩ : ∃ r, l + s / 2 ^ p % 2 = r + t / 2 ^ p % 2 := ⟨l + s / 2 ^ p % 2 - t / 2 ^ p % 2, by omega⟩
          have hr2 : r < 2 := by omega
          have er : nI l + nI (s / 2 ^ p % 2) - nI (t / 2 ^ p % 2) = nI r := by
            rw [nI_add, hr, ← nI_add]; grind
          rw [er, if_neg (nI_pos (by omega)), if_pos (show nI r ≤ 1 from nI_le (b := 1) (by omega) (by decide)), zob_s, zjn_, wtX_k hv hx, crX hx hl hu hr2 ho]
          have hcl : ∀ {B : Type} (y : Option B), (if w.1 = 0 then y else if w.1 = 1 then y else y) = y := fun y => by split <;> (try split) <;> rfl
          rw [hcl, zbi_s]
          unfold gX1_along_J2
          rw [zlt_, ← nI_sc, ← hZ]
          refine ih (p + 1) r _ fu (by omega) hr2 ?_ (by omega)
          show ((zo w s t f p).1 * _ + (zo w s t f p).2 * _, (zo w s t f p).1 * _ + (zo w s t f p).2 * _) = _
          rw [hz]
          rcases (show l = 0 ∨ l = 1 by omega) with rfl | rfl <;> rcases (show r = 0 ∨ r = 1 by omega) with rfl | rfl
          · rw [crN_z w (l := 0) (r := 1) (by omega) hu (by omega) ho (by omega)]; simp
          · rw [crN_z w (l := 0) (r := 0) (by omega) hu (by omega) ho (by omega)]; simp
          · rw [crN_z w (l := 1) (r := 1) (by omega) hu (by omega) ho (by omega)]; simp
          · rw [crN_z w (l := 1) (r := 0) (by omega) hu (by omega) ho (by omega)]; simp
  refine hgo m 0 f 1 zFU (by omega) hf ?_ (by unfold zFU; omega)
  rfl
def rowN (w : Wt) (n s t : Nat) : Int64 := alN w n s t 0 0 + alN w n s t 1 1
theorem rowM {I : Nat → Nat → Int32} (J : Nat → Nat → Int64) {n : Nat} {w : Nat → Wt} (q : weiM I n w) (hn : n ≤ 6) {k : Nat} (hk : k < n) {m s t : Nat} (hm : m ≤ 8) (hs : s < 256) (ht : t < 256) : gX12_rowOf (mH I J) 0 (nI k) (nI m) (nI s) (nI t) = some (rowN (w k) m s t) := by
  unfold gX12_rowOf
  have a0 : gX12_along (mH I J) 0 (nI k) (nI m) (nI s) (nI t) 0 0 = _ := alongM J q hn hk hm hs ht (f := 0) (g := 0) (by omega) (by omega)
  have a1 : gX12_along (mH I J) 0 (nI k) (nI m) (nI s) (nI t) 1 1 = _ := alongM J q hn hk hm hs ht (f := 1) (g := 1) (by omega) (by omega)
  rw [a0, zbj_s, a1, zbj_s]
  rfl
theorem rowX {h : Zh} {a k : Nat} {w : Wt} (hv : wtOk w) (hx : wtX h a k w) {m s t : Nat} (hm : m ≤ 8) (hs : s < 256) (ht : t < 256) : gX1_around h (some a) (nI m) (nI s) (nI t) = some (rowN w m s t) := by
  unfold gX1_around
  have a0 : gX1_along h (some a) (nI m) (nI s) (nI t) 0 0 = _ := alongX hv hx hm hs ht (f := 0) (g := 0) (by omega) (by omega)
  have a1 : gX1_along h (some a) (nI m) (nI s) (nI t) 1 1 = _ := alongX hv hx hm hs ht (f := 1) (g := 1) (by omega) (by omega)
  rw [a0, zbj_s, a1, zbj_s]
  rfl
section Ops
variable {SC : Ch → (Nat → Nat → Int32) → (Nat → Nat → Int64) → Prop} {h h0 : Zh} {o : Nat → Nat} {L : Led} {n : Nat} {w : Nat → Wt} {S : Nat → Option Sh} {fa tr : Int32} {I : Nat → Nat → Int32} {J : Nat → Nat → Int64}
abbrev in26 (x : Int32) : Prop := 2 ≤ x.toInt ∧ x.toInt ≤ 6
theorem noRowX (x : Int32) : gX11_noRow x = some (if in26 x then 0 else 1) := by
  unfold gX11_noRow gX11_noRow_J1
  rw [zjn_]
  have e1 : x < 2 ↔ x.toInt < 2 := Int32.lt_iff_toInt_lt
  have e2 : x ≤ 6 ↔ x.toInt ≤ 6 := Int32.le_iff_toInt_le
  simp only [e1, e2]
  by_cases hC : in26 x
  · rw [if_pos hC]
    repeat' split
    all_goals first | rfl | (exfalso; omega)
  · rw [if_neg hC]
    repeat' split
    all_goals first | rfl | (exfalso; omega)
theorem rowEntry_st (p : stX SC h o L n w S fa tr) (q : stM I L n w S fa tr) (hst : stOk L n w S) (x1 x2 x3 x4 : Int32) : ∃ r, gX11_rowEntry h 0 x1 x2 x3 x4 = some r ∧ gX12_rowEntry (mH I J) 0 x1 x2 x3 x4 = some r := by
  have hn := hst.2.1.1
  have hJ1 : ∀ g, gX12_rowEntry_J1 g 0 x1 x2 x3 x4 1 = some (-9223372036854775808) := fun g => rfl
  have hJ2 : ∀ K : Int32 → Option Int64, gX12_rowEntry_J2 K = K 1 := fun _ => rfl
  unfold gX11_rowEntry gX12_rowEntry
  rw [noWeightsM q.2.1 hn, zbi_s, zjn_, zjn_, hJ2, hJ1]
  by_cases h1 : inR x1 n
  · rw [if_pos h1, if_pos rfl, in_ii, show (2 : Int64).toInt = 2 from rfl, show (6 : Int64).toInt = 6 from rfl, zbi_s]
    obtain ⟨k, hk, rfl⟩ := inR_f h1
    obtain ⟨a, a1, a2, a3⟩ := weightsAt_s p hn hk
    rw [a1, zbr_s, zcs_s, noRowX, zbi_s]
    by_cases h2 : in26 x2
    · rw [if_pos h2, if_pos h2, if_pos rfl, if_neg (show ¬ (1 : Int32) = 0 by decide)]
      obtain ⟨m, hm, rfl⟩ := inR_f (x := x2) (n := 7) (by omega)
      have hsh : ∀ m, m < 7 → ((((1 : Int64) <<< ((nI m).toInt64 &&& 63)) - 1).toInt + 1 : Int) = ((2 ^ m : Nat) : Int) := by
        have hf : (List.range 7).all (fun m => decide (((((1 : Int64) <<< ((nI m).toInt64 &&& 63)) - 1).toInt + 1 : Int) = ((2 ^ m : Nat) : Int))) = true := by decide +kernel
        intro m hm
        exact of_decide_eq_true (List.all_eq_true.mp hf m (List.mem_range.mpr hm))
      have h64 : 2 ^ m ≤ 2 ^ 6 := Nat.pow_le_pow_right (by decide) (by omega)
      have hns : ∀ x : Int32, gX11_noState x (nI m) = some (if inR x (2 ^ m) then 0 else 1) := fun x => by
        unfold gX11_noState gX11_noState_J1
        obtain ⟨s1, s2, s3⟩ := shl_fin m (by omega)
        rw [zjn_, s1, rng_if x (nI (2 ^ m)) (2 ^ m) (nI_int (by omega))]
        split <;> rfl
      rw [in_R x3 _ (2 ^ m) (hsh m hm), zbi_s, in_R x4 _ (2 ^ m) (hsh m hm), hns x3, zbi_s]
      by_cases h3 : inR x3 (2 ^ m)
      · rw [if_pos h3, if_pos h3, if_pos rfl, if_neg (show ¬ (1 : Int32) = 0 by decide), zbi_s, hns x4, zbi_s]
        by_cases h4 : inR x4 (2 ^ m)
        · rw [if_pos h4, if_pos h4, if_pos rfl, if_neg (show ¬ (1 : Int32) = 0 by decide)]
          obtain ⟨s, hs, rfl⟩ := inR_f h3
          obtain ⟨t, ht, rfl⟩ := inR_f h4
          unfold gX12_rowEntry_J1
          rw [if_pos rfl, rowM J q.2.1 hn hk (by omega) (by omega) (by omega), rowX (hst.2.1.2 k hk) a3 (by omega) (by omega) (by omega)]
          exact ⟨_, rfl, rfl⟩
        · rw [if_neg h4, if_neg h4, if_neg (by decide), if_pos rfl]
          exact ⟨_, rfl, rfl⟩
      · rw [if_neg h3, if_neg h3, if_neg (by decide), if_pos rfl]
        exact ⟨_, rfl, rfl⟩
    · rw [if_neg h2, if_neg h2, if_neg (by decide), if_pos rfl]
      exact ⟨_, rfl, rfl⟩
  · rw [if_neg h1, if_neg (by decide), weightsAt_n p hn x1 h1]
    exact ⟨_, rfl, rfl⟩
end Ops
