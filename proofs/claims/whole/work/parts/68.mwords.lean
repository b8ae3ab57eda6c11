/-! words in the reference: the great table of sums -/
theorem cmp0 (x : Int64) : lg_cmp x 0 = 0 ↔ x = 0 := by
  constructor
  · intro hx
    rcases (show x.toInt < 0 ∨ x.toInt = 0 ∨ 0 < x.toInt by omega) with h | h | h
    · have := (lg_cmp_lt x 0).mpr (by rw [Int64.lt_iff_toInt_lt]; exact h)
      rw [hx] at this
      exact absurd this (by decide)
    · exact Int64.toInt_inj.mp h
    · have := (lg_cmp_gt x 0).mpr (by rw [Int64.lt_iff_toInt_lt]; exact h)
      rw [hx] at this
      exact absurd this (by decide)
  · rintro rfl
    decide
def updJ (f : Nat → Int64) (w : Nat) (v : Int64) : Nat → Int64 := fun x => if x = w then v else f x
/-- the two great rows -/
def wJ (J : Nat → Nat → Int64) (f g : Nat → Int64) : Nat → Nat → Int64 := fun a b => if a = 27 then f b else if a = 28 then g b else J a b
theorem wJ_27 (J : Nat → Nat → Int64) (f g : Nat → Int64) (b : Nat) : wJ J f g 27 b = f b := rfl
theorem wJ_28 (J : Nat → Nat → Int64) (f g : Nat → Int64) (b : Nat) : wJ J f g 28 b = g b := rfl
theorem wJ_u27 (J : Nat → Nat → Int64) (f g : Nat → Int64) (w : Nat) (v : Int64) : zU (wJ J f g) 27 w v = wJ J (updJ f w v) g := by
  refine zU_g (fun x b hx => ?_) (fun b hb => ?_) ?_
  · unfold wJ
    rw [if_neg hx, if_neg hx]
  · rw [wJ_27, wJ_27]
    exact if_neg hb
  · rw [wJ_27]
    exact if_pos rfl
theorem wJ_u28 (J : Nat → Nat → Int64) (f g : Nat → Int64) (w : Nat) (v : Int64) : zU (wJ J f g) 28 w v = wJ J f (updJ g w v) := by
  refine zU_g (fun x b hx => ?_) (fun b hb => ?_) ?_
  · unfold wJ
    by_cases h : x = 27
    · rw [if_pos h, if_pos h]
    · rw [if_neg h, if_neg h, if_neg hx, if_neg hx]
  · rw [wJ_28, wJ_28]
    exact if_neg hb
  · rw [wJ_28]
    exact if_pos rfl
def z0f (f : Nat → Int64) (n : Nat) : Nat → Int64 := fun w => if w < n then 0 else f w
theorem z0f_s (f : Nat → Int64) (n : Nat) : updJ (z0f f n) n 0 = z0f f (n + 1) := by
  funext x
  unfold updJ z0f
  by_cases h : x = n
  · rw [if_pos h, if_pos (by omega)]
  · rw [if_neg h]
    by_cases h2 : x < n
    · rw [if_pos h2, if_pos (by omega)]
    · rw [if_neg h2, if_neg (by omega)]
theorem wJ_self (J : Nat → Nat → Int64) : wJ J (z0f (J 27) 0) (z0f (J 28) 0) = J := by
  funext a b
  unfold wJ z0f
  by_cases h : a = 27
  · rw [if_pos h, if_neg (Nat.not_lt_zero b), h]
  · rw [if_neg h]
    by_cases h2 : a = 28
    · rw [if_pos h2, if_neg (Nat.not_lt_zero b), h2]
    · rw [if_neg h2]
theorem startSum_ok (I : Nat → Nat → Int32) (J : Nat → Nat → Int64) : gX12_startSum (mH I J) 0 = some (mH I (wJ J (z0f (J 27) 65536) (z0f (J 28) 65536))) := by
  unfold gX12_startSum
  have hh := zlp_it (R := Option Zh) (z := fun (_ : Int32) (_ : Zh) => (none : Option (Zh))) (F := gX12_startSum_L1 0) (fun i (F : Int32 → Zh → Option Zh) => F (nI i) (mH I (wJ J (z0f (J 27) i) (z0f (J 28) i)))) (some (mH I (wJ J (z0f (J 27) 65536) (z0f (J 28) 65536)))) 65536 ?_ ?_ zFU (by unfold zFU; omega)
  · rw [wJ_self] at hh; exact hh
  · intro i hi r
    show gX12_startSum_L1 0 r (nI i) (mH I (wJ J (z0f (J 27) i) (z0f (J 28) i))) = r (nI (i + 1)) (mH I (wJ J (z0f (J 27) (i + 1)) (z0f (J 28) (i + 1))))
    unfold gX12_startSum_L1
    rw [if_neg (show ¬ (65536 : Int32) ≤ nI i from zge_n (b := 65536) hi (by decide))]
    repeat (first | rw [mR_33] | rw [mR_34] | rw [min_ (mL_27 _ _) hi (by omega)] | rw [min_ (mL_28 _ _) hi (by omega)] | rw [zx_nI (show i < 2 ^ 31 by omega)] | rw [msJ] | rw [wJ_u27] | rw [wJ_u28] | rw [z0f_s] | rw [← nI_sc] | rw [zlt_] | rw [zjn_] | rw [zob_s] | rw [zg_1] | rw [zbi_s] | rw [zbI_s] | rw [zbr_s] | rw [zbR_s] | rw [zbV_s] | rw [zbj_s] | rw [zbJ_s] | rw [zcs_s] | rw [zcs_n])
  · intro r
    show gX12_startSum_L1 0 r (nI 65536) _ = _
    unfold gX12_startSum_L1
    rw [if_pos (show (65536 : Int32) ≤ nI 65536 from Int32.le_refl _)]
/-- sums of what comes to keys -/
def sAt : List (Nat × Int64) → Nat → Int64
  | [], _ => 0
  | c :: cs, x => (if c.1 = x then c.2 else 0) + sAt cs x
def aL (f : Nat → Int64) (cs : List (Nat × Int64)) : Nat → Int64 := fun x => f x + sAt cs x
theorem sAt_app (as bs : List (Nat × Int64)) (x : Nat) : sAt (as ++ bs) x = sAt as x + sAt bs x := by
  induction as with
  | nil => show sAt bs x = 0 + sAt bs x; grind
  | cons a as ih => show (if a.1 = x then a.2 else 0) + sAt (as ++ bs) x = (if a.1 = x then a.2 else 0) + sAt as x + sAt bs x; rw [ih]; grind
theorem aL_nil (f : Nat → Int64) : aL f [] = f := by
  funext x
  show f x + 0 = f x
  grind
theorem aL_snoc (f : Nat → Int64) (cs : List (Nat × Int64)) (w : Nat) (v : Int64) : updJ (aL f cs) w (aL f cs w + v) = aL f (cs ++ [(w, v)]) := by
  funext x
  unfold updJ aL
  rw [sAt_app]
  show _ = f x + (sAt cs x + ((if w = x then v else 0) + 0))
  by_cases h : x = w
  · subst h
    rw [if_pos rfl, if_pos rfl]; grind
  · rw [if_neg h, if_neg (fun e => h e.symm)]; grind
theorem take_sc {α : Type} {l : List α} {i : Nat} {a : α} (h : l[i]? = some a) : l.take (i + 1) = l.take i ++ [a] := by
  rw [List.take_add_one, h]; rfl
theorem get_some {α : Type} {l : List α} {i : Nat} (h : i < l.length) : ∃ a, l[i]? = some a := ⟨l[i], List.getElem?_eq_getElem h⟩
/-- what the words of a sum bring, by times -/
def cR (b : Int32) (l : List Wd) : List (Nat × Int64) := l.map (fun w => (w.1, (b * w.2.1).toInt64))
def cI (b : Int32) (l : List Wd) : List (Nat × Int64) := l.map (fun w => (w.1, (b * w.2.2).toInt64))
theorem zlp_from {B R : Type} {z : B} {F : B → B} (ev : Nat → B → R) (X : R) (m : Nat) (hs : ∀ i, i < m → ∀ r, ev i (F r) = ev (i + 1) r) (hx : ∀ r, ev m (F r) = X) (n : Nat) (hn : m < n) : ev 0 (zlp z F n) = X := zlp_it ev X m hs hx n hn
theorem takeSum_ok {I : Nat → Nat → Int32} {k : Nat} {l : List Wd} (hk : k < 5) (hl : l.length ≤ 60) (hw : ∀ w ∈ l, w.1 < 65536) (hs : sumM I k l) (J : Nat → Nat → Int64) (f g : Nat → Int64) (b : Int32) : gX12_takeSum (mH I (wJ J f g)) 0 (nI k) b = some (mH I (wJ J (aL f (cR b l)) (aL g (cI b l)))) := by
  obtain ⟨s1, s2⟩ := hs
  have e60 : (60 : Int32) * nI k = nI (60 * k) := by rw [nI_o 60, pk_mul]
  unfold gX12_takeSum
  rw [zlt_, e60]
  have hh := zlp_it (R := Option Zh) (z := fun (_ : Int32) (_ : Zh) => (none : Option (Zh))) (F := gX12_takeSum_L1 0 (nI k) b) (fun i (F : Int32 → Zh → Option Zh) => F (nI (60 * k + i)) (mH I (wJ J (aL f (cR b (l.take i))) (aL g (cI b (l.take i)))))) (some (mH I (wJ J (aL f (cR b l)) (aL g (cI b l))))) l.length ?_ ?_ zFU (by unfold zFU; omega)
  · rw [List.take_zero, Nat.add_zero] at hh
    have e1 : aL f (cR b []) = f := aL_nil f
    have e2 : aL g (cI b []) = g := aL_nil g
    rw [e1, e2] at hh
    exact hh
  · intro i hi r
    obtain ⟨w, hwi⟩ := get_some hi
    obtain ⟨w1, w2, w3⟩ := s2 i w hwi
    have hwk : w.1 < 65536 := hw w (List.mem_of_getElem? hwi)
    show gX12_takeSum_L1 0 (nI k) b r (nI (60 * k + i)) (mH I (wJ J (aL f (cR b (l.take i))) (aL g (cI b (l.take i))))) = r (nI (60 * k + i + 1)) (mH I (wJ J (aL f (cR b (l.take (i + 1)))) (aL g (cI b (l.take (i + 1))))))
    unfold gX12_takeSum_L1
    have e1 : nI (60 * k) + nI l.length = nI (60 * k + l.length) := nI_add _ _
    have hle : ¬ nI (60 * k + l.length) ≤ nI (60 * k + i) := zge_n (by omega) (by omega)
    have t1 : cR b (l.take (i + 1)) = cR b (l.take i) ++ [(w.1, (b * w.2.1).toInt64)] := by rw [take_sc hwi]; simp [cR]
    have t2 : cI b (l.take (i + 1)) = cI b (l.take i) ++ [(w.1, (b * w.2.2).toInt64)] := by rw [take_sc hwi]; simp [cI]
    repeat (first | rw [mR_29] | rw [min_ (mL_23 _ _) hk (by omega)] | rw [zx_nI (show k < 2 ^ 31 by omega)] | rw [mI_] | rw [s1] | rw [e60] | rw [e1] | rw [if_neg hle] | rw [mR_30] | rw [mR_31] | rw [mR_32] | rw [mR_33] | rw [mR_34] | rw [min_ (mL_24 _ _) (show 60 * k + i < 300 by omega) (by omega)] | rw [min_ (mL_25 _ _) (show 60 * k + i < 300 by omega) (by omega)] | rw [min_ (mL_26 _ _) (show 60 * k + i < 300 by omega) (by omega)] | rw [zx_nI (show 60 * k + i < 2 ^ 31 by omega)] | rw [w1] | rw [w2] | rw [w3] | rw [min_ (mL_27 _ _) hwk (by omega)] | rw [min_ (mL_28 _ _) hwk (by omega)] | rw [zx_nI (show w.1 < 2 ^ 31 by omega)] | rw [msJ] | rw [mJ_] | rw [wJ_27] | rw [wJ_u27] | rw [wJ_28] | rw [wJ_u28] | rw [aL_snoc] | rw [← t1] | rw [← t2] | rw [← nI_sc] | rw [zlt_] | rw [zjn_] | rw [zob_s] | rw [zg_1] | rw [zbi_s] | rw [zbI_s] | rw [zbr_s] | rw [zbR_s] | rw [zbV_s] | rw [zbj_s] | rw [zbJ_s] | rw [zcs_s] | rw [zcs_n])
  · intro r
    show gX12_takeSum_L1 0 (nI k) b r (nI (60 * k + l.length)) (mH I (wJ J (aL f (cR b (l.take l.length))) (aL g (cI b (l.take l.length))))) = _
    unfold gX12_takeSum_L1
    have e1 : nI (60 * k) + nI l.length = nI (60 * k + l.length) := nI_add _ _
    repeat (first | rw [mR_29] | rw [min_ (mL_23 _ _) hk (by omega)] | rw [zx_nI (show k < 2 ^ 31 by omega)] | rw [mI_] | rw [s1] | rw [e60] | rw [e1] | rw [if_pos (Int32.le_refl (nI (60 * k + l.length)))] | rw [List.take_length] | rw [zlt_] | rw [zjn_] | rw [zob_s] | rw [zg_1] | rw [zbi_s] | rw [zbI_s] | rw [zbr_s] | rw [zbR_s] | rw [zbV_s] | rw [zbj_s] | rw [zbJ_s] | rw [zcs_s] | rw [zcs_n])
/-- the words that are not 0 -/
def nz (f g : Nat → Int64) : Nat → List (Nat × Int64 × Int64)
  | 0 => []
  | n + 1 => if f n = 0 ∧ g n = 0 then nz f g n else nz f g n ++ [(n, f n, g n)]
theorem nz_le (f g : Nat → Int64) : ∀ n, (nz f g n).length ≤ n
  | 0 => Nat.le_refl _
  | n + 1 => by
    have := nz_le f g n
    unfold nz
    split
    · omega
    · rw [List.length_append]; simp; omega
theorem nz_lt (f g : Nat → Int64) : ∀ n, ∀ c ∈ nz f g n, c.1 < n ∧ c.2.1 = f c.1 ∧ c.2.2 = g c.1 ∧ ¬ (c.2.1 = 0 ∧ c.2.2 = 0)
  | 0, c, hc => by cases hc
  | n + 1, c, hc => by
    unfold nz at hc
    by_cases h : f n = 0 ∧ g n = 0
    · rw [if_pos h] at hc
      obtain ⟨a, b⟩ := nz_lt f g n c hc
      exact ⟨by omega, b⟩
    · rw [if_neg h] at hc
      rcases List.mem_append.mp hc with hc | hc
      · obtain ⟨a, b⟩ := nz_lt f g n c hc
        exact ⟨by omega, b⟩
      · rw [List.mem_singleton] at hc
        subst hc
        exact ⟨Nat.lt_succ_self n, rfl, rfl, h⟩
theorem nz_mono (f g : Nat → Int64) : ∀ n, ∀ m, m ≤ n → (nz f g m).length ≤ (nz f g n).length
  | 0, m, h => by rw [Nat.le_zero.mp h]; exact Nat.le_refl _
  | n + 1, m, h => by
    rcases (show m = n + 1 ∨ m ≤ n by omega) with rfl | h'
    · exact Nat.le_refl _
    · refine Nat.le_trans (nz_mono f g n m h') ?_
      show _ ≤ (if f n = 0 ∧ g n = 0 then nz f g n else nz f g n ++ [(n, f n, g n)]).length
      split
      · exact Nat.le_refl _
      · rw [List.length_append]; omega
theorem madeWords_ok (I : Nat → Nat → Int32) (J : Nat → Nat → Int64) (f g : Nat → Int64) : gX12_madeWords (mH I (wJ J f g)) 0 = some (nI (nz f g 65536).length) := by
  unfold gX12_madeWords
  refine zlp_it (R := Option Int32) (z := fun (_ : Int32) (_ : Int32) => (none : Option (Int32))) (F := gX12_madeWords_L3 (mH I (wJ J f g)) 0) (fun i (F : Int32 → Int32 → Option Int32) => F (nI (nz f g i).length) (nI i)) _ 65536 ?_ ?_ zFU (by unfold zFU; omega)
  · intro i hi r
    show gX12_madeWords_L3 (mH I (wJ J f g)) 0 r (nI (nz f g i).length) (nI i) = r (nI (nz f g (i + 1)).length) (nI (i + 1))
    unfold gX12_madeWords_L3
    rw [if_neg (show ¬ (65536 : Int32) ≤ nI i from zge_n (b := 65536) hi (by decide))]
    repeat (first | rw [mR_33] | rw [mR_34] | rw [min_ (mL_27 _ _) hi (by omega)] | rw [min_ (mL_28 _ _) hi (by omega)] | rw [zx_nI (show i < 2 ^ 31 by omega)] | rw [mJ_] | rw [wJ_27] | rw [wJ_28] | rw [zlt_] | rw [zjn_] | rw [zob_s] | rw [zg_1] | rw [zbi_s] | rw [zbI_s] | rw [zbr_s] | rw [zbR_s] | rw [zbV_s] | rw [zbj_s] | rw [zbJ_s] | rw [zcs_s] | rw [zcs_n])
    unfold gX12_madeWords_J2 gX12_madeWords_J1
    have ec1 := cmp0 (f i)
    have ec2 := cmp0 (g i)
    by_cases h1 : f i = 0
    · rw [if_pos (ec1.mpr h1)]
      by_cases h2 : g i = 0
      · rw [if_pos (ec2.mpr h2), show nz f g (i + 1) = nz f g i from if_pos ⟨h1, h2⟩, nI_sc]
        show r (nI (nz f g i).length + nI 0) (nI i + 1) = _
        rw [nI_add]
        rfl
      · rw [if_neg (fun h => h2 (ec2.mp h)), show nz f g (i + 1) = nz f g i ++ [(i, f i, g i)] from if_neg (fun h => h2 h.2), List.length_append, nI_sc]
        show r (nI (nz f g i).length + nI 1) (nI i + 1) = _
        rw [nI_add]
        rfl
    · rw [if_neg (fun h => h1 (ec1.mp h)), show nz f g (i + 1) = nz f g i ++ [(i, f i, g i)] from if_neg (fun h => h1 h.1), List.length_append, nI_sc]
      show r (nI (nz f g i).length + nI 1) (nI i + 1) = _
      rw [nI_add]
      rfl
  · intro r
    show gX12_madeWords_L3 (mH I (wJ J f g)) 0 r _ (nI 65536) = _
    unfold gX12_madeWords_L3
    rw [if_pos (show (65536 : Int32) ≤ nI 65536 from Int32.le_refl _)]
/-- a number's size is above a million -/
def ab (x : Int64) : Int64 := if (0 : Int32) ≤ lg_cmp x 0 then x else -x
def bigJ (x : Int64) : Prop := 1000000 < ab x
theorem sizeOf_ok (x : Int64) : gX12_sizeOf x = some (ab x) := by
  unfold gX12_sizeOf ab
  split <;> rfl
theorem abs_ok (x : Int64) : gJ9_abs_067f4 x = some (ab x) := by
  unfold gJ9_abs_067f4 ab
  split <;> rfl
def spent (f g : Nat → Int64) (n : Nat) : Prop := ∃ w, w < n ∧ (bigJ (f w) ∨ bigJ (g w))
theorem isMadeSpent_ok (I : Nat → Nat → Int32) (J : Nat → Nat → Int64) (f g : Nat → Int64) : ∃ x : Int32, gX12_isMadeSpent (mH I (wJ J f g)) 0 = some x ∧ ((x = 0 ∧ (nz f g 65536).length ≤ 60 ∧ ¬ spent f g 65536) ∨ (x = 1 ∧ (60 < (nz f g 65536).length ∨ spent f g 65536))) := by
  have hl := nz_le f g 65536
  unfold gX12_isMadeSpent
  rw [madeWords_ok, zbi_s, zjn_]
  unfold gX12_isMadeSpent_J4
  by_cases h60 : (nz f g 65536).length ≤ 60
  · rw [if_pos (show nI (nz f g 65536).length ≤ 60 from nI_le (b := 60) h60 (by decide))]
    by_cases hsp : spent f g 65536
    · refine ⟨1, ?_, Or.inr ⟨rfl, Or.inr hsp⟩⟩
      -- the first one that is too large
      have hmin : ∃ w, w < 65536 ∧ (bigJ (f w) ∨ bigJ (g w)) ∧ ∀ v, v < w → ¬ (bigJ (f v) ∨ bigJ (g v)) := by
        have key : ∀ n, (∃ w, w < n ∧ (bigJ (f w) ∨ bigJ (g w))) → ∃ w, w < n ∧ (bigJ (f w) ∨ bigJ (g w)) ∧ ∀ v, v < w → ¬ (bigJ (f v) ∨ bigJ (g v)) := by
          intro n
          induction n with
          | zero => rintro ⟨w, hw, -⟩; omega
          | succ n ih =>
            intro hex
            by_cases h : ∃ w, w < n ∧ (bigJ (f w) ∨ bigJ (g w))
            · obtain ⟨w, a, b⟩ := ih h
              exact ⟨w, by omega, b⟩
            · obtain ⟨w, a, b⟩ := hex
              have : w = n := by
                rcases Nat.lt_or_ge w n with h1 | h1
                · exact absurd ⟨w, h1, b⟩ h
                · omega
              subst this
              exact ⟨w, a, b, fun v hv hb => h ⟨v, hv, hb⟩⟩
        exact key 65536 hsp
      obtain ⟨w, hw, hb, hbef⟩ := hmin
      refine zlp_it (R := Option Int32) (z := fun (_ : Int32) (_ : Int32) => (none : Option (Int32))) (F := gX12_isMadeSpent_L3 (mH I (wJ J f g)) 0) (fun i (F : Int32 → Int32 → Option Int32) => F (if i = w + 1 then 1 else 0) (nI i)) _ (w + 1) ?_ ?_ zFU (by unfold zFU; omega)
      · intro i hi r
        show gX12_isMadeSpent_L3 (mH I (wJ J f g)) 0 r (if i = w + 1 then 1 else 0) (nI i) = r (if i + 1 = w + 1 then 1 else 0) (nI (i + 1))
        rw [if_neg (by omega)]
        unfold gX12_isMadeSpent_L3
        rw [if_neg (show ¬ (65536 : Int32) ≤ nI i from zge_n (b := 65536) (by omega) (by decide)), if_pos rfl]
        repeat (first | rw [mR_33] | rw [mR_34] | rw [min_ (mL_27 _ _) (show i < 65536 by omega) (by omega)] | rw [min_ (mL_28 _ _) (show i < 65536 by omega) (by omega)] | rw [zx_nI (show i < 2 ^ 31 by omega)] | rw [mJ_] | rw [wJ_27] | rw [wJ_28] | rw [sizeOf_ok] | rw [zlt_] | rw [zjn_] | rw [zob_s] | rw [zg_1] | rw [zbi_s] | rw [zbI_s] | rw [zbr_s] | rw [zbR_s] | rw [zbV_s] | rw [zbj_s] | rw [zbJ_s] | rw [zcs_s] | rw [zcs_n])
        unfold gX12_isMadeSpent_J2 gX12_isMadeSpent_J1
        by_cases hiw : i = w
        · subst hiw
          rw [if_pos rfl, nI_sc]
          rcases hb with hb | hb
          · rw [if_pos ((lg_cmp_gt _ _).mpr hb)]
          · by_cases h1 : (0 : Int32) < lg_cmp (ab (f i)) 1000000
            · rw [if_pos h1]
            · rw [if_neg h1, if_neg (fun h => absurd ((lg_cmp_gt _ _).mpr hb) (Int32.not_lt.mpr h))]
        · have hn := hbef i (by omega)
          rw [if_neg (show ¬ i + 1 = w + 1 by omega), nI_sc, if_neg (fun h => hn (Or.inl ((lg_cmp_gt _ _).mp h))), if_pos (Int32.not_lt.mp (fun h => hn (Or.inr ((lg_cmp_gt _ _).mp h))))]
      · intro r
        show gX12_isMadeSpent_L3 (mH I (wJ J f g)) 0 r (if w + 1 = w + 1 then 1 else 0) (nI (w + 1)) = _
        rw [if_pos rfl]
        unfold gX12_isMadeSpent_L3
        by_cases h : (65536 : Int32) ≤ nI (w + 1)
        · rw [if_pos h]; rfl
        · rw [if_neg h, if_neg (by decide)]; rfl
    · refine ⟨0, ?_, Or.inl ⟨rfl, h60, hsp⟩⟩
      refine zlp_it (R := Option Int32) (z := fun (_ : Int32) (_ : Int32) => (none : Option (Int32))) (F := gX12_isMadeSpent_L3 (mH I (wJ J f g)) 0) (fun i (F : Int32 → Int32 → Option Int32) => F 0 (nI i)) _ 65536 ?_ ?_ zFU (by unfold zFU; omega)
      · intro i hi r
        show gX12_isMadeSpent_L3 (mH I (wJ J f g)) 0 r 0 (nI i) = r 0 (nI (i + 1))
        unfold gX12_isMadeSpent_L3
        rw [if_neg (show ¬ (65536 : Int32) ≤ nI i from zge_n (b := 65536) hi (by decide)), if_pos rfl]
        repeat (first | rw [mR_33] | rw [mR_34] | rw [min_ (mL_27 _ _) hi (by omega)] | rw [min_ (mL_28 _ _) hi (by omega)] | rw [zx_nI (show i < 2 ^ 31 by omega)] | rw [mJ_] | rw [wJ_27] | rw [wJ_28] | rw [sizeOf_ok] | rw [zlt_] | rw [zjn_] | rw [zob_s] | rw [zg_1] | rw [zbi_s] | rw [zbI_s] | rw [zbr_s] | rw [zbR_s] | rw [zbV_s] | rw [zbj_s] | rw [zbJ_s] | rw [zcs_s] | rw [zcs_n])
        unfold gX12_isMadeSpent_J2 gX12_isMadeSpent_J1
        rw [if_neg (fun h => hsp ⟨i, hi, Or.inl ((lg_cmp_gt _ _).mp h)⟩), if_pos (Int32.not_lt.mp (fun h => hsp ⟨i, hi, Or.inr ((lg_cmp_gt _ _).mp h)⟩)), nI_sc]
      · intro r
        show gX12_isMadeSpent_L3 (mH I (wJ J f g)) 0 r 0 (nI 65536) = _
        unfold gX12_isMadeSpent_L3
        rw [if_pos (show (65536 : Int32) ≤ nI 65536 from Int32.le_refl _)]
        rfl
  · rw [if_neg (show ¬ nI (nz f g 65536).length ≤ 60 from zge_n (a := 60) (by omega) (by omega))]
    refine ⟨1, ?_, Or.inr ⟨rfl, Or.inl (by omega)⟩⟩
    refine zlp_it (R := Option Int32) (z := fun (_ : Int32) (_ : Int32) => (none : Option (Int32))) (F := gX12_isMadeSpent_L3 (mH I (wJ J f g)) 0) (fun i (F : Int32 → Int32 → Option Int32) => F 1 (nI i)) _ 0 ?_ ?_ zFU (by unfold zFU; omega)
    · intro i hi; omega
    · intro r
      show gX12_isMadeSpent_L3 (mH I (wJ J f g)) 0 r 1 0 = _
      unfold gX12_isMadeSpent_L3
      rw [if_neg (by decide), if_neg (by decide)]
      rfl
/-- three rows of words as they are put -/
def wV (a : Nat) (w : Wd) : Int32 := if a = 24 then nI w.1 else if a = 25 then w.2.1 else w.2.2
def rowP (I : Nat → Nat → Int32) (k : Nat) (l : List Wd) : Nat → Nat → Int32 := fun a b => if 24 ≤ a ∧ a ≤ 26 ∧ 60 * k ≤ b ∧ b < 60 * k + l.length then (match l[b - 60 * k]? with | some w => wV a w | none => 0) else I a b
theorem rowP_nil (I : Nat → Nat → Int32) (k : Nat) : rowP I k [] = I := by
  funext a b
  unfold rowP
  rw [if_neg (by simp)]
theorem rowP_snoc (I : Nat → Nat → Int32) (k : Nat) (l : List Wd) (w : Wd) : zU (zU (zU (rowP I k l) 24 (60 * k + l.length) (nI w.1)) 25 (60 * k + l.length) w.2.1) 26 (60 * k + l.length) w.2.2 = rowP I k (l ++ [w]) := by
  funext a b
  have hlen : (l ++ [w]).length = l.length + 1 := by simp
  by_cases hb : 24 ≤ a ∧ a ≤ 26 ∧ b = 60 * k + l.length
  · obtain ⟨h1, h2, rfl⟩ := hb
    have hr : rowP I k (l ++ [w]) a (60 * k + l.length) = wV a w := by
      unfold rowP
      rw [if_pos (by rw [hlen]; omega), Nat.add_sub_cancel_left, List.getElem?_append_right (Nat.le_refl _), Nat.sub_self]
      rfl
    rw [hr]
    rcases (show a = 24 ∨ a = 25 ∨ a = 26 by omega) with rfl | rfl | rfl <;> simp [zU, wV]
  · rw [zU_n _ _ _ _ _ _ (by omega), zU_n _ _ _ _ _ _ (by omega), zU_n _ _ _ _ _ _ (by omega)]
    unfold rowP
    by_cases hc : 24 ≤ a ∧ a ≤ 26 ∧ 60 * k ≤ b ∧ b < 60 * k + l.length
    · rw [if_pos hc, if_pos (by rw [hlen]; omega), List.getElem?_append_left (by omega)]
    · rw [if_neg hc, if_neg (by rw [hlen]; omega)]
/-- words cut to ints -/
def cutW (c : Nat × Int64 × Int64) : Wd := (c.1, c.2.1.toInt32, c.2.2.toInt32)
theorem putSum_ok (I : Nat → Nat → Int32) (J : Nat → Nat → Int64) (f g : Nat → Int64) (k : Nat) (hk : k < 5) (hl : (nz f g 65536).length ≤ 60) : gX12_putSum (mH I (wJ J f g)) 0 (nI k) = some (nI (nz f g 65536).length, mH (zU (rowP I k ((nz f g 65536).map cutW)) 23 k (nI (nz f g 65536).length)) (wJ J f g)) := by
  unfold gX12_putSum
  rw [zjn_]
  have hh := zlp_it (R := Option (Int32 × Zh)) (z := fun (_ : Int32) (_ : Int32) (_ : Zh) => (none : Option (Int32 × Zh))) (F := gX12_putSum_L4 0 (nI k) (gX12_putSum_J1 0 (nI k))) (fun i (F : Int32 → Int32 → Zh → Option (Int32 × Zh)) => F (nI (nz f g i).length) (nI i) (mH (rowP I k ((nz f g i).map cutW)) (wJ J f g))) (some (nI (nz f g 65536).length, mH (zU (rowP I k ((nz f g 65536).map cutW)) 23 k (nI (nz f g 65536).length)) (wJ J f g))) 65536 ?_ ?_ zFU (by unfold zFU; omega)
  · rw [show nz f g 0 = [] from rfl, List.map_nil, rowP_nil] at hh
    exact hh
  · intro i hi r
    show gX12_putSum_L4 0 (nI k) (gX12_putSum_J1 0 (nI k)) r (nI (nz f g i).length) (nI i) (mH (rowP I k ((nz f g i).map cutW)) (wJ J f g)) = r (nI (nz f g (i + 1)).length) (nI (i + 1)) (mH (rowP I k ((nz f g (i + 1)).map cutW)) (wJ J f g))
    unfold gX12_putSum_L4
    rw [if_neg (show ¬ (65536 : Int32) ≤ nI i from zge_n (b := 65536) hi (by decide))]
    repeat (first | rw [mR_33] | rw [mR_34] | rw [min_ (mL_27 _ _) hi (by omega)] | rw [min_ (mL_28 _ _) hi (by omega)] | rw [zx_nI (show i < 2 ^ 31 by omega)] | rw [mJ_] | rw [wJ_27] | rw [wJ_28] | rw [zlt_] | rw [zjn_] | rw [zob_s] | rw [zg_1] | rw [zbi_s] | rw [zbI_s] | rw [zbr_s] | rw [zbR_s] | rw [zbV_s] | rw [zbj_s] | rw [zbJ_s] | rw [zcs_s] | rw [zcs_n])
    have ec1 := cmp0 (f i)
    have ec2 := cmp0 (g i)
    have hnz : ¬ (f i = 0 ∧ g i = 0) → gX12_putSum_J3 0 (nI k) (nI (nz f g i).length) (nI i) (mH (rowP I k ((nz f g i).map cutW)) (wJ J f g)) (gX12_putSum_J2 (nI i) r) = r (nI (nz f g (i + 1)).length) (nI (i + 1)) (mH (rowP I k ((nz f g (i + 1)).map cutW)) (wJ J f g)) := by
      intro hn
      have he : nz f g (i + 1) = nz f g i ++ [(i, f i, g i)] := if_neg hn
      have hlen : (nz f g i).length + 1 ≤ 60 := by
        have h1 := nz_mono f g 65536 (i + 1) hi
        rw [he, List.length_append] at h1
        simp at h1
        omega
      have e60 : (60 : Int32) * nI k + nI (nz f g i).length = nI (60 * k + (nz f g i).length) := by rw [nI_o 60, pk_mul, nI_add]
      unfold gX12_putSum_J3
      repeat (first | rw [e60] | rw [mR_30] | rw [mR_31] | rw [mR_32] | rw [mR_33] | rw [mR_34] | rw [min_ (mL_24 _ _) (show 60 * k + (nz f g i).length < 300 by omega) (by omega)] | rw [min_ (mL_25 _ _) (show 60 * k + (nz f g i).length < 300 by omega) (by omega)] | rw [min_ (mL_26 _ _) (show 60 * k + (nz f g i).length < 300 by omega) (by omega)] | rw [min_ (mL_27 _ _) hi (by omega)] | rw [min_ (mL_28 _ _) hi (by omega)] | rw [zx_nI (show i < 2 ^ 31 by omega)] | rw [zx_nI (show 60 * k + (nz f g i).length < 2 ^ 31 by omega)] | rw [mJ_] | rw [wJ_27] | rw [wJ_28] | rw [msI] | rw [zlt_] | rw [zjn_] | rw [zob_s] | rw [zg_1] | rw [zbi_s] | rw [zbI_s] | rw [zbr_s] | rw [zbR_s] | rw [zbV_s] | rw [zbj_s] | rw [zbJ_s] | rw [zcs_s] | rw [zcs_n])
      unfold gX12_putSum_J2
      have hs := rowP_snoc I k ((nz f g i).map cutW) (i, (f i).toInt32, (g i).toInt32)
      rw [List.length_map] at hs
      rw [he, List.map_append, List.length_append, ← nI_sc, ← nI_sc]
      show r _ _ (mH (zU (zU (zU (rowP I k ((nz f g i).map cutW)) 24 (60 * k + (nz f g i).length) (nI i)) 25 (60 * k + (nz f g i).length) (f i).toInt32) 26 (60 * k + (nz f g i).length) (g i).toInt32) (wJ J f g)) = _
      rw [hs]
      rfl
    by_cases h1 : f i = 0
    · rw [if_pos (ec1.mpr h1)]
      by_cases h2 : g i = 0
      · rw [if_pos (ec2.mpr h2), show nz f g (i + 1) = nz f g i from if_pos ⟨h1, h2⟩, nI_sc]
        rfl
      · rw [if_neg (fun h => h2 (ec2.mp h)), hnz (fun h => h2 h.2)]
    · rw [if_neg (fun h => h1 (ec1.mp h)), hnz (fun h => h1 h.1)]
  · intro r
    show gX12_putSum_L4 0 (nI k) (gX12_putSum_J1 0 (nI k)) r _ (nI 65536) _ = _
    unfold gX12_putSum_L4
    rw [if_pos (show (65536 : Int32) ≤ nI 65536 from Int32.le_refl _)]
    unfold gX12_putSum_J1
    repeat (first | rw [mR_29] | rw [min_ (mL_23 _ _) hk (by omega)] | rw [zx_nI (show k < 2 ^ 31 by omega)] | rw [msI] | rw [zlt_] | rw [zjn_] | rw [zob_s] | rw [zg_1] | rw [zbi_s] | rw [zbI_s] | rw [zbr_s] | rw [zbR_s] | rw [zbV_s] | rw [zbj_s] | rw [zbJ_s] | rw [zcs_s] | rw [zcs_n])
