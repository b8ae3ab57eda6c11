/-! rows of the reference: whole rows set; its snaps -/
def zW {α : Type} (f : Nat → Nat → α) (a : Nat) (g : Nat → α) : Nat → Nat → α := fun x => if x = a then g else f x
theorem zW_e {α : Type} (f : Nat → Nat → α) (a : Nat) (g : Nat → α) : zW f a g a = g := by simp [zW]
theorem zW_n {α : Type} (f : Nat → Nat → α) (a : Nat) (g : Nat → α) (x : Nat) (h : x ≠ a) : zW f a g x = f x := by simp [zW, h]
theorem zW_self {α : Type} (f : Nat → Nat → α) (a : Nat) : zW f a (f a) = f := by
  funext x
  by_cases h : x = a
  · subst h; simp [zW]
  · simp [zW, h]
theorem zU_W {α : Type} (f : Nat → Nat → α) (a k : Nat) (v : α) : zU f a k v = zW f a (fun b => if b = k then v else f a b) := by
  funext x b
  by_cases h : x = a
  · subst h
    by_cases hb : b = k <;> simp [zU, zW, hb]
  · simp [zU, zW, h]
theorem zU_WW {α : Type} (f : Nat → Nat → α) (a k : Nat) (v : α) (g g' : Nat → α) (h : ∀ b, g' b = if b = k then v else g b) : zU (zW f a g) a k v = zW f a g' := by
  funext x b
  by_cases hx : x = a
  · subst hx
    rw [show zW f x g' x b = g' b by simp [zW], h b]
    by_cases hb : b = k <;> simp [zU, zW, hb]
  · simp [zU, zW, hx]
theorem zW_W {α : Type} (f : Nat → Nat → α) (a : Nat) (g g' : Nat → α) : zW (zW f a g) a g' = zW f a g' := by
  funext x
  by_cases h : x = a <;> simp [zW, h]
theorem zW_c {α : Type} (f : Nat → Nat → α) (a b : Nat) (g g' : Nat → α) (h : a ≠ b) : zW (zW f a g) b g' = zW (zW f b g') a g := by
  funext x
  by_cases h1 : x = a
  · subst h1; simp [zW, h]
  · by_cases h2 : x = b
    · subst h2; simp [zW, h1]
    · simp [zW, h1, h2]
/-- what a snap holds at place r -/
def mrec (I : Nat → Nat → Int32) (r : Nat) : Int32 := if r = 0 then I 0 1 else if r = 1 then (if I 0 2 = 0 then 0 else 1) else if r = 2 then I 0 3 else if r = 3 then I 0 4 else if r < 8 then I 23 (r - 4) else I (24 + (r - 8) % 3) (60 * ((r - 8) / 180) + (r - 8) % 180 / 3)
/-- the snaps when the first k counts and m numbers of snap t are laid -/
def mrow (I : Nat → Nat → Int32) (t k m : Nat) : Nat → Int32 := fun j => if 728 * t ≤ j ∧ (j - 728 * t < 4 + k ∨ (8 ≤ j - 728 * t ∧ j - 728 * t < 8 + m)) then mrec I (j - 728 * t) else I 29 j
theorem mrow_k (I : Nat → Nat → Int32) (t k m : Nat) (hk : k < 4) (v : Int32) (hv : v = I 23 k) : zU (zW I 29 (mrow I t k m)) 29 (728 * t + 4 + k) v = zW I 29 (mrow I t (k + 1) m) := by
  apply zU_WW
  intro b
  unfold mrow
  by_cases hb : b = 728 * t + 4 + k
  · subst hb
    rw [if_pos (by omega), if_pos rfl]
    have : 728 * t + 4 + k - 728 * t = 4 + k := by omega
    rw [this]
    unfold mrec
    rw [if_neg (by omega), if_neg (by omega), if_neg (by omega), if_neg (by omega), if_pos (by omega), show 4 + k - 4 = k by omega, hv]
  · rw [if_neg hb]
    by_cases h : 728 * t ≤ b ∧ (b - 728 * t < 4 + k ∨ (8 ≤ b - 728 * t ∧ b - 728 * t < 8 + m))
    · rw [if_pos h, if_pos (by omega)]
    · rw [if_neg h, if_neg (by omega)]
theorem mrow_m (I : Nat → Nat → Int32) (t k m : Nat) (hk : k ≤ 4) (v : Int32) (hv : v = mrec I (8 + m)) : zU (zW I 29 (mrow I t k m)) 29 (728 * t + 8 + m) v = zW I 29 (mrow I t k (m + 1)) := by
  apply zU_WW
  intro b
  unfold mrow
  by_cases hb : b = 728 * t + 8 + m
  · subst hb
    rw [if_pos (by omega), if_pos rfl, show 728 * t + 8 + m - 728 * t = 8 + m by omega, hv]
  · rw [if_neg hb]
    by_cases h : 728 * t ≤ b ∧ (b - 728 * t < 4 + k ∨ (8 ≤ b - 728 * t ∧ b - 728 * t < 8 + m))
    · rw [if_pos h, if_pos (by omega)]
    · rw [if_neg h, if_neg (by omega)]
theorem mrec_m (I : Nat → Nat → Int32) (k i c : Nat) (hi : i < 60) (hc : c < 3) : mrec I (8 + (180 * k + 3 * i + c)) = I (24 + c) (60 * k + i) := by
  unfold mrec
  rw [if_neg (by omega), if_neg (by omega), if_neg (by omega), if_neg (by omega), if_neg (by omega)]
  have e0 : 8 + (180 * k + 3 * i + c) - 8 = 180 * k + 3 * i + c := by omega
  rw [e0, show (180 * k + 3 * i + c) % 3 = c by omega, show (180 * k + 3 * i + c) / 180 = k by omega, show (180 * k + 3 * i + c) % 180 / 3 = i by omega]
theorem mrow_0 (I : Nat → Nat → Int32) (t : Nat) : zU (zU (zU (zU I 29 (728 * t) (I 0 1)) 29 (728 * t + 1) (if I 0 2 = 0 then 0 else 1)) 29 (728 * t + 2) (I 0 3)) 29 (728 * t + 3) (I 0 4) = zW I 29 (mrow I t 0 0) := by
  funext x b
  by_cases hx : x = 29
  · subst hx
    rw [zW_e]
    unfold mrow zU
    by_cases h : 728 * t ≤ b ∧ b - 728 * t < 4
    · rw [if_pos (show 728 * t ≤ b ∧ (b - 728 * t < 4 + 0 ∨ (8 ≤ b - 728 * t ∧ b - 728 * t < 8 + 0)) by omega)]
      rcases (show b = 728 * t ∨ b = 728 * t + 1 ∨ b = 728 * t + 2 ∨ b = 728 * t + 3 by omega) with rfl | rfl | rfl | rfl
      · rw [if_neg (by omega), if_neg (by omega), if_neg (by omega), if_pos ⟨rfl, rfl⟩, Nat.sub_self]; rfl
      · rw [if_neg (by omega), if_neg (by omega), if_pos ⟨rfl, rfl⟩, show 728 * t + 1 - 728 * t = 1 by omega]; rfl
      · rw [if_neg (by omega), if_pos ⟨rfl, rfl⟩, show 728 * t + 2 - 728 * t = 2 by omega]; rfl
      · rw [if_pos ⟨rfl, rfl⟩, show 728 * t + 3 - 728 * t = 3 by omega]; rfl
    · rw [if_neg (by omega), if_neg (by omega), if_neg (by omega), if_neg (by omega), if_neg (by omega)]
  · rw [zW_n _ _ _ _ hx]
    unfold zU
    rw [if_neg (fun h => hx h.1), if_neg (fun h => hx h.1), if_neg (fun h => hx h.1), if_neg (fun h => hx h.1)]
def mkeep (I : Nat → Nat → Int32) (t : Nat) : Nat → Nat → Int32 := zU (zW I 29 (mrow I t 4 720)) 0 36 (nI (t + 1))
theorem zg_1 {α : Type} (g : Option α) : zg true g = g := rfl
theorem min_ {I : Nat → Nat → Int32} {J : Nat → Nat → Int64} {a n c : Nat} (hl : zL (mH I J) a = n) (hc : c < n) (hb : n < 2 ^ 31) : zin (nI c) (zL (mH I J) a) = true := by rw [hl]; exact zin_nI hc (by omega)
theorem zge_n {a b : Nat} (h : a < b) (hb : b < 2147483648) : ¬ nI b ≤ nI a := by rw [Int32.not_le]; exact nI_lt h (by omega)
theorem keepSnap_in (I : Nat → Nat → Int32) (J : Nat → Nat → Int64) (t k : Nat) (ht : t ≤ 20) (hk : k < 4) (K : Zh → Option Zh) : zlp (fun (_ : Int32) (_ : Zh) => (none : Option (Zh))) (gX12_keepSnap_L3 0 (nI (728 * t)) (nI k) K) zFU 0 (mH (zW I 29 (mrow I t (k + 1) (180 * k))) J) = K (mH (zW I 29 (mrow I t (k + 1) (180 * (k + 1)))) J) := by
  refine zlp_it (R := Option Zh) (fun i (F : Int32 → Zh → Option Zh) => F (nI i) (mH (zW I 29 (mrow I t (k + 1) (180 * k + 3 * i))) J)) _ 60 ?_ ?_ zFU (by unfold zFU; omega)
  · intro i hi r
    show gX12_keepSnap_L3 0 (nI (728 * t)) (nI k) K r (nI i) (mH (zW I 29 (mrow I t (k + 1) (180 * k + 3 * i))) J) = r (nI (i + 1)) (mH (zW I 29 (mrow I t (k + 1) (180 * k + 3 * (i + 1)))) J)
    unfold gX12_keepSnap_L3
    have e1 : ((nI (728 * t) + 8) + 180 * nI k) + 3 * nI i = nI (728 * t + 8 + (180 * k + 3 * i)) := by rw [nI_o 8, nI_o 180, nI_o 3, pk_mul, pk_mul, nI_add, nI_add, nI_add]; congr 1; omega
    have e2 : (60 * nI k) + nI i = nI (60 * k + i) := by rw [nI_o 60, pk_mul, nI_add]
    have e3 : nI (728 * t + 8 + (180 * k + 3 * i)) + 1 = nI (728 * t + 8 + (180 * k + 3 * i + 1)) := by rw [nI_o 1, nI_add]; rfl
    have e4 : nI (728 * t + 8 + (180 * k + 3 * i)) + 2 = nI (728 * t + 8 + (180 * k + 3 * i + 2)) := by rw [nI_o 2, nI_add]; rfl
    have ei : nI i + 1 = nI (i + 1) := (nI_sc i).symm
    have hle : ¬ (60 : Int32) ≤ nI i := zge_n (b := 60) hi (by decide)
    have x1 : zx (nI (60 * k + i)) = 60 * k + i := zx_nI (by omega)
    have x2 : ∀ c, c < 3 → zx (nI (728 * t + 8 + (180 * k + 3 * i + c))) = 728 * t + 8 + (180 * k + 3 * i + c) := fun c hc => zx_nI (by omega)
    have x20 : zx (nI (728 * t + 8 + (180 * k + 3 * i))) = 728 * t + 8 + (180 * k + 3 * i) := zx_nI (by omega)
    rw [if_neg hle]
    repeat (first | rw [e1] | rw [e2] | rw [e3] | rw [e4] | rw [mR_35] | rw [mR_30] | rw [mR_31] | rw [mR_32] | rw [min_ (mL_29 _ _) (show 728 * t + 8 + (180 * k + 3 * i) < 15288 by omega) (by omega)] | rw [min_ (mL_29 _ _) (show 728 * t + 8 + (180 * k + 3 * i + 1) < 15288 by omega) (by omega)] | rw [min_ (mL_29 _ _) (show 728 * t + 8 + (180 * k + 3 * i + 2) < 15288 by omega) (by omega)] | rw [min_ (mL_24 _ _) (show 60 * k + i < 300 by omega) (by omega)] | rw [min_ (mL_25 _ _) (show 60 * k + i < 300 by omega) (by omega)] | rw [min_ (mL_26 _ _) (show 60 * k + i < 300 by omega) (by omega)] | rw [msI] | rw [x1] | rw [x20] | rw [x2 1 (by omega)] | rw [x2 2 (by omega)] | rw [mI_] | rw [zlt_] | rw [zjn_] | rw [zob_s] | rw [zg_1] | rw [zbi_s] | rw [zbI_s] | rw [zbr_s] | rw [zbR_s] | rw [zbV_s] | rw [zbj_s] | rw [zbJ_s] | rw [zcs_s] | rw [zcs_n])
    rw [mrow_m I t (k + 1) (180 * k + 3 * i) (by omega) _ ?_, mrow_m I t (k + 1) (180 * k + 3 * i + 1) (by omega) _ ?_, mrow_m I t (k + 1) (180 * k + 3 * i + 2) (by omega) _ ?_, ei]
    · congr 1
    · rw [zW_n _ _ _ _ (by decide)]
      exact (mrec_m I k i 2 (by omega) (by omega)).symm
    · rw [zW_n _ _ _ _ (by decide)]
      exact (mrec_m I k i 1 (by omega) (by omega)).symm
    · rw [zW_n _ _ _ _ (by decide)]
      exact (mrec_m I k i 0 (by omega) (by omega)).symm
  · intro r
    show gX12_keepSnap_L3 0 (nI (728 * t)) (nI k) K r (nI 60) (mH (zW I 29 (mrow I t (k + 1) (180 * k + 3 * 60))) J) = _
    unfold gX12_keepSnap_L3
    rw [if_pos (show (60 : Int32) ≤ nI 60 from Int32.le_refl _)]
    rfl
theorem keepSnap_out (I : Nat → Nat → Int32) (J : Nat → Nat → Int64) (t : Nat) (ht : t ≤ 20) (K : Zh → Option Zh) : zlp (fun (_ : Int32) (_ : Zh) => (none : Option (Zh))) (gX12_keepSnap_L4 0 (nI (728 * t)) K) zFU 0 (mH (zW I 29 (mrow I t 0 0)) J) = K (mH (zW I 29 (mrow I t 4 720)) J) := by
  refine zlp_it (R := Option Zh) (fun k (F : Int32 → Zh → Option Zh) => F (nI k) (mH (zW I 29 (mrow I t k (180 * k))) J)) _ 4 ?_ ?_ zFU (by unfold zFU; omega)
  · intro k hk r
    show gX12_keepSnap_L4 0 (nI (728 * t)) K r (nI k) (mH (zW I 29 (mrow I t k (180 * k))) J) = r (nI (k + 1)) (mH (zW I 29 (mrow I t (k + 1) (180 * (k + 1)))) J)
    unfold gX12_keepSnap_L4
    have e1 : (nI (728 * t) + 4) + nI k = nI (728 * t + 4 + k) := by rw [nI_o 4, nI_add, nI_add]
    have hle : ¬ (4 : Int32) ≤ nI k := zge_n (b := 4) hk (by decide)
    have x1 : zx (nI (728 * t + 4 + k)) = 728 * t + 4 + k := zx_nI (by omega)
    have x2 : zx (nI k) = k := zx_nI (by omega)
    rw [if_neg hle]
    repeat (first | rw [e1] | rw [mR_35] | rw [mR_29] | rw [min_ (mL_29 _ _) (show 728 * t + 4 + k < 15288 by omega) (by omega)] | rw [min_ (mL_23 _ _) (show k < 5 by omega) (by omega)] | rw [msI] | rw [x1] | rw [x2] | rw [mI_] | rw [zlt_] | rw [zjn_] | rw [zob_s] | rw [zg_1] | rw [zbi_s] | rw [zbI_s] | rw [zbr_s] | rw [zbR_s] | rw [zbV_s] | rw [zbj_s] | rw [zbJ_s] | rw [zcs_s] | rw [zcs_n])
    rw [mrow_k I t k (180 * k) hk _ ?_, keepSnap_in I J t k ht hk]
    · unfold gX12_keepSnap_J2
      rw [← nI_sc]
    · rw [zW_n _ _ _ _ (by decide)]
  · intro r
    show gX12_keepSnap_L4 0 (nI (728 * t)) K r (nI 4) (mH (zW I 29 (mrow I t 4 (180 * 4))) J) = _
    unfold gX12_keepSnap_L4
    rw [if_pos (show (4 : Int32) ≤ nI 4 from Int32.le_refl _)]
theorem keepSnap_ok (I : Nat → Nat → Int32) (J : Nat → Nat → Int64) (t : Nat) (ht : t ≤ 20) (hI : I 0 37 = nI t) : gX12_keepSnap (mH I J) 0 = some (mH (mkeep I t) J) := by
  have e0 : (728 : Int32) * nI t = nI (728 * t) := by rw [nI_o 728, pk_mul]
  have e1 : nI (728 * t) + 1 = nI (728 * t + 1) := (nI_sc _).symm
  have e2 : nI (728 * t) + 2 = nI (728 * t + 2) := by rw [nI_o 2, nI_add]
  have e3 : nI (728 * t) + 3 = nI (728 * t + 3) := by rw [nI_o 3, nI_add]
  have x0 : zx (nI (728 * t)) = 728 * t := zx_nI (by omega)
  have x1 : zx (nI (728 * t + 1)) = 728 * t + 1 := zx_nI (by omega)
  have x2 : zx (nI (728 * t + 2)) = 728 * t + 2 := zx_nI (by omega)
  have x3 : zx (nI (728 * t + 3)) = 728 * t + 3 := zx_nI (by omega)
  have hd : ∀ (v : Int32) (b : Nat) (I : Nat → Nat → Int32) (c : Nat), zU I 29 b v 0 c = I 0 c := fun v b I c => zU_n _ _ _ _ _ _ (fun h => absurd h.1 (by decide))
  unfold gX12_keepSnap
  repeat (first | rw [mI_] | rw [hI] | rw [e0] | rw [mR_35] | rw [min_ (mL_29 _ _) (show 728 * t < 15288 by omega) (by omega)] | rw [msI] | rw [x0] | rw [zlt_] | rw [zjn_] | rw [zob_s] | rw [zg_1] | rw [zbi_s] | rw [zbI_s] | rw [zbr_s] | rw [zbR_s] | rw [zbV_s] | rw [zbj_s] | rw [zbJ_s] | rw [zcs_s] | rw [zcs_n])
  rw [hd]
  have hj : ∀ (k : Int32 → Option Zh), (if I 0 2 = 0 then k 0 else k 1) = k (if I 0 2 = 0 then 0 else 1) := fun k => by split <;> rfl
  rw [hj]
  unfold gX12_keepSnap_J5
  repeat (first | rw [e1] | rw [e2] | rw [e3] | rw [mI_] | rw [mR_35] | rw [min_ (mL_29 _ _) (show 728 * t + 1 < 15288 by omega) (by omega)] | rw [min_ (mL_29 _ _) (show 728 * t + 2 < 15288 by omega) (by omega)] | rw [min_ (mL_29 _ _) (show 728 * t + 3 < 15288 by omega) (by omega)] | rw [msI] | rw [x1] | rw [x2] | rw [x3] | rw [hd] | rw [zlt_] | rw [zjn_] | rw [zob_s] | rw [zg_1] | rw [zbi_s] | rw [zbI_s] | rw [zbr_s] | rw [zbR_s] | rw [zbV_s] | rw [zbj_s] | rw [zbJ_s] | rw [zcs_s] | rw [zcs_n])
  rw [mrow_0, keepSnap_out I J t ht]
  unfold gX12_keepSnap_J1
  rw [zlt_, mI_, zW_n _ _ _ _ (by decide), hI, msI, ← nI_sc]
  rfl
theorem zU_g {α : Type} {f g : Nat → Nat → α} {a n : Nat} {v : α} (h1 : ∀ x b, x ≠ a → g x b = f x b) (h2 : ∀ b, b ≠ n → g a b = f a b) (h3 : g a n = v) : zU f a n v = g := by
  funext x b
  by_cases hx : x = a
  · subst hx
    by_cases hb : b = n
    · subst hb; rw [zU_e, h3]
    · rw [zU_n _ _ _ _ _ _ (fun h => hb h.2), h2 b hb]
  · rw [zU_n _ _ _ _ _ _ (fun h => hx h.1), h1 x b hx]
def tk0 (I : Nat → Nat → Int32) (t b : Nat) : Int32 := if b = 1 then I 29 (728 * t) else if b = 2 then (if I 29 (728 * t + 1) = 1 then 1 else 0) else if b = 3 then I 29 (728 * t + 2) else if b = 4 then I 29 (728 * t + 3) else I 0 b
def tkp (t b c : Nat) : Nat := 728 * t + 8 + (180 * (b / 60) + 3 * (b % 60) + c)
/-- snap t taken: k counts, numbers of words below x, y, z in three rows -/
def tkr (I : Nat → Nat → Int32) (t k x y z : Nat) : Nat → Nat → Int32 := fun a b => if a = 0 then tk0 I t b else if a = 23 then (if b < k then I 29 (728 * t + 4 + b) else I 23 b) else if a = 24 then (if b < x then I 29 (tkp t b 0) else I 24 b) else if a = 25 then (if b < y then I 29 (tkp t b 1) else I 25 b) else if a = 26 then (if b < z then I 29 (tkp t b 2) else I 26 b) else I a b
theorem tkr_k (I : Nat → Nat → Int32) (t k x y z : Nat) : zU (tkr I t k x y z) 23 k (I 29 (728 * t + 4 + k)) = tkr I t (k + 1) x y z := by
  refine zU_g (fun a b ha => by simp [tkr, ha]) (fun b hb => ?_) (by simp [tkr])
  simp only [tkr, if_neg (show ¬ 23 = 0 by decide), if_true]
  by_cases h : b < k
  · rw [if_pos h, if_pos (by omega)]
  · rw [if_neg h, if_neg (by omega)]
theorem tkr_x (I : Nat → Nat → Int32) (t k x y z : Nat) : zU (tkr I t k x y z) 24 x (I 29 (tkp t x 0)) = tkr I t k (x + 1) y z := by
  refine zU_g (fun a b ha => by simp [tkr, ha]) (fun b hb => ?_) (by simp [tkr])
  simp only [tkr, if_neg (show ¬ 24 = 0 by decide), if_neg (show ¬ 24 = 23 by decide), if_true]
  by_cases h : b < x
  · rw [if_pos h, if_pos (by omega)]
  · rw [if_neg h, if_neg (by omega)]
theorem tkr_y (I : Nat → Nat → Int32) (t k x y z : Nat) : zU (tkr I t k x y z) 25 y (I 29 (tkp t y 1)) = tkr I t k x (y + 1) z := by
  refine zU_g (fun a b ha => by simp [tkr, ha]) (fun b hb => ?_) (by simp [tkr])
  simp only [tkr, if_neg (show ¬ 25 = 0 by decide), if_neg (show ¬ 25 = 23 by decide), if_neg (show ¬ 25 = 24 by decide), if_true]
  by_cases h : b < y
  · rw [if_pos h, if_pos (by omega)]
  · rw [if_neg h, if_neg (by omega)]
theorem tkr_z (I : Nat → Nat → Int32) (t k x y z : Nat) : zU (tkr I t k x y z) 26 z (I 29 (tkp t z 2)) = tkr I t k x y (z + 1) := by
  refine zU_g (fun a b ha => by simp [tkr, ha]) (fun b hb => ?_) (by simp [tkr])
  simp only [tkr, if_neg (show ¬ 26 = 0 by decide), if_neg (show ¬ 26 = 23 by decide), if_neg (show ¬ 26 = 24 by decide), if_neg (show ¬ 26 = 25 by decide), if_true]
  by_cases h : b < z
  · rw [if_pos h, if_pos (by omega)]
  · rw [if_neg h, if_neg (by omega)]
theorem tkr_29 (I : Nat → Nat → Int32) (t k x y z b : Nat) : tkr I t k x y z 29 b = I 29 b := by simp [tkr]
theorem takeSnap_in (I : Nat → Nat → Int32) (J : Nat → Nat → Int64) (t k : Nat) (ht : t ≤ 20) (hk : k < 4) (K : Zh → Option Zh) : zlp (fun (_ : Int32) (_ : Zh) => (none : Option (Zh))) (gX12_takeSnap_L2 0 (nI (728 * t)) (nI k) K) zFU 0 (mH (tkr I t (k + 1) (60 * k) (60 * k) (60 * k)) J) = K (mH (tkr I t (k + 1) (60 * (k + 1)) (60 * (k + 1)) (60 * (k + 1))) J) := by
  refine zlp_it (R := Option Zh) (fun i (F : Int32 → Zh → Option Zh) => F (nI i) (mH (tkr I t (k + 1) (60 * k + i) (60 * k + i) (60 * k + i)) J)) _ 60 ?_ ?_ zFU (by unfold zFU; omega)
  · intro i hi r
    show gX12_takeSnap_L2 0 (nI (728 * t)) (nI k) K r (nI i) (mH (tkr I t (k + 1) (60 * k + i) (60 * k + i) (60 * k + i)) J) = r (nI (i + 1)) (mH (tkr I t (k + 1) (60 * k + i + 1) (60 * k + i + 1) (60 * k + i + 1)) J)
    unfold gX12_takeSnap_L2
    have hp : ∀ c, tkp t (60 * k + i) c = 728 * t + 8 + (180 * k + 3 * i + c) := fun c => by
      unfold tkp
      rw [show (60 * k + i) / 60 = k by omega, show (60 * k + i) % 60 = i by omega]
    have e1 : ((nI (728 * t) + 8) + 180 * nI k) + 3 * nI i = nI (tkp t (60 * k + i) 0) := by rw [hp, nI_o 8, nI_o 180, nI_o 3, pk_mul, pk_mul, nI_add, nI_add, nI_add]; congr 1; omega
    have e2 : (60 * nI k) + nI i = nI (60 * k + i) := by rw [nI_o 60, pk_mul, nI_add]
    have e3 : nI (tkp t (60 * k + i) 0) + 1 = nI (tkp t (60 * k + i) 1) := by rw [hp, hp, nI_o 1, nI_add]; rfl
    have e4 : nI (tkp t (60 * k + i) 0) + 2 = nI (tkp t (60 * k + i) 2) := by rw [hp, hp, nI_o 2, nI_add]; rfl
    have ei : nI i + 1 = nI (i + 1) := (nI_sc i).symm
    have hle : ¬ (60 : Int32) ≤ nI i := zge_n (b := 60) hi (by decide)
    have x1 : zx (nI (60 * k + i)) = 60 * k + i := zx_nI (by omega)
    have hb : ∀ c, c < 3 → tkp t (60 * k + i) c < 15288 := fun c hc => by rw [hp]; omega
    have b0 := hb 0 (by omega)
    have b1 := hb 1 (by omega)
    have b2 := hb 2 (by omega)
    have x20 : zx (nI (tkp t (60 * k + i) 0)) = tkp t (60 * k + i) 0 := zx_nI (by omega)
    have x21 : zx (nI (tkp t (60 * k + i) 1)) = tkp t (60 * k + i) 1 := zx_nI (by omega)
    have x22 : zx (nI (tkp t (60 * k + i) 2)) = tkp t (60 * k + i) 2 := zx_nI (by omega)
    rw [if_neg hle]
    repeat (first | rw [e1] | rw [e2] | rw [e3] | rw [e4] | rw [mR_35] | rw [mR_30] | rw [mR_31] | rw [mR_32] | rw [min_ (mL_29 _ _) b0 (by omega)] | rw [min_ (mL_29 _ _) b1 (by omega)] | rw [min_ (mL_29 _ _) b2 (by omega)] | rw [min_ (mL_24 _ _) (show 60 * k + i < 300 by omega) (by omega)] | rw [min_ (mL_25 _ _) (show 60 * k + i < 300 by omega) (by omega)] | rw [min_ (mL_26 _ _) (show 60 * k + i < 300 by omega) (by omega)] | rw [msI] | rw [x1] | rw [x20] | rw [x21] | rw [x22] | rw [mI_] | rw [tkr_29] | rw [tkr_x] | rw [tkr_y] | rw [tkr_z] | rw [ei] | rw [zlt_] | rw [zjn_] | rw [zob_s] | rw [zg_1] | rw [zbi_s] | rw [zbI_s] | rw [zbr_s] | rw [zbR_s] | rw [zbV_s] | rw [zbj_s] | rw [zbJ_s] | rw [zcs_s] | rw [zcs_n])
  · intro r
    show gX12_takeSnap_L2 0 (nI (728 * t)) (nI k) K r (nI 60) (mH (tkr I t (k + 1) (60 * k + 60) (60 * k + 60) (60 * k + 60)) J) = _
    unfold gX12_takeSnap_L2
    rw [if_pos (show (60 : Int32) ≤ nI 60 from Int32.le_refl _)]
    rfl
def mtake (I : Nat → Nat → Int32) (t : Nat) : Nat → Nat → Int32 := tkr I t 4 240 240 240
theorem takeSnap_out (I : Nat → Nat → Int32) (J : Nat → Nat → Int64) (t : Nat) (ht : t ≤ 20) : zlp (fun (_ : Int32) (_ : Zh) => (none : Option (Zh))) (gX12_takeSnap_L3 0 (nI (728 * t))) zFU 0 (mH (tkr I t 0 0 0 0) J) = some (mH (mtake I t) J) := by
  refine zlp_it (R := Option Zh) (fun k (F : Int32 → Zh → Option Zh) => F (nI k) (mH (tkr I t k (60 * k) (60 * k) (60 * k)) J)) _ 4 ?_ ?_ zFU (by unfold zFU; omega)
  · intro k hk r
    show gX12_takeSnap_L3 0 (nI (728 * t)) r (nI k) (mH (tkr I t k (60 * k) (60 * k) (60 * k)) J) = r (nI (k + 1)) (mH (tkr I t (k + 1) (60 * (k + 1)) (60 * (k + 1)) (60 * (k + 1))) J)
    unfold gX12_takeSnap_L3
    have e1 : (nI (728 * t) + 4) + nI k = nI (728 * t + 4 + k) := by rw [nI_o 4, nI_add, nI_add]
    have hle : ¬ (4 : Int32) ≤ nI k := zge_n (b := 4) hk (by decide)
    have x1 : zx (nI (728 * t + 4 + k)) = 728 * t + 4 + k := zx_nI (by omega)
    have x2 : zx (nI k) = k := zx_nI (by omega)
    rw [if_neg hle]
    repeat (first | rw [e1] | rw [mR_35] | rw [mR_29] | rw [min_ (mL_29 _ _) (show 728 * t + 4 + k < 15288 by omega) (by omega)] | rw [min_ (mL_23 _ _) (show k < 5 by omega) (by omega)] | rw [msI] | rw [x1] | rw [x2] | rw [mI_] | rw [tkr_29] | rw [tkr_k] | rw [zlt_] | rw [zjn_] | rw [zob_s] | rw [zg_1] | rw [zbi_s] | rw [zbI_s] | rw [zbr_s] | rw [zbR_s] | rw [zbV_s] | rw [zbj_s] | rw [zbJ_s] | rw [zcs_s] | rw [zcs_n])
    rw [takeSnap_in I J t k ht hk]
    unfold gX12_takeSnap_J1
    rw [← nI_sc]
  · intro r
    show gX12_takeSnap_L3 0 (nI (728 * t)) r (nI 4) (mH (tkr I t 4 (60 * 4) (60 * 4) (60 * 4)) J) = _
    unfold gX12_takeSnap_L3
    rw [if_pos (show (4 : Int32) ≤ nI 4 from Int32.le_refl _)]
    rfl
theorem takeSnap_ok (I : Nat → Nat → Int32) (J : Nat → Nat → Int64) (t : Nat) (ht : t ≤ 20) (hI : I 0 37 = nI t) : gX12_takeSnap (mH I J) 0 = some (mH (mtake I t) J) := by
  have e0 : (728 : Int32) * nI t = nI (728 * t) := by rw [nI_o 728, pk_mul]
  have e1 : nI (728 * t) + 1 = nI (728 * t + 1) := (nI_sc _).symm
  have e2 : nI (728 * t) + 2 = nI (728 * t + 2) := by rw [nI_o 2, nI_add]
  have e3 : nI (728 * t) + 3 = nI (728 * t + 3) := by rw [nI_o 3, nI_add]
  have x0 : zx (nI (728 * t)) = 728 * t := zx_nI (by omega)
  have x1 : zx (nI (728 * t + 1)) = 728 * t + 1 := zx_nI (by omega)
  have x2 : zx (nI (728 * t + 2)) = 728 * t + 2 := zx_nI (by omega)
  have x3 : zx (nI (728 * t + 3)) = 728 * t + 3 := zx_nI (by omega)
  have hd : ∀ (v : Int32) (b : Nat) (I : Nat → Nat → Int32) (c : Nat), zU I 0 b v 29 c = I 29 c := fun v b I c => zU_n _ _ _ _ _ _ (fun h => absurd h.1 (by decide))
  unfold gX12_takeSnap
  repeat (first | rw [mI_] | rw [hI] | rw [e0] | rw [e1] | rw [mR_35] | rw [min_ (mL_29 _ _) (show 728 * t < 15288 by omega) (by omega)] | rw [min_ (mL_29 _ _) (show 728 * t + 1 < 15288 by omega) (by omega)] | rw [msI] | rw [x0] | rw [x1] | rw [hd] | rw [zlt_] | rw [zjn_] | rw [zob_s] | rw [zg_1] | rw [zbi_s] | rw [zbI_s] | rw [zbr_s] | rw [zbR_s] | rw [zbV_s] | rw [zbj_s] | rw [zbJ_s] | rw [zcs_s] | rw [zcs_n])
  have hj : ∀ (k : Int32 → Option Zh), (if I 29 (728 * t + 1) = 1 then k 1 else k 0) = k (if I 29 (728 * t + 1) = 1 then 1 else 0) := fun k => by split <;> rfl
  rw [hj]
  have hbl : zbl (if I 29 (728 * t + 1) = 1 then 1 else 0) = true := by split <;> rfl
  unfold gX12_takeSnap_J4
  repeat (first | rw [hbl] | rw [e1] | rw [e2] | rw [e3] | rw [mI_] | rw [mR_35] | rw [min_ (mL_29 _ _) (show 728 * t + 2 < 15288 by omega) (by omega)] | rw [min_ (mL_29 _ _) (show 728 * t + 3 < 15288 by omega) (by omega)] | rw [msI] | rw [x1] | rw [x2] | rw [x3] | rw [hd] | rw [zlt_] | rw [zjn_] | rw [zob_s] | rw [zg_1] | rw [zbi_s] | rw [zbI_s] | rw [zbr_s] | rw [zbR_s] | rw [zbV_s] | rw [zbj_s] | rw [zbJ_s] | rw [zcs_s] | rw [zcs_n])
  have hf : zU (zU (zU (zU I 0 1 (I 29 (728 * t))) 0 2 (if I 29 (728 * t + 1) = 1 then 1 else 0)) 0 3 (I 29 (728 * t + 2))) 0 4 (I 29 (728 * t + 3)) = tkr I t 0 0 0 0 := by
   funext a b
   by_cases ha : a = 0
   · subst ha
     simp only [tkr, tk0, zU, true_and, if_true]
     by_cases h1 : b = 1
     · subst h1; simp
     · by_cases h2 : b = 2
       · subst h2; simp
       · by_cases h3 : b = 3
         · subst h3; simp
         · by_cases h4 : b = 4
           · subst h4; simp
           · simp [h1, h2, h3, h4]
   · simp [tkr, zU, ha]
     repeat' split
     all_goals (first | rfl | (rename_i e; rw [e]))
  rw [hf]
  exact takeSnap_out I J t ht
/-- snaps moved: all below x hold what stood one further on -/
def mshf (I : Nat → Nat → Int32) (x : Nat) : Nat → Nat → Int32 := fun a b => if a = 29 ∧ b < x then I 29 (b + 728) else I a b
theorem mshf_0 (I : Nat → Nat → Int32) : mshf I 0 = I := by
  funext a b
  unfold mshf
  rw [if_neg (by omega)]
theorem mshf_s (I : Nat → Nat → Int32) (x : Nat) : zU (mshf I x) 29 x (I 29 (x + 728)) = mshf I (x + 1) := by
  refine zU_g (fun a b ha => ?_) (fun b hb => ?_) ?_
  · unfold mshf; rw [if_neg (fun h => ha h.1), if_neg (fun h => ha h.1)]
  · unfold mshf
    by_cases h : b < x
    · rw [if_pos ⟨rfl, by omega⟩, if_pos ⟨rfl, h⟩]
    · rw [if_neg (fun hh => by omega), if_neg (fun hh => h hh.2)]
  · unfold mshf; rw [if_pos ⟨rfl, by omega⟩]
def macted (I : Nat → Nat → Int32) (t : Nat) : Nat → Nat → Int32 := if t = 20 then mkeep (mshf I 14560) 20 else mkeep (zU I 0 37 (nI (t + 1))) (t + 1)
theorem acted_ok (I : Nat → Nat → Int32) (J : Nat → Nat → Int64) (t : Nat) (ht : t ≤ 20) (hI : I 0 37 = nI t) : gX12_acted (mH I J) 0 = some (mH (macted I t) J) := by
  unfold gX12_acted macted
  rw [zjn_, mI_, hI]
  by_cases h : t = 20
  · subst h
    rw [if_pos (show nI 20 = (20 : Int32) from rfl), if_pos rfl, zjn_]
    have hh := zlp_it (R := Option Zh) (z := fun (_ : Int32) (_ : Zh) => (none : Option (Zh))) (F := gX12_acted_L3 0 (gX12_acted_J2 (gX12_acted_J1 0))) (fun x (F : Int32 → Zh → Option Zh) => F (nI x) (mH (mshf I x) J)) (some (mH (mkeep (mshf I 14560) 20) J)) 14560 ?_ ?_ zFU (by unfold zFU; omega)
    · rw [mshf_0] at hh
      exact hh
    · intro x hx r
      show gX12_acted_L3 0 _ r (nI x) (mH (mshf I x) J) = r (nI (x + 1)) (mH (mshf I (x + 1)) J)
      unfold gX12_acted_L3
      have hle : ¬ (14560 : Int32) ≤ nI x := zge_n (b := 14560) hx (by decide)
      have e1 : nI x + 728 = nI (x + 728) := by rw [nI_o 728, nI_add]
      have x1 : zx (nI x) = x := zx_nI (by omega)
      have x2 : zx (nI (x + 728)) = x + 728 := zx_nI (by omega)
      have hr : mshf I x 29 (x + 728) = I 29 (x + 728) := by unfold mshf; rw [if_neg (fun hh => by omega)]
      rw [if_neg hle]
      repeat (first | rw [e1] | rw [mR_35] | rw [min_ (mL_29 _ _) (show x + 728 < 15288 by omega) (by omega)] | rw [min_ (mL_29 _ _) (show x < 15288 by omega) (by omega)] | rw [msI] | rw [x1] | rw [x2] | rw [mI_] | rw [hr] | rw [mshf_s] | rw [← nI_sc] | rw [zlt_] | rw [zjn_] | rw [zob_s] | rw [zg_1] | rw [zbi_s] | rw [zbI_s] | rw [zbr_s] | rw [zbR_s] | rw [zbV_s] | rw [zbj_s] | rw [zbJ_s] | rw [zcs_s] | rw [zcs_n])
    · intro r
      show gX12_acted_L3 0 _ r (nI 14560) (mH (mshf I 14560) J) = _
      unfold gX12_acted_L3
      rw [if_pos (show (14560 : Int32) ≤ nI 14560 from Int32.le_refl _)]
      unfold gX12_acted_J2 gX12_acted_J1
      rw [keepSnap_ok _ J 20 (by omega) (by unfold mshf; rw [if_neg (by omega)]; exact hI)]
      rfl
  · rw [if_neg (show ¬ nI t = (20 : Int32) from fun hh => h ((nI_inj (b := 20) (by omega) (by omega)).mp hh)), if_neg h, zlt_, ← nI_sc, msI]
    unfold gX12_acted_J1
    rw [keepSnap_ok _ J (t + 1) (by omega) (zU_e _ _ _ _)]
    rfl
