/-! the exchange in the class -/
def wRJ (h : Zh) (a : Nat) (g : Nat → Int64) : Zh := (h.1, h.2.1, h.2.2.1, h.2.2.2.1, zW h.2.2.2.2.1 a g, h.2.2.2.2.2)
theorem wRJ_e (h : Zh) (a : Nat) (g : Nat → Int64) (b : Nat) : zJ (wRJ h a g) a b = g b := by
  show zW h.2.2.2.2.1 a g a b = g b
  rw [zW_e]
theorem wRJ_n (h : Zh) (a : Nat) (g : Nat → Int64) (x b : Nat) (hx : x ≠ a) : zJ (wRJ h a g) x b = zJ h x b := by
  show zW h.2.2.2.2.1 a g x b = _
  rw [zW_n _ _ _ _ hx]; rfl
theorem wRJ_R (h : Zh) (a : Nat) (g : Nat → Int64) (x b : Nat) : zR (wRJ h a g) x b = zR h x b := rfl
theorem wRJ_L (h : Zh) (a : Nat) (g : Nat → Int64) (x : Nat) : zL (wRJ h a g) x = zL h x := rfl
theorem wRJ_I (h : Zh) (a : Nat) (g : Nat → Int64) (x b : Nat) : zI (wRJ h a g) x b = zI h x b := rfl
theorem wRJ_s (h : Zh) (a : Nat) (g : Nat → Int64) (k : Nat) (v : Int64) : zsJ (wRJ h a g) a k v = wRJ h a (updJ g k v) := by
  have e : zU (zW h.2.2.2.2.1 a g) a k v = zW h.2.2.2.2.1 a (updJ g k v) := zU_WW _ _ _ _ _ _ (fun b => rfl)
  show (h.1, h.2.1, h.2.2.1, h.2.2.2.1, zU (zW h.2.2.2.2.1 a g) a k v, h.2.2.2.2.2) = _
  rw [e]; rfl
theorem wRJ_self (h : Zh) (a : Nat) : wRJ h a (zJ h a) = h := by
  show (h.1, h.2.1, h.2.2.1, h.2.2.2.1, zW h.2.2.2.2.1 a (h.2.2.2.2.1 a), h.2.2.2.2.2) = h
  rw [zW_self]
theorem icM.W {s : Nat} (h : Zh) (a : Nat) (g : Nat → Int64) (ha : s ≤ a ∧ a ≤ s + 9) : icM s h (wRJ h a g) := ⟨⟨rfl, rfl⟩, fun _ => ⟨rfl, rfl⟩, fun _ _ => rfl, fun _ _ _ => rfl, fun b j hb => wRJ_n h a g b j (by omega)⟩
theorem fillJ_ok {h : Zh} {a m : Nat} (hl : zL h a = m) (hm : m < 100000) : gJ7_fill_d0a16 h (some a) 0 = some (wRJ h a (z0f (zJ h a) m)) := by
  unfold gJ7_fill_d0a16
  rw [zob_s, hl, zlt_]
  have hh := zlp_it (R := Option Zh) (z := fun (_ : Int32) (_ : Zh) => (none : Option (Zh))) (F := gJ7_fill_d0a16_L1 0 a (Int32.ofNat m)) (fun i (F : Int32 → Zh → Option Zh) => F (nI i) (wRJ h a (z0f (zJ h a) i))) (some (wRJ h a (z0f (zJ h a) m))) m ?_ ?_ zFU (by unfold zFU; omega)
  · rw [z0f_0, wRJ_self] at hh; exact hh
  · intro i hi r
    show gJ7_fill_d0a16_L1 0 a (Int32.ofNat m) r (nI i) (wRJ h a (z0f (zJ h a) i)) = r (nI (i + 1)) (wRJ h a (z0f (zJ h a) (i + 1)))
    have hin : zin (nI i) (zL h a) = true := by rw [hl]; exact zin_nI hi (by omega)
    unfold gJ7_fill_d0a16_L1
    rw [if_neg (show ¬ (Int32.ofNat m : Int32) ≤ nI i from zge_n (b := m) hi (by omega)), wRJ_L, hin, zg_1, zx_nI (show i < 2 ^ 31 by omega), zlt_, wRJ_s, z0f_s, nI_sc]
  · intro r
    show gJ7_fill_d0a16_L1 0 a (Int32.ofNat m) r (nI m) _ = _
    unfold gJ7_fill_d0a16_L1
    rw [if_pos (show (Int32.ofNat m : Int32) ≤ nI m from Int32.le_refl _)]
theorem icR {h : Zh} {o : Nat → Nat} {s : Nat} (x : icS h o s) (a : Nat) (ha : a < 9) : zR h s a = some (s + 1 + a) ∧ zL h (s + 1 + a) = [20, 400, 400, 400, 400, 64, 8, 8, 8].getD a 0 := x.2 a ha
theorem apply_ok {h : Zh} {o : Nat → Nat} {s a k r : Nat} {w : Wt} (x : icS h o s) (hv : wtOk w) (hx : wtX h a k w) (hr : r = s + 7 ∨ r = s + 8) {i j : Nat} (hij : ij3 i j) : ∃ h', gX1_apply h s (some a) (nI i) (nI j) (some r) = some h' ∧ icM s h h' ∧ (∀ t, t < 8 → zJ h' r t = exN w i j (zJ h r) t) ∧ (∀ b t, b ≠ r → b ≠ s + 9 → zJ h' b t = zJ h b t) ∧ ∀ b t, zI h' b t = zI h b t := by
  have hi8 : i < 8 := by omega
  have hj8 : j < 8 := by omega
  obtain ⟨r8, l8⟩ := icR x 8 (by omega)
  have r8 : zR h s 8 = some (s + 9) := r8
  have l8 : zL h (s + 9) = 8 := l8
  have lr : zL h r = 8 := by
    rcases hr with rfl | rfl
    · exact (icR x 6 (by omega)).2
    · exact (icR x 7 (by omega)).2
  have hr9 : r ≠ s + 9 := by omega
  let v := zJ h r
  let g0 := z0f (zJ h (s + 9)) 8
  let G := aL g0 (exA w i j v 8)
  refine ⟨wRJ (wRJ h (s + 9) G) r (cpJ v G 8), ?_, (icM.W h (s + 9) _ (by omega)).tr (icM.W _ r _ (by omega)), fun t ht => ?_, fun b t h1 h2 => ?_, fun b t => rfl⟩
  · unfold gX1_apply
    rw [zlt_, r8, fillJ_ok l8 (by omega), zbV_s, zjn_]
    have hcl : ∀ {B : Type} (y : Option B), (if w.1 = 0 then y else if w.1 = 1 then y else y) = y := fun y => by split <;> (try split) <;> rfl
    have hl4 : ∀ (s' : Nat), s' < 8 → ∀ (g : Nat → Int64) (K : Zh → Option Zh), zlp (fun (_ : Int32) (_ : Zh) => (none : Option (Zh))) (gX1_apply_L4 s (some a) (nI i) (nI j) (some r) (nI s') (nI (s' / 2 ^ i % 2)) (nI (s' / 2 ^ j % 2)) (nI s' &&& ((((1 : Int32) <<< (nI i &&& 31)) ||| ((1 : Int32) <<< (nI j &&& 31))) ^^^ (-1))) K) zFU 0 (wRJ h (s + 9) g) = K (wRJ h (s + 9) (aL g (if v s' = 0 then [] else exR w i j s' (v s') 4))) := by
      intro s' hs g K
      have irs : zin (nI s') (zL h r) = true := by rw [lr]; exact zin_nI hs (by omega)
      by_cases hv0 : v s' = 0
      · rw [if_pos hv0, aL_nil]
        refine zlp_it (R := Option Zh) (z := fun (_ : Int32) (_ : Zh) => (none : Option (Zh))) (F := gX1_apply_L4 s (some a) (nI i) (nI j) (some r) (nI s') (nI (s' / 2 ^ i % 2)) (nI (s' / 2 ^ j % 2)) (nI s' &&& ((((1 : Int32) <<< (nI i &&& 31)) ||| ((1 : Int32) <<< (nI j &&& 31))) ^^^ (-1))) K) (fun y (F : Int32 → Zh → Option Zh) => F (nI y) (wRJ h (s + 9) g)) (K (wRJ h (s + 9) g)) 0 (fun y hy => by omega) ?_ zFU (by unfold zFU; omega)
        intro rr
        show gX1_apply_L4 s (some a) (nI i) (nI j) (some r) (nI s') _ _ _ K rr (nI 0) _ = _
        unfold gX1_apply_L4
        rw [if_neg (show ¬ (4 : Int32) ≤ nI 0 by decide), zob_s, wRJ_L, irs, zg_1, zx_nI (show s' < 2 ^ 31 by omega), wRJ_n _ _ _ _ _ hr9, if_pos ((cmp0 _).mpr hv0)]
      · rw [if_neg hv0]
        have hh := zlp_it (R := Option Zh) (z := fun (_ : Int32) (_ : Zh) => (none : Option (Zh))) (F := gX1_apply_L4 s (some a) (nI i) (nI j) (some r) (nI s') (nI (s' / 2 ^ i % 2)) (nI (s' / 2 ^ j % 2)) (nI s' &&& ((((1 : Int32) <<< (nI i &&& 31)) ||| ((1 : Int32) <<< (nI j &&& 31))) ^^^ (-1))) K) (fun y (F : Int32 → Zh → Option Zh) => F (nI y) (wRJ h (s + 9) (aL g (exR w i j s' (v s') y)))) (K (wRJ h (s + 9) (aL g (exR w i j s' (v s') 4)))) 4 ?_ ?_ zFU (by unfold zFU; omega)
        · have e0 : aL g (exR w i j s' (v s') 0) = g := aL_nil g
          rw [e0] at hh
          exact hh
        · intro y hy rr
          obtain ⟨i1, -, i3, i4, i5⟩ := ix3_fin i j hij s' hs y hy
          rw [i4, i5] at i3
          have inx : zin (nI (ix3 i j s' y)) (zL h (s + 9)) = true := by rw [l8]; exact zin_nI i1 (by omega)
          have hx' : wtX (wRJ h (s + 9) (aL g (exR w i j s' (v s') y))) a k w := hx
          have hcr := crX hx' (l := s' / 2 ^ i % 2) (u := s' / 2 ^ j % 2) (r := y % 2) (o := y / 2) (Nat.mod_lt _ (by decide)) (Nat.mod_lt _ (by decide)) (by omega) (by omega)
          have r8' : zR (wRJ h (s + 9) (aL g (exR w i j s' (v s') y))) s 8 = some (s + 9) := r8
          show gX1_apply_L4 s (some a) (nI i) (nI j) (some r) (nI s') (nI (s' / 2 ^ i % 2)) (nI (s' / 2 ^ j % 2)) (nI s' &&& ((((1 : Int32) <<< (nI i &&& 31)) ||| ((1 : Int32) <<< (nI j &&& 31))) ^^^ (-1))) K rr (nI y) (wRJ h (s + 9) (aL g (exR w i j s' (v s') y))) = rr (nI (y + 1)) (wRJ h (s + 9) (aL g (exR w i j s' (v s') y ++ [(ix3 i j s' y, v s' * (crN w (s' / 2 ^ i % 2) (s' / 2 ^ j % 2) (y % 2) (y / 2)).toInt64)])))
          unfold gX1_apply_L4
          rw [if_neg (show ¬ (4 : Int32) ≤ nI y from zge_n (b := 4) hy (by decide)), zob_s, wRJ_L, irs, zg_1, zx_nI (show s' < 2 ^ 31 by omega), wRJ_n _ _ _ _ _ hr9, if_neg (fun hh => hv0 ((cmp0 _).mp hh)), zlt_, zlt_, i4, i5, zlt_, r8', zlt_, i3, zob_s, wRJ_L, inx, zg_1, zg_1, zob_s, zjn_, wtX_k hv hx', hcr, hcl, zbi_s]
          unfold gX1_apply_J3
          rw [wRJ_L, inx, zg_1, zx_nI (show ix3 i j s' y < 2 ^ 31 by omega), zx_nI (show s' < 2 ^ 31 by omega), wRJ_e, wRJ_n _ _ _ _ _ hr9, zlt_, wRJ_s, aL_snoc, ← nI_sc]
        · intro rr
          show gX1_apply_L4 s (some a) (nI i) (nI j) (some r) (nI s') _ _ _ K rr (nI 4) _ = _
          unfold gX1_apply_L4
          rw [if_pos (show (4 : Int32) ≤ nI 4 from Int32.le_refl _)]
    have hl5 : ∀ K : Zh → Option Zh, zlp (fun (_ : Int32) (_ : Zh) => (none : Option (Zh))) (gX1_apply_L5 s (some a) (nI i) (nI j) (some r) K) zFU 0 (wRJ h (s + 9) g0) = K (wRJ h (s + 9) G) := by
      intro K
      have hh := zlp_it (R := Option Zh) (z := fun (_ : Int32) (_ : Zh) => (none : Option (Zh))) (F := gX1_apply_L5 s (some a) (nI i) (nI j) (some r) K) (fun y (F : Int32 → Zh → Option Zh) => F (nI y) (wRJ h (s + 9) (aL g0 (exA w i j v y)))) (K (wRJ h (s + 9) G)) 8 ?_ ?_ zFU (by unfold zFU; omega)
      · have e0 : aL g0 (exA w i j v 0) = g0 := aL_nil g0
        rw [e0] at hh
        exact hh
      · intro y hy rr
        show gX1_apply_L5 s (some a) (nI i) (nI j) (some r) K rr (nI y) _ = rr (nI (y + 1)) (wRJ h (s + 9) (aL g0 (exA w i j v y ++ (if v y = 0 then [] else exR w i j y (v y) 4))))
        unfold gX1_apply_L5
        rw [if_neg (show ¬ (8 : Int32) ≤ nI y from zge_n (b := 8) hy (by decide)), bitI (by omega) (by omega), zlt_, bitI (by omega) (by omega), zlt_, zlt_, zjn_, hl4 y hy, aL_app]
        unfold gX1_apply_J2
        rw [← nI_sc]
      · intro rr
        show gX1_apply_L5 s (some a) (nI i) (nI j) (some r) K rr (nI 8) _ = _
        unfold gX1_apply_L5
        rw [if_pos (show (8 : Int32) ≤ nI 8 from Int32.le_refl _)]
    rw [hl5]
    unfold gX1_apply_J1
    have hcp : zcp (wRJ h (s + 9) G) (s + 9) 0 r 0 8 = true := by
      unfold zcp
      rw [wRJ_L, wRJ_L, l8, lr]
      decide
    have r8' : zR (wRJ h (s + 9) G) s 8 = some (s + 9) := r8
    rw [zlt_, r8', zob_s, zob_s, hcp, zg_1, zlt_]
    congr 1
    show (h.1, h.2.1, h.2.2.1, h.2.2.2.1, (fun a b => if a = r then va_cpy (zJ (wRJ h (s + 9) G) (s + 9)) (zJ (wRJ h (s + 9) G) r) 0 0 8 b else zJ (wRJ h (s + 9) G) a b), h.2.2.2.2.2) = (h.1, h.2.1, h.2.2.1, h.2.2.2.1, zW (zW h.2.2.2.2.1 (s + 9) G) r (cpJ v G 8), h.2.2.2.2.2)
    congr 4
    congr 1
    funext b t
    unfold zW
    by_cases hb : b = r
    · rw [if_pos hb, if_pos hb]
      unfold va_cpy cpJ
      by_cases ht : t < 8
      · rw [if_pos (by omega), if_pos ht, Nat.zero_add, Nat.sub_zero, wRJ_e]
      · rw [if_neg (by omega), if_neg ht, wRJ_n _ _ _ _ _ hr9]
    · rw [if_neg hb, if_neg hb]
      show zW h.2.2.2.2.1 (s + 9) G b t = _
      rfl
  · rw [wRJ_e]
    show (if t < 8 then z0f (zJ h (s + 9)) 8 t + sAt _ t else _) = sAt _ t
    rw [if_pos ht, show z0f (zJ h (s + 9)) 8 t = 0 from if_pos ht]
    show 0 + sAt (exA w i j (zJ h r) 8) t = _
    grind
  · rw [wRJ_n _ _ _ _ _ h1, wRJ_n _ _ _ _ _ h2]
/-- both ways round from one state -/
def exL (k l m : Wt) (s : Nat) : Nat → Int64 := exN m 1 2 (exN l 0 2 (exN k 0 1 (fun t => if t = s then 1 else 0)))
def exG (k l m : Wt) (s : Nat) : Nat → Int64 := exN k 0 1 (exN l 0 2 (exN m 1 2 (fun t => if t = s then 1 else 0)))
def exD (k l m : Wt) (s : Nat) : Nat → Nat
  | 0 => 0
  | t + 1 => exD k l m s t + (if exL k l m s t = exG k l m s t then 0 else 1)
def exC (k l m : Wt) : Nat → Nat
  | 0 => 0
  | s + 1 => exC k l m s + exD k l m s 8
theorem exD_le (k l m : Wt) (s : Nat) : ∀ t, exD k l m s t ≤ t
  | 0 => Nat.le_refl _
  | t + 1 => by
    have := exD_le k l m s t
    show exD k l m s t + _ ≤ t + 1
    split <;> omega
theorem exN_c {w : Wt} {i j : Nat} {v v' : Nat → Int64} (h : ∀ t, t < 8 → v t = v' t) (t : Nat) : exN w i j v t = exN w i j v' t := by rw [exN_eq h]
theorem exchM {I : Nat → Nat → Int32} (J : Nat → Nat → Int64) {n : Nat} {w : Nat → Wt} (q : weiM I n w) (hn : n ≤ 6) {k l m : Nat} (hk : k < n) (hl : l < n) (hm : m < n) : ∃ J', zlp (fun (_ : Int32) (_ : Int32) (_ : Zh) => (none : Option (Int32 × Zh))) (gX12_exchange_L6 0 (nI k) (nI l) (nI m)) zFU 0 0 (mH I J) = some (nI (exC (w k) (w l) (w m) 8), mH I J') := by
  have hgo : ∀ (d s : Nat) (J0 : Nat → Nat → Int64) (fu : Nat), s + d = 8 → d < fu → ∃ J', zlp (fun (_ : Int32) (_ : Int32) (_ : Zh) => (none : Option (Int32 × Zh))) (gX12_exchange_L6 0 (nI k) (nI l) (nI m)) fu (nI (exC (w k) (w l) (w m) s)) (nI s) (mH I J0) = some (nI (exC (w k) (w l) (w m) 8), mH I J') := by
    intro d
    induction d with
    | zero =>
      intro s J0 fu hs hfu
      have : s = 8 := by omega
      subst this
      obtain ⟨fu, rfl⟩ : ∃ f, fu = f + 1 := ⟨fu - 1, by omega⟩
      refine ⟨J0, ?_⟩
      show gX12_exchange_L6 0 (nI k) (nI l) (nI m) _ _ (nI 8) _ = _
      unfold gX12_exchange_L6
      rw [if_pos (show (8 : Int32) ≤ nI 8 from Int32.le_refl _)]
    | succ d ih =>
      intro s J0 fu hs hfu
      obtain ⟨fu, rfl⟩ : ∃ f, fu = f + 1 := ⟨fu - 1, by omega⟩
      have hs8 : s < 8 := by omega
      obtain ⟨J1, a1, a2, -⟩ := startThree_ok I J0 hs8
      obtain ⟨J2, b1, b2, -⟩ := goOn_ok J1 q hn hk (i := 0) (j := 1) (by omega)
      obtain ⟨J3, c1, c2, -⟩ := goOn_ok J2 q hn hl (i := 0) (j := 2) (by omega)
      obtain ⟨J4, d1, d2, -⟩ := goOn_ok J3 q hn hm (i := 1) (j := 2) (by omega)
      have hL : ∀ t, t < 8 → J4 20 t = exL (w k) (w l) (w m) s t := fun t ht => by
        rw [d2 t ht]
        exact exN_c (fun t ht => by rw [c2 t ht]; exact exN_c (fun t ht => by rw [b2 t ht]; exact exN_c (fun t ht => a2 t ht) t) t) t
      -- kept aside
      have hcopy : ∀ K : Zh → Option (Int32 × Zh), zlp (fun (_ : Int32) (_ : Zh) => (none : Option (Int32 × Zh))) (gX12_exchange_L5 0 K) zFU 0 (mH I J4) = K (mH I (zW J4 22 (cpJ (J4 22) (J4 20) 8))) := by
        intro K
        have hh := zlp_it (R := Option (Int32 × Zh)) (z := fun (_ : Int32) (_ : Zh) => (none : Option (Int32 × Zh))) (F := gX12_exchange_L5 0 K) (fun x (F : Int32 → Zh → Option (Int32 × Zh)) => F (nI x) (mH I (zW J4 22 (cpJ (J4 22) (J4 20) x)))) (K (mH I (zW J4 22 (cpJ (J4 22) (J4 20) 8)))) 8 ?_ ?_ zFU (by unfold zFU; omega)
        · rw [cpJ_0, zW_self] at hh; exact hh
        · intro x hx r
          have hu : zU (zW J4 22 (cpJ (J4 22) (J4 20) x)) 22 x (J4 20 x) = zW J4 22 (cpJ (J4 22) (J4 20) (x + 1)) := zU_WW _ _ _ _ _ _ (fun b => by rw [← cpJ_s]; rfl)
          have hrd : zW J4 22 (cpJ (J4 22) (J4 20) x) 20 x = J4 20 x := by rw [zW_n _ _ _ _ (by decide)]
          show gX12_exchange_L5 0 K r (nI x) _ = r (nI (x + 1)) (mH I (zW J4 22 (cpJ (J4 22) (J4 20) (x + 1))))
          unfold gX12_exchange_L5
          rw [if_neg (show ¬ (8 : Int32) ≤ nI x from zge_n (b := 8) hx (by decide))]
          repeat (first | rw [mR_28] | rw [mR_26] | rw [min_ (mL_20 _ _) hx (by omega)] | rw [min_ (mL_22 _ _) hx (by omega)] | rw [zx_nI (show x < 2 ^ 31 by omega)] | rw [mJ_] | rw [hrd] | rw [msJ] | rw [hu] | rw [← nI_sc] | rw [zlt_] | rw [zjn_] | rw [zob_s] | rw [zg_1] | rw [zbi_s] | rw [zbI_s] | rw [zbr_s] | rw [zbR_s] | rw [zbV_s] | rw [zbj_s] | rw [zbJ_s] | rw [zcs_s] | rw [zcs_n])
        · intro r
          show gX12_exchange_L5 0 K r (nI 8) _ = _
          unfold gX12_exchange_L5
          rw [if_pos (show (8 : Int32) ≤ nI 8 from Int32.le_refl _)]
      obtain ⟨J6, e1, e2, e3⟩ := startThree_ok I (zW J4 22 (cpJ (J4 22) (J4 20) 8)) hs8
      obtain ⟨J7, f1, f2, f3⟩ := goOn_ok J6 q hn hm (i := 1) (j := 2) (by omega)
      obtain ⟨J8, g1, g2, g3⟩ := goOn_ok J7 q hn hl (i := 0) (j := 2) (by omega)
      obtain ⟨J9, h1, h2, h3⟩ := goOn_ok J8 q hn hk (i := 0) (j := 1) (by omega)
      have hG : ∀ t, t < 8 → J9 20 t = exG (w k) (w l) (w m) s t := fun t ht => by
        rw [h2 t ht]
        exact exN_c (fun t ht => by rw [g2 t ht]; exact exN_c (fun t ht => by rw [f2 t ht]; exact exN_c (fun t ht => e2 t ht) t) t) t
      have hA : ∀ t, t < 8 → J9 22 t = exL (w k) (w l) (w m) s t := fun t ht => by
        rw [h3 22 t (by decide) (by decide), g3 22 t (by decide) (by decide), f3 22 t (by decide) (by decide), e3 22 t (by decide), zW_e]
        show (if t < 8 then J4 20 t else _) = _
        rw [if_pos ht, hL t ht]
      obtain ⟨J', hJ'⟩ := ih (s + 1) J9 fu (by omega) (by omega)
      refine ⟨J', ?_⟩
      rw [← hJ']
      show gX12_exchange_L6 0 (nI k) (nI l) (nI m) _ _ (nI s) (mH I J0) = _
      generalize zlp (fun (_ : Int32) (_ : Int32) (_ : Zh) => (none : Option (Int32 × Zh))) (gX12_exchange_L6 0 (nI k) (nI l) (nI m)) fu = Z
      unfold gX12_exchange_L6
      have b1' : gX12_goOn (mH I J1) 0 (nI k) 0 1 = some (mH I J2) := b1
      have c1' : gX12_goOn (mH I J2) 0 (nI l) 0 2 = some (mH I J3) := c1
      have d1' : gX12_goOn (mH I J3) 0 (nI m) 1 2 = some (mH I J4) := d1
      have f1' : gX12_goOn (mH I J6) 0 (nI m) 1 2 = some (mH I J7) := f1
      have g1' : gX12_goOn (mH I J7) 0 (nI l) 0 2 = some (mH I J8) := g1
      have h1' : gX12_goOn (mH I J8) 0 (nI k) 0 1 = some (mH I J9) := h1
      rw [if_neg (show ¬ (8 : Int32) ≤ nI s from zge_n (b := 8) hs8 (by decide)), a1, zbV_s, b1', zbV_s, c1', zbV_s, d1', zbV_s, zjn_, hcopy]
      unfold gX12_exchange_J4
      rw [e1, zbV_s, f1', zbV_s, g1', zbV_s, h1', zbV_s, zjn_]
      refine zlp_it (R := Option (Int32 × Zh)) (z := fun (_ : Int32) (_ : Int32) => (none : Option (Int32 × Zh))) (F := gX12_exchange_L3 0 (mH I J9) (gX12_exchange_J1 (nI s) Z (mH I J9))) (fun t (F : Int32 → Int32 → Option (Int32 × Zh)) => F (nI (exC (w k) (w l) (w m) s + exD (w k) (w l) (w m) s t)) (nI t)) _ 8 ?_ ?_ zFU (by unfold zFU; omega)
      · intro t ht r
        show gX12_exchange_L3 0 (mH I J9) _ r (nI (exC (w k) (w l) (w m) s + exD (w k) (w l) (w m) s t)) (nI t) = r (nI (exC (w k) (w l) (w m) s + (exD (w k) (w l) (w m) s t + (if exL (w k) (w l) (w m) s t = exG (w k) (w l) (w m) s t then 0 else 1)))) (nI (t + 1))
        unfold gX12_exchange_L3
        rw [if_neg (show ¬ (8 : Int32) ≤ nI t from zge_n (b := 8) ht (by decide))]
        repeat (first | rw [mR_28] | rw [mR_26] | rw [min_ (mL_20 _ _) ht (by omega)] | rw [min_ (mL_22 _ _) ht (by omega)] | rw [zx_nI (show t < 2 ^ 31 by omega)] | rw [mJ_] | rw [hA t ht] | rw [hG t ht] | rw [zlt_] | rw [zjn_] | rw [zob_s] | rw [zg_1] | rw [zbi_s] | rw [zbI_s] | rw [zbr_s] | rw [zbR_s] | rw [zbV_s] | rw [zbj_s] | rw [zbJ_s] | rw [zcs_s] | rw [zcs_n])
        unfold gX12_exchange_J2
        by_cases he : exL (w k) (w l) (w m) s t = exG (w k) (w l) (w m) s t
        · rw [if_pos ((cmpE _ _).mpr he), if_pos he, zlt_, ← nI_sc, nI_o 0, nI_add]; rfl
        · rw [if_neg (fun hh => he ((cmpE _ _).mp hh)), if_neg he, zlt_, ← nI_sc, ← nI_sc]; rfl
      · intro r
        show gX12_exchange_L3 0 (mH I J9) _ r _ (nI 8) = _
        unfold gX12_exchange_L3
        rw [if_pos (show (8 : Int32) ≤ nI 8 from Int32.le_refl _)]
        unfold gX12_exchange_J1
        rw [← nI_sc]
        rfl
  exact hgo 8 0 J zFU (by omega) (by unfold zFU; omega)
theorem exchX {h : Zh} {o : Nat → Nat} {s0 a b c ka kb kc : Nat} {wk wl wm : Wt} (x : icS h o s0) (va : wtOk wk) (vb : wtOk wl) (vc : wtOk wm) (xa : wtX h a ka wk) (xb : wtX h b kb wl) (xc : wtX h c kc wm) : ∃ h', gX1_countExchange h s0 (some a) (some b) (some c) = some (nI (exC wk wl wm 8), h') ∧ icM s0 h h' ∧ ∀ b t, zI h' b t = zI h b t := by
  have hgo : ∀ (d s : Nat) (g : Zh) (fu : Nat), s + d = 8 → d < fu → icM s0 h g → (∀ b t, zI g b t = zI h b t) → ∃ h', zlp (fun (_ : Int32) (_ : Int32) (_ : Zh) => (none : Option (Int32 × Zh))) (gX1_countExchange_L4 s0 (some a) (some b) (some c)) fu (nI (exC wk wl wm s)) (nI s) g = some (nI (exC wk wl wm 8), h') ∧ icM s0 h h' ∧ ∀ b t, zI h' b t = zI h b t := by
    intro d
    induction d with
    | zero =>
      intro s g fu hs hfu m hi
      have : s = 8 := by omega
      subst this
      obtain ⟨fu, rfl⟩ : ∃ f, fu = f + 1 := ⟨fu - 1, by omega⟩
      refine ⟨g, ?_, m, hi⟩
      show gX1_countExchange_L4 s0 (some a) (some b) (some c) _ _ (nI 8) _ = _
      unfold gX1_countExchange_L4
      rw [if_pos (show (8 : Int32) ≤ nI 8 from Int32.le_refl _)]
    | succ d ih =>
      intro s g fu hs hfu m hi
      obtain ⟨fu, rfl⟩ : ∃ f, fu = f + 1 := ⟨fu - 1, by omega⟩
      have hs8 : s < 8 := by omega
      have wt : ∀ {e k : Nat} {w : Wt} (g' : Zh), icM s0 h g' → (∀ b t, zI g' b t = zI h b t) → wtX h e k w → wtX g' e k w := fun g' m' hi' hx => ⟨(m'.2.1 _).1.trans hx.1, (hi' _ _).trans hx.2.1, (hi' _ _).trans hx.2.2.1, (hi' _ _).trans hx.2.2.2.1, (hi' _ _).trans hx.2.2.2.2⟩
      have R6 : ∀ g', icM s0 h g' → zR g' s0 6 = some (s0 + 7) ∧ zL g' (s0 + 7) = 8 := fun g' m' => icR (x.mv m') 6 (by omega)
      have R7 : ∀ g', icM s0 h g' → zR g' s0 7 = some (s0 + 8) ∧ zL g' (s0 + 8) = 8 := fun g' m' => icR (x.mv m') 7 (by omega)
      -- the way there
      have hunit : ∀ (g' : Zh) (r : Nat), icM s0 h g' → (∀ b t, zI g' b t = zI h b t) → (r = s0 + 7 ∨ r = s0 + 8) → zL g' r = 8 → icM s0 h (zsJ (wRJ g' r (z0f (zJ g' r) 8)) r s 1) ∧ (∀ b t, zI (zsJ (wRJ g' r (z0f (zJ g' r) 8)) r s 1) b t = zI h b t) ∧ (∀ t, t < 8 → zJ (zsJ (wRJ g' r (z0f (zJ g' r) 8)) r s 1) r t = if t = s then 1 else 0) ∧ ∀ b t, b ≠ r → zJ (zsJ (wRJ g' r (z0f (zJ g' r) 8)) r s 1) b t = zJ g' b t := fun g' r m' hi' hr _ => by
        refine ⟨(m'.tr (icM.W g' r _ (by omega))).tr (icM.J _ r _ _ (by omega)), fun b t => hi' b t, fun t ht => ?_, fun b t hb => ?_⟩
        · rw [wRJ_s, wRJ_e]
          unfold updJ
          by_cases e : t = s
          · rw [if_pos e, if_pos e]
          · rw [if_neg e, if_neg e]; exact if_pos ht
        · rw [wRJ_s, wRJ_n _ _ _ _ _ hb]
      obtain ⟨r6, l6⟩ := R6 g m
      obtain ⟨u1, u2, u3, u4⟩ := hunit g (s0 + 7) m hi (Or.inl rfl) l6
      obtain ⟨g1, a1, a2, a3, a4, a5⟩ := apply_ok (x.mv u1) va (wt _ u1 u2 xa) (Or.inl rfl) (i := 0) (j := 1) (by omega)
      have m1 := u1.tr a2
      have i1 : ∀ b t, zI g1 b t = zI h b t := fun b t => (a5 b t).trans (u2 b t)
      obtain ⟨g2, b1, b2, b3, b4, b5⟩ := apply_ok (x.mv m1) vb (wt _ m1 i1 xb) (Or.inl rfl) (i := 0) (j := 2) (by omega)
      have m2 := m1.tr b2
      have i2 : ∀ b t, zI g2 b t = zI h b t := fun b t => (b5 b t).trans (i1 b t)
      obtain ⟨g3, c1, c2, c3, c4, c5⟩ := apply_ok (x.mv m2) vc (wt _ m2 i2 xc) (Or.inl rfl) (i := 1) (j := 2) (by omega)
      have m3 := m2.tr c2
      have i3 : ∀ b t, zI g3 b t = zI h b t := fun b t => (c5 b t).trans (i2 b t)
      have hL : ∀ t, t < 8 → zJ g3 (s0 + 7) t = exL wk wl wm s t := fun t ht => by
        rw [c3 t ht]
        exact exN_c (fun t ht => by rw [b3 t ht]; exact exN_c (fun t ht => by rw [a3 t ht]; exact exN_c (fun t ht => u3 t ht) t) t) t
      -- the way back
      obtain ⟨r7, l7⟩ := R7 g3 m3
      obtain ⟨w1, w2, w3, w4⟩ := hunit g3 (s0 + 8) m3 i3 (Or.inr rfl) l7
      obtain ⟨g5, d1, d2, d3, d4, d5⟩ := apply_ok (x.mv w1) vc (wt _ w1 w2 xc) (Or.inr rfl) (i := 1) (j := 2) (by omega)
      have m5 := w1.tr d2
      have i5 : ∀ b t, zI g5 b t = zI h b t := fun b t => (d5 b t).trans (w2 b t)
      obtain ⟨g6, e1, e2, e3, e4, e5⟩ := apply_ok (x.mv m5) vb (wt _ m5 i5 xb) (Or.inr rfl) (i := 0) (j := 2) (by omega)
      have m6 := m5.tr e2
      have i6 : ∀ b t, zI g6 b t = zI h b t := fun b t => (e5 b t).trans (i5 b t)
      obtain ⟨g7, f1, f2, f3, f4, f5⟩ := apply_ok (x.mv m6) va (wt _ m6 i6 xa) (Or.inr rfl) (i := 0) (j := 1) (by omega)
      have m7 := m6.tr f2
      have i7 : ∀ b t, zI g7 b t = zI h b t := fun b t => (f5 b t).trans (i6 b t)
      have hG : ∀ t, t < 8 → zJ g7 (s0 + 8) t = exG wk wl wm s t := fun t ht => by
        rw [f3 t ht]
        exact exN_c (fun t ht => by rw [e3 t ht]; exact exN_c (fun t ht => by rw [d3 t ht]; exact exN_c (fun t ht => w3 t ht) t) t) t
      have hA : ∀ t, t < 8 → zJ g7 (s0 + 7) t = exL wk wl wm s t := fun t ht => by
        rw [f4 _ t (by omega) (by omega), e4 _ t (by omega) (by omega), d4 _ t (by omega) (by omega), w4 _ t (by omega)]
        exact hL t ht
      obtain ⟨h', k1, k2, k3⟩ := ih (s + 1) g7 fu (by omega) (by omega) m7 i7
      refine ⟨h', ?_, k2, k3⟩
      rw [← k1]
      show gX1_countExchange_L4 s0 (some a) (some b) (some c) _ _ (nI s) g = _
      generalize zlp (fun (_ : Int32) (_ : Int32) (_ : Zh) => (none : Option (Int32 × Zh))) (gX1_countExchange_L4 s0 (some a) (some b) (some c)) fu = Z
      have a1' : gX1_apply (zsJ (wRJ g (s0 + 7) (z0f (zJ g (s0 + 7)) 8)) (s0 + 7) s 1) s0 (some a) 0 1 (some (s0 + 7)) = some g1 := a1
      have b1' : gX1_apply g1 s0 (some b) 0 2 (some (s0 + 7)) = some g2 := b1
      have c1' : gX1_apply g2 s0 (some c) 1 2 (some (s0 + 7)) = some g3 := c1
      have d1' : gX1_apply (zsJ (wRJ g3 (s0 + 8) (z0f (zJ g3 (s0 + 8)) 8)) (s0 + 8) s 1) s0 (some c) 1 2 (some (s0 + 8)) = some g5 := d1
      have e1' : gX1_apply g5 s0 (some b) 0 2 (some (s0 + 8)) = some g6 := e1
      have f1' : gX1_apply g6 s0 (some a) 0 1 (some (s0 + 8)) = some g7 := f1
      have is6 : zin (nI s) (zL (wRJ g (s0 + 7) (z0f (zJ g (s0 + 7)) 8)) (s0 + 7)) = true := by rw [wRJ_L, l6]; exact zin_nI hs8 (by omega)
      have is7 : zin (nI s) (zL (wRJ g3 (s0 + 8) (z0f (zJ g3 (s0 + 8)) 8)) (s0 + 8)) = true := by rw [wRJ_L, l7]; exact zin_nI hs8 (by omega)
      have q6 : zR (wRJ g (s0 + 7) (z0f (zJ g (s0 + 7)) 8)) s0 6 = some (s0 + 7) := r6
      have q7 : zR (wRJ g3 (s0 + 8) (z0f (zJ g3 (s0 + 8)) 8)) s0 7 = some (s0 + 8) := r7
      have q61 := (R6 g1 m1).1
      have q62 := (R6 g2 m2).1
      have q75 := (R7 g5 m5).1
      have q76 := (R7 g6 m6).1
      have q6u := (R6 _ u1).1
      have q7u := (R7 _ w1).1
      unfold gX1_countExchange_L4
      rw [if_neg (show ¬ (8 : Int32) ≤ nI s from zge_n (b := 8) hs8 (by decide)), zlt_, r6, fillJ_ok l6 (by omega), zbV_s, zlt_, q6, zob_s, is6, zg_1, zlt_, zx_nI (show s < 2 ^ 31 by omega), zlt_, q6u, a1', zbV_s, zlt_, q61, b1', zbV_s, zlt_, q62, c1', zbV_s, zlt_, r7, fillJ_ok l7 (by omega), zbV_s, zlt_, q7, zob_s, is7, zg_1, zlt_, zlt_, q7u, d1', zbV_s, zlt_, q75, e1', zbV_s, zlt_, q76, f1', zbV_s, zjn_]
      have z6 := R6 g7 m7
      have z7 := R7 g7 m7
      refine zlp_it (R := Option (Int32 × Zh)) (z := fun (_ : Int32) (_ : Int32) => (none : Option (Int32 × Zh))) (F := gX1_countExchange_L3 s0 g7 (gX1_countExchange_J1 (nI s) Z g7)) (fun t (F : Int32 → Int32 → Option (Int32 × Zh)) => F (nI (exC wk wl wm s + exD wk wl wm s t)) (nI t)) _ 8 ?_ ?_ zFU (by unfold zFU; omega)
      · intro t ht r
        have j6 : zin (nI t) (zL g7 (s0 + 7)) = true := by rw [z6.2]; exact zin_nI ht (by omega)
        have j7 : zin (nI t) (zL g7 (s0 + 8)) = true := by rw [z7.2]; exact zin_nI ht (by omega)
        show gX1_countExchange_L3 s0 g7 _ r (nI (exC wk wl wm s + exD wk wl wm s t)) (nI t) = r (nI (exC wk wl wm s + (exD wk wl wm s t + (if exL wk wl wm s t = exG wk wl wm s t then 0 else 1)))) (nI (t + 1))
        unfold gX1_countExchange_L3
        rw [if_neg (show ¬ (8 : Int32) ≤ nI t from zge_n (b := 8) ht (by decide))]
        repeat (first | rw [z6.1] | rw [z7.1] | rw [j6] | rw [j7] | rw [zx_nI (show t < 2 ^ 31 by omega)] | rw [hA t ht] | rw [hG t ht] | rw [zlt_] | rw [zjn_] | rw [zob_s] | rw [zg_1] | rw [zbi_s] | rw [zbI_s] | rw [zbr_s] | rw [zbR_s] | rw [zbV_s] | rw [zbj_s] | rw [zbJ_s] | rw [zcs_s] | rw [zcs_n])
        unfold gX1_countExchange_J2
        by_cases he : exL wk wl wm s t = exG wk wl wm s t
        · rw [if_pos ((cmpE _ _).mpr he), if_pos he, ← nI_sc]; rfl
        · rw [if_neg (fun hh => he ((cmpE _ _).mp hh)), if_neg he, ← nI_sc, ← nI_sc]; rfl
      · intro r
        show gX1_countExchange_L3 s0 g7 _ r _ (nI 8) = _
        unfold gX1_countExchange_L3
        rw [if_pos (show (8 : Int32) ≤ nI 8 from Int32.le_refl _)]
        unfold gX1_countExchange_J1
        rw [← nI_sc]
        rfl
  exact hgo 8 0 h zFU (by omega) (by unfold zFU; omega) (icM.rf s0 h) (fun _ _ => rfl)
section Ops
variable {SC : Ch → (Nat → Nat → Int32) → (Nat → Nat → Int64) → Prop} {h h' : Zh} {o o' : Nat → Nat} {L : Led} {n : Nat} {w : Nat → Wt} {S : Nat → Option Sh} {fa tr : Int32} {I : Nat → Nat → Int32} {J : Nat → Nat → Int64}
theorem exchange_st (p : stX SC h o L n w S fa tr) (q : stM I L n w S fa tr) (hst : stOk L n w S) (x1 x2 x3 : Int32) : stG SC (gX11_exchange h 0 x1 x2 x3) (gX12_exchange (mH I J) 0 x1 x2 x3) h := by
  have hn := hst.2.1.1
  have hopt : ∀ x : Int32, ∃ r, gX11_weightsAt h 0 x = some r := fun x => by
    by_cases hx : inR x n
    · obtain ⟨k, hk, rfl⟩ := inR_f hx
      obtain ⟨a, a1, -⟩ := weightsAt_s p hn hk
      exact ⟨_, a1⟩
    · exact ⟨_, weightsAt_n p hn x hx⟩
  unfold gX11_exchange gX12_exchange
  obtain ⟨r1, e1⟩ := hopt x1
  obtain ⟨r2, e2⟩ := hopt x2
  obtain ⟨r3, e3⟩ := hopt x3
  rw [e1, zbr_s, e2, zbr_s, e3, zbr_s, noWeightsM q.2.1 hn, zbi_s]
  by_cases h1 : inR x1 n
  · rw [if_pos h1, if_pos rfl, noWeightsM q.2.1 hn, zbi_s]
    obtain ⟨k, hk, rfl⟩ := inR_f h1
    obtain ⟨a, a1, a2, a3⟩ := weightsAt_s p hn hk
    obtain rfl : r1 = some a := Option.some.inj (e1.symm.trans a1)
    rw [zcs_s]
    by_cases h2 : inR x2 n
    · rw [if_pos h2, if_pos rfl, noWeightsM q.2.1 hn, zbi_s]
      obtain ⟨l, hl, rfl⟩ := inR_f h2
      obtain ⟨b, b1, b2, b3⟩ := weightsAt_s p hn hl
      obtain rfl : r2 = some b := Option.some.inj (e2.symm.trans b1)
      rw [zcs_s]
      by_cases h3 : inR x3 n
      · rw [if_pos h3, if_pos rfl]
        obtain ⟨m, hm, rfl⟩ := inR_f h3
        obtain ⟨c, c1, c2, c3⟩ := weightsAt_s p hn hm
        obtain rfl : r3 = some c := Option.some.inj (e3.symm.trans c1)
        rw [zcs_s]
        obtain ⟨h1', o1, s, g1, p1, e7, hx1, mw, bN, bS⟩ := iceRows_ok p
        obtain ⟨h2', g2, m2, i2⟩ := exchX hx1 (hst.2.1.2 k hk) (hst.2.1.2 l hl) (hst.2.1.2 m hm) (a3.mv mw (by omega) a2) (b3.mv mw (by omega) b2) (c3.mv mw (by omega) c2)
        obtain ⟨J', gm⟩ := exchM J q.2.1 hn hk hl hm
        have p2 := stX_ice (m2.mv (fun a ha => (hx1.1 a ha).2)) e7 (hx1.mv m2) p1
        rw [g1, zbR_s, zob_s, g2, zbI_s, gm]
        exact ⟨_, h2', I, J', o1, L, n, w, S, fa, tr, rfl, rfl, p2, q, hst, by have := m2.1.1; omega, by have := m2.1.2; omega⟩
      · rw [if_neg h3, if_neg (by decide)]
        have := (weightsAt_n p hn x3 h3).symm.trans e3
        rw [← Option.some.inj this, zcs_n]
        exact stG_0 p q hst _
    · rw [if_neg h2, if_neg (by decide)]
      have := (weightsAt_n p hn x2 h2).symm.trans e2
      rw [← Option.some.inj this, zcs_n]
      exact stG_0 p q hst _
  · rw [if_neg h1, if_neg (by decide)]
    have := (weightsAt_n p hn x1 h1).symm.trans e1
    rw [← Option.some.inj this, zcs_n]
    exact stG_0 p q hst _
end Ops
