/-! works of ice made; the exchange equation -/
def icS (h : Zh) (o : Nat → Nat) (s : Nat) : Prop := (∀ a, a < 10 → s + a < zN h ∧ o (s + a) = 4) ∧ (∀ a, a < 9 → zR h s a = some (s + 1 + a) ∧ zL h (s + 1 + a) = [20, 400, 400, 400, 400, 64, 8, 8, 8].getD a 0)
/-- only rows of ice have changed -/
def icM (s : Nat) (h h' : Zh) : Prop := (zN h' = zN h ∧ zS h' = zS h) ∧ (∀ a, zK h' a = zK h a ∧ zL h' a = zL h a) ∧ (∀ a k, zR h' a k = zR h a k) ∧ (∀ a k, a < s ∨ s + 9 < a → zI h' a k = zI h a k) ∧ ∀ a k, a < s ∨ s + 9 < a → zJ h' a k = zJ h a k
theorem icM.rf (s : Nat) (h : Zh) : icM s h h := ⟨⟨rfl, rfl⟩, fun _ => ⟨rfl, rfl⟩, fun _ _ => rfl, fun _ _ _ => rfl, fun _ _ _ => rfl⟩
theorem icM.tr {s : Nat} {h h' h'' : Zh} (p : icM s h h') (q : icM s h' h'') : icM s h h'' := ⟨⟨q.1.1.trans p.1.1, q.1.2.trans p.1.2⟩, fun a => ⟨(q.2.1 a).1.trans (p.2.1 a).1, (q.2.1 a).2.trans (p.2.1 a).2⟩, fun a k => (q.2.2.1 a k).trans (p.2.2.1 a k), fun a k ha => (q.2.2.2.1 a k ha).trans (p.2.2.2.1 a k ha), fun a k ha => (q.2.2.2.2 a k ha).trans (p.2.2.2.2 a k ha)⟩
theorem icM.J {s : Nat} (h : Zh) (a k : Nat) (v : Int64) (ha : s ≤ a ∧ a ≤ s + 9) : icM s h (zsJ h a k v) := ⟨⟨rfl, rfl⟩, fun _ => ⟨rfl, rfl⟩, fun _ _ => rfl, fun _ _ _ => rfl, fun b j hb => by rw [zJ_s, if_neg (fun e => by omega)]⟩
theorem icM.I {s : Nat} (h : Zh) (a k : Nat) (v : Int32) (ha : s ≤ a ∧ a ≤ s + 9) : icM s h (zsI h a k v) := ⟨⟨rfl, rfl⟩, fun _ => ⟨rfl, rfl⟩, fun _ _ => rfl, fun b j hb => by rw [zI_s, if_neg (fun e => by omega)], fun _ _ _ => rfl⟩
theorem icM.mv {s : Nat} {h h' : Zh} {o : Nat → Nat} (m : icM s h h') (ho : ∀ a, a < 10 → o (s + a) = 4) : zMv (fun t => t = 4) h o h' o := by
  refine ⟨by rw [m.1.1]; exact Nat.le_refl _, fun _ _ => rfl, fun a ha ht => ?_⟩
  have hs : ¬ (s ≤ a ∧ a < s + 10) := fun hh => ht (by
    have := ho (a - s) (by omega)
    rwa [show s + (a - s) = a by omega] at this)
  exact ⟨(m.2.1 a).1, (m.2.1 a).2, fun k => m.2.2.2.1 a k (by omega), fun k => m.2.2.2.2 a k (by omega), fun k => m.2.2.1 a k⟩
theorem icS.mv {s : Nat} {h h' : Zh} {o : Nat → Nat} (m : icM s h h') (x : icS h o s) : icS h' o s := ⟨fun a ha => ⟨by rw [m.1.1]; exact (x.1 a ha).1, (x.1 a ha).2⟩, fun a ha => ⟨(m.2.2.1 _ _).trans (x.2 a ha).1, (m.2.1 _).2.trans (x.2 a ha).2⟩⟩
theorem wtX.mv {T : Nat → Prop} {h h' : Zh} {o o' : Nat → Nat} {a k : Nat} {w : Wt} (m : zMv T h o h' o') (t1 : ¬ T 1) (ha : frX h o a) (hx : wtX h a k w) : wtX h' a k w := by
  have ea := ha.at m t1
  exact ⟨ea.1.trans hx.1, (ea.2.2.1 0).trans hx.2.1, (ea.2.2.1 1).trans hx.2.2.1, (ea.2.2.1 2).trans hx.2.2.2.1, (ea.2.2.1 3).trans hx.2.2.2.2⟩
section Ops
variable {SC : Ch → (Nat → Nat → Int32) → (Nat → Nat → Int64) → Prop} {h h' : Zh} {o o' : Nat → Nat} {L : Led} {n : Nat} {w : Nat → Wt} {S : Nat → Option Sh} {fa tr : Int32} {I : Nat → Nat → Int32} {J : Nat → Nat → Int64}
theorem stX_ice {s : Nat} (m : zMv (fun t => t = 4) h o h' o) (e : zR h 0 7 = some s) (x : icS h' o s) (pp : stX SC h o L n w S fa tr) : stX SC h' o L n w S fa tr := by
  obtain ⟨e0, -⟩ := pp.1.at m
  have f0 := e0 (by omega)
  have e7 : zR h' 0 7 = some s := (f0.2.2.2.2 7).trans e
  exact pp.works m (fun t ht => Or.inr (Or.inr (Or.inl ht))) (fun k _ => f0.2.2.2.2 k) (f0.2.2.1 4) ((f0.2.2.1 5).trans pp.2.2.2.2.1.1) f0.1 (pp.2.2.2.2.2.1.mv m (by omega) (f0.2.2.2.2 8)) (Or.inr ⟨s, e7, x.1, x.2⟩) (pp.2.2.2.2.2.2.2.mv m (by omega) (by omega) (f0.2.2.2.2 6))
theorem iceRows_ok (p : stX SC h o L n w S fa tr) : ∃ h' o' s, gX11_iceRows h 0 = some (some s, h') ∧ stX SC h' o' L n w S fa tr ∧ zR h' 0 7 = some s ∧ icS h' o' s ∧ zMv (fun t => t = 100) h o h' o' ∧ zN h' ≤ zN h + 10 ∧ zS h' ≤ zS h + 1717 := by
  have hJ : ∀ g, gX11_iceRows_J1 0 g = some (zR g 0 7, g) := fun g => rfl
  unfold gX11_iceRows
  rw [zlt_, zjn_]
  rcases p.2.2.2.2.2.2.1 with hn | ⟨s, e, x1, x2⟩
  · rw [hn, zcs_n]
    have o0 : o 0 = 100 := p.1.2.2.2.2.1
    have hN := p.1.2.2.2.1
    have ok20 : zok 20 = true := by decide
    have ok400 : zok 400 = true := by decide
    have ok64 : zok 64 = true := by decide
    have ok8 : zok 8 = true := by decide
    have x20 : zx 20 = 20 := by decide
    have x400 : zx 400 = 400 := by decide
    have x64 : zx 64 = 64 := by decide
    have x8 : zx 8 = 8 := by decide
    let b0 := zA h 1 9
    let rows : List (Nat × Nat) := [(20, 20), (21, 400), (21, 400), (21, 400), (21, 400), (21, 64), (21, 8), (21, 8), (21, 8)]
    let b7 := mkR (zN h) rows 0 b0
    have hini : gX1_init b0 (zN h) = some b7 := by
      unfold gX1_init
      repeat (first | rw [ok20] | rw [ok400] | rw [ok64] | rw [ok8] | rw [x20] | rw [x400] | rw [x64] | rw [x8] | rw [zlt_] | rw [zjn_] | rw [zob_s] | rw [zg_1] | rw [zbi_s] | rw [zbI_s] | rw [zbr_s] | rw [zbR_s] | rw [zbV_s] | rw [zbj_s] | rw [zbJ_s] | rw [zcs_s] | rw [zcs_n])
      rfl
    obtain ⟨⟨c1, c2⟩, c3, c4⟩ := mkR_ok (zN h) rows 0 b0 (by show zN h < zN h + 1; omega)
    have hb0 : zN b0 = zN h + 1 := rfl
    let o1 : Nat → Nat := fun a => if zN h ≤ a then 4 else o a
    have ho1 : ∀ a, a < zN h → o1 a = o a := fun a ha => if_neg (by omega)
    have nb : zN b7 = zN h + 10 := c1
    have sb : zS b7 = zS h + 1717 := c2
    have mAll : zMv (fun _ => False) h o b7 o1 := by
      refine ⟨by omega, ho1, fun a ha _ => ?_⟩
      obtain ⟨d1, d2, d3⟩ := c4 a (by omega)
      exact ⟨d1.trans (zA_K (t := 1) (n := 9) (by omega)), d2.trans (zA_L (t := 1) (n := 9) (by omega)), fun k => (d3 k).1.trans (zA_I (t := 1) (n := 9) (by omega)), fun k => (d3 k).2.1.trans (zA_J (t := 1) (n := 9) (by omega)), fun k => ((d3 k).2.2.1 (Or.inl (by omega))).trans (zA_R (t := 1) (n := 9) (by omega))⟩
    have hx : icS (zsR b7 0 7 (some (zN h))) o1 (zN h) := by
      have on : ∀ a, zN h ≤ a → o1 a = 4 := fun a ha => if_pos ha
      have h0 : ∀ k, zR (zsR b7 0 7 (some (zN h))) (zN h) k = zR b7 (zN h) k := fun k => by rw [zR_s, if_neg (by omega)]
      have hR : ∀ k c, rows[k]? = some c → zR b7 (zN h) k = some (zN h + 1 + k) ∧ zL b7 (zN h + 1 + k) = c.2 := fun k c hc => by
        obtain ⟨d1, d2, -⟩ := c3 k c hc
        rw [Nat.zero_add] at d1
        exact ⟨d1, d2⟩
      refine ⟨fun a ha => ⟨by rw [zN_sR, nb]; omega, on _ (by omega)⟩, fun a ha => ?_⟩
      rw [h0 a]
      show zR b7 (zN h) a = _ ∧ zL b7 (zN h + 1 + a) = _
      rcases (show a = 0 ∨ a = 1 ∨ a = 2 ∨ a = 3 ∨ a = 4 ∨ a = 5 ∨ a = 6 ∨ a = 7 ∨ a = 8 by omega) with rfl | rfl | rfl | rfl | rfl | rfl | rfl | rfl | rfl
      · exact hR 0 _ rfl
      · exact hR 1 _ rfl
      · exact hR 2 _ rfl
      · exact hR 3 _ rfl
      · exact hR 4 _ rfl
      · exact hR 5 _ rfl
      · exact hR 6 _ rfl
      · exact hR 7 _ rfl
      · exact hR 8 _ rfl
    rw [zlt_, zlt_]
    show ∃ h' o' s, zbV (gX1_init b0 (zN h)) _ = _ ∧ _
    rw [hini, zbV_s, zlt_, hJ, zR_se]
    have o0' : o1 0 = 100 := (ho1 0 (by omega)).trans o0
    have m1 : zMv (fun t => t = 100) h o (zsR b7 0 7 (some (zN h))) o1 := (mAll.wk (fun _ hh => hh.elim)).tr (zMv.sR o0')
    have f0 := mAll.2.2 0 (by omega) (fun x => x)
    refine ⟨_, o1, zN h, rfl, ?_, by rw [zR_se], hx, m1, by rw [zN_sR, nb]; exact Nat.le_refl _, by rw [zS_sR, sb]; exact Nat.le_refl _⟩
    refine p.works m1 (fun t ht => Or.inl ht) (fun k hk => ?_) (f0.2.2.1 4) ((f0.2.2.1 5).trans p.2.2.2.2.1.1) f0.1 (p.2.2.2.2.2.1.mv m1 (by omega) ?_) (Or.inr ⟨zN h, by rw [zR_se], hx.1, hx.2⟩) (p.2.2.2.2.2.2.2.mv m1 (by omega) (by omega) ?_)
    · rw [zR_s, if_neg (by omega)]; exact f0.2.2.2.2 k
    · rw [zR_s, if_neg (by omega)]; exact f0.2.2.2.2 8
    · rw [zR_s, if_neg (by omega)]; exact f0.2.2.2.2 6
  · rw [e, zcs_s, hJ, e]
    exact ⟨h, o, s, rfl, p, e, ⟨x1, x2⟩, zMv.rf h o, by omega, by omega⟩
end Ops
theorem cmpE (x y : Int64) : lg_cmp x y = 0 ↔ x = y := by
  constructor
  · intro hx
    rcases (show x.toInt < y.toInt ∨ x.toInt = y.toInt ∨ y.toInt < x.toInt by omega) with h | h | h
    · have := (lg_cmp_lt x y).mpr (by rw [Int64.lt_iff_toInt_lt]; exact h)
      rw [hx] at this
      exact absurd this (by decide)
    · exact Int64.toInt_inj.mp h
    · have := (lg_cmp_gt x y).mpr (by rw [Int64.lt_iff_toInt_lt]; exact h)
      rw [hx] at this
      exact absurd this (by decide)
  · rintro rfl
    apply Classical.byContradiction
    intro hn
    have h1 : ¬ lg_cmp x x < 0 := fun h => Int64.lt_irrefl ((lg_cmp_lt x x).mp h)
    have h2 : ¬ 0 < lg_cmp x x := fun h => Int64.lt_irrefl ((lg_cmp_gt x x).mp h)
    have e1 := Int32.not_lt.mp h1
    have e2 := Int32.not_lt.mp h2
    exact hn (Int32.le_antisymm e2 e1)
/-- where two of three bits go -/
def ix3 (i j s two : Nat) : Nat := s - s / 2 ^ i % 2 * 2 ^ i - s / 2 ^ j % 2 * 2 ^ j + two % 2 * 2 ^ i + two / 2 * 2 ^ j
abbrev ij3 (i j : Nat) : Prop := (i = 0 ∧ j = 1) ∨ (i = 0 ∧ j = 2) ∨ (i = 1 ∧ j = 2)
theorem ix3_fin : ∀ i j, ij3 i j → ∀ s, s < 8 → ∀ t, t < 4 → ix3 i j s t < 8 ∧ ((nI s &&& (((1 : Int32) <<< (nI i &&& 31)) ^^^ (-1))) &&& (((1 : Int32) <<< (nI j &&& 31)) ^^^ (-1)) ||| ((nI t &&& 1) <<< (nI i &&& 31))) ||| ((nI t >>> ((1 : Int32) &&& 31)) <<< (nI j &&& 31)) = nI (ix3 i j s t) ∧ ((nI s &&& ((((1 : Int32) <<< (nI i &&& 31)) ||| ((1 : Int32) <<< (nI j &&& 31))) ^^^ (-1))) ||| ((nI t &&& 1) <<< (nI i &&& 31))) ||| ((nI t >>> ((1 : Int32) &&& 31)) <<< (nI j &&& 31)) = nI (ix3 i j s t) ∧ (nI t &&& 1) = nI (t % 2) ∧ (nI t >>> ((1 : Int32) &&& 31)) = nI (t / 2) := by
  have h : [(0, 1), (0, 2), (1, 2)].all (fun c => (List.range 8).all (fun s => (List.range 4).all (fun t => decide (ix3 c.1 c.2 s t < 8 ∧ ((nI s &&& (((1 : Int32) <<< (nI c.1 &&& 31)) ^^^ (-1))) &&& (((1 : Int32) <<< (nI c.2 &&& 31)) ^^^ (-1)) ||| ((nI t &&& 1) <<< (nI c.1 &&& 31))) ||| ((nI t >>> ((1 : Int32) &&& 31)) <<< (nI c.2 &&& 31)) = nI (ix3 c.1 c.2 s t) ∧ ((nI s &&& ((((1 : Int32) <<< (nI c.1 &&& 31)) ||| ((1 : Int32) <<< (nI c.2 &&& 31))) ^^^ (-1))) ||| ((nI t &&& 1) <<< (nI c.1 &&& 31))) ||| ((nI t >>> ((1 : Int32) &&& 31)) <<< (nI c.2 &&& 31)) = nI (ix3 c.1 c.2 s t) ∧ (nI t &&& 1) = nI (t % 2) ∧ (nI t >>> ((1 : Int32) &&& 31)) = nI (t / 2))))) = true := by decide +kernel
  intro i j hij s hs t ht
  have hm : (i, j) ∈ [(0, 1), (0, 2), (1, 2)] := by
    rcases hij with ⟨rfl, rfl⟩ | ⟨rfl, rfl⟩ | ⟨rfl, rfl⟩ <;> simp
  exact of_decide_eq_true (List.all_eq_true.mp (List.all_eq_true.mp (List.all_eq_true.mp h (i, j) hm) s (List.mem_range.mpr hs)) t (List.mem_range.mpr ht))
/-- what a step of the exchange brings -/
def exR (w : Wt) (i j s : Nat) (x : Int64) : Nat → List (Nat × Int64)
  | 0 => []
  | t + 1 => exR w i j s x t ++ [(ix3 i j s t, x * (crN w (s / 2 ^ i % 2) (s / 2 ^ j % 2) (t % 2) (t / 2)).toInt64)]
def exA (w : Wt) (i j : Nat) (v : Nat → Int64) : Nat → List (Nat × Int64)
  | 0 => []
  | s + 1 => exA w i j v s ++ (if v s = 0 then [] else exR w i j s (v s) 4)
def exN (w : Wt) (i j : Nat) (v : Nat → Int64) : Nat → Int64 := fun t => sAt (exA w i j v 8) t
theorem exA_eq {w : Wt} {i j : Nat} {v v' : Nat → Int64} : ∀ s, (∀ t, t < s → v t = v' t) → exA w i j v s = exA w i j v' s
  | 0, _ => rfl
  | s + 1, h => by
    show exA w i j v s ++ _ = exA w i j v' s ++ _
    rw [exA_eq s (fun t ht => h t (by omega)), h s (by omega)]
theorem exN_eq {w : Wt} {i j : Nat} {v v' : Nat → Int64} (h : ∀ t, t < 8 → v t = v' t) : exN w i j v = exN w i j v' := by
  funext t
  unfold exN
  rw [exA_eq 8 h]
/-! in the reference -/
def eJ (J : Nat → Nat → Int64) (f g : Nat → Int64) : Nat → Nat → Int64 := fun a b => if a = 20 then f b else if a = 21 then g b else J a b
theorem eJ_20 (J : Nat → Nat → Int64) (f g : Nat → Int64) (b : Nat) : eJ J f g 20 b = f b := rfl
theorem eJ_21 (J : Nat → Nat → Int64) (f g : Nat → Int64) (b : Nat) : eJ J f g 21 b = g b := rfl
theorem eJ_u20 (J : Nat → Nat → Int64) (f g : Nat → Int64) (w : Nat) (v : Int64) : zU (eJ J f g) 20 w v = eJ J (updJ f w v) g := by
  refine zU_g (fun x b hx => ?_) (fun b hb => ?_) ?_
  · unfold eJ
    rw [if_neg hx, if_neg hx]
  · rw [eJ_20, eJ_20]
    exact if_neg hb
  · rw [eJ_20]
    exact if_pos rfl
theorem eJ_u21 (J : Nat → Nat → Int64) (f g : Nat → Int64) (w : Nat) (v : Int64) : zU (eJ J f g) 21 w v = eJ J f (updJ g w v) := by
  refine zU_g (fun x b hx => ?_) (fun b hb => ?_) ?_
  · unfold eJ
    by_cases h : x = 20
    · rw [if_pos h, if_pos h]
    · rw [if_neg h, if_neg h, if_neg hx, if_neg hx]
  · rw [eJ_21, eJ_21]
    exact if_neg hb
  · rw [eJ_21]
    exact if_pos rfl
theorem eJ_self (J : Nat → Nat → Int64) : eJ J (J 20) (J 21) = J := by
  funext a b
  unfold eJ
  by_cases h : a = 20
  · rw [if_pos h, h]
  · rw [if_neg h]
    by_cases h2 : a = 21
    · rw [if_pos h2, h2]
    · rw [if_neg h2]
def cpJ (f g : Nat → Int64) (n : Nat) : Nat → Int64 := fun b => if b < n then g b else f b
theorem cpJ_s (f g : Nat → Int64) (n : Nat) : updJ (cpJ f g n) n (g n) = cpJ f g (n + 1) := by
  funext x
  unfold updJ cpJ
  by_cases h : x = n
  · rw [if_pos h, if_pos (by omega), h]
  · rw [if_neg h]
    by_cases h2 : x < n
    · rw [if_pos h2, if_pos (by omega)]
    · rw [if_neg h2, if_neg (by omega)]
theorem z0f_0 (f : Nat → Int64) : z0f f 0 = f := by
  funext x
  exact if_neg (Nat.not_lt_zero x)
theorem cpJ_0 (f g : Nat → Int64) : cpJ f g 0 = f := by
  funext x
  exact if_neg (Nat.not_lt_zero x)
theorem goOn_ok {I : Nat → Nat → Int32} (J : Nat → Nat → Int64) {n : Nat} {w : Nat → Wt} (q : weiM I n w) (hn : n ≤ 6) {k : Nat} (hk : k < n) {i j : Nat} (hij : ij3 i j) : ∃ J', gX12_goOn (mH I J) 0 (nI k) (nI i) (nI j) = some (mH I J') ∧ (∀ t, t < 8 → J' 20 t = exN (w k) i j (J 20) t) ∧ ∀ a b, a ≠ 20 → a ≠ 21 → J' a b = J a b := by
  have hi8 : i < 8 := by omega
  have hj8 : j < 8 := by omega
  let v := J 20
  let g0 := z0f (J 21) 8
  refine ⟨eJ J (cpJ v (aL g0 (exA (w k) i j v 8)) 8) (aL g0 (exA (w k) i j v 8)), ?_, fun t ht => ?_, fun a b h1 h2 => ?_⟩
  · unfold gX12_goOn
    rw [zjn_]
    -- the row laid to 0
    have hl7 : ∀ K : Zh → Option Zh, zlp (fun (_ : Int32) (_ : Zh) => (none : Option (Zh))) (gX12_goOn_L7 0 K) zFU 0 (mH I J) = K (mH I (eJ J v g0)) := by
      intro K
      have hh := zlp_it (R := Option Zh) (z := fun (_ : Int32) (_ : Zh) => (none : Option (Zh))) (F := gX12_goOn_L7 0 K) (fun x (F : Int32 → Zh → Option Zh) => F (nI x) (mH I (eJ J v (z0f (J 21) x)))) (K (mH I (eJ J v g0))) 8 ?_ ?_ zFU (by unfold zFU; omega)
      · rw [z0f_0, eJ_self] at hh; exact hh
      · intro x hx r
        show gX12_goOn_L7 0 K r (nI x) (mH I (eJ J v (z0f (J 21) x))) = r (nI (x + 1)) (mH I (eJ J v (z0f (J 21) (x + 1))))
        unfold gX12_goOn_L7
        rw [if_neg (show ¬ (8 : Int32) ≤ nI x from zge_n (b := 8) hx (by decide))]
        repeat (first | rw [mR_27] | rw [min_ (mL_21 _ _) hx (by omega)] | rw [zx_nI (show x < 2 ^ 31 by omega)] | rw [msJ] | rw [eJ_u21] | rw [z0f_s] | rw [← nI_sc] | rw [zlt_] | rw [zjn_] | rw [zob_s] | rw [zg_1] | rw [zbi_s] | rw [zbI_s] | rw [zbr_s] | rw [zbR_s] | rw [zbV_s] | rw [zbj_s] | rw [zbJ_s] | rw [zcs_s] | rw [zcs_n])
      · intro r
        show gX12_goOn_L7 0 K r (nI 8) _ = _
        unfold gX12_goOn_L7
        rw [if_pos (show (8 : Int32) ≤ nI 8 from Int32.le_refl _)]
    rw [hl7]
    unfold gX12_goOn_J6
    rw [zjn_]
    -- one state after another
    have hl4 : ∀ (s : Nat), s < 8 → ∀ (g : Nat → Int64) (K : Zh → Option Zh), zlp (fun (_ : Int32) (_ : Zh) => (none : Option (Zh))) (gX12_goOn_L4 0 (nI k) (nI i) (nI j) (nI s) K) zFU 0 (mH I (eJ J v g)) = K (mH I (eJ J v (aL g (if v s = 0 then [] else exR (w k) i j s (v s) 4)))) := by
      intro s hs g K
      by_cases hv : v s = 0
      · rw [if_pos hv, aL_nil]
        refine zlp_it (R := Option Zh) (z := fun (_ : Int32) (_ : Zh) => (none : Option (Zh))) (F := gX12_goOn_L4 0 (nI k) (nI i) (nI j) (nI s) K) (fun x (F : Int32 → Zh → Option Zh) => F (nI x) (mH I (eJ J v g))) (K (mH I (eJ J v g))) 0 (fun x hx => by omega) ?_ zFU (by unfold zFU; omega)
        intro r
        show gX12_goOn_L4 0 (nI k) (nI i) (nI j) (nI s) K r (nI 0) _ = _
        unfold gX12_goOn_L4
        rw [if_neg (show ¬ (4 : Int32) ≤ nI 0 by decide)]
        repeat (first | rw [mR_26] | rw [min_ (mL_20 _ _) hs (by omega)] | rw [zx_nI (show s < 2 ^ 31 by omega)] | rw [mJ_] | rw [eJ_20] | rw [zlt_] | rw [zjn_] | rw [zob_s] | rw [zg_1] | rw [zbi_s] | rw [zbI_s] | rw [zbr_s] | rw [zbR_s] | rw [zbV_s] | rw [zbj_s] | rw [zbJ_s] | rw [zcs_s] | rw [zcs_n])
        rw [if_pos ((cmp0 _).mpr hv)]
      · rw [if_neg hv]
        have hh := zlp_it (R := Option Zh) (z := fun (_ : Int32) (_ : Zh) => (none : Option (Zh))) (F := gX12_goOn_L4 0 (nI k) (nI i) (nI j) (nI s) K) (fun x (F : Int32 → Zh → Option Zh) => F (nI x) (mH I (eJ J v (aL g (exR (w k) i j s (v s) x))))) (K (mH I (eJ J v (aL g (exR (w k) i j s (v s) 4))))) 4 ?_ ?_ zFU (by unfold zFU; omega)
        · have e0 : aL g (exR (w k) i j s (v s) 0) = g := aL_nil g
          rw [e0] at hh
          exact hh
        · intro x hx r
          obtain ⟨i1, i2, -, i4, i5⟩ := ix3_fin i j hij s hs x hx
          rw [i4, i5] at i2
          have hcr := crM (eJ J v (aL g (exR (w k) i j s (v s) x))) q hn hk (l := s / 2 ^ i % 2) (u := s / 2 ^ j % 2) (r := x % 2) (o := x / 2) (Nat.mod_lt _ (by decide)) (Nat.mod_lt _ (by decide)) (by omega) (by omega)
          show gX12_goOn_L4 0 (nI k) (nI i) (nI j) (nI s) K r (nI x) (mH I (eJ J v (aL g (exR (w k) i j s (v s) x)))) = r (nI (x + 1)) (mH I (eJ J v (aL g (exR (w k) i j s (v s) x ++ [(ix3 i j s x, v s * (crN (w k) (s / 2 ^ i % 2) (s / 2 ^ j % 2) (x % 2) (x / 2)).toInt64)]))))
          unfold gX12_goOn_L4
          rw [if_neg (show ¬ (4 : Int32) ≤ nI x from zge_n (b := 4) hx (by decide))]
          repeat (first | rw [mR_26] | rw [min_ (mL_20 _ _) hs (by omega)] | rw [zx_nI (show s < 2 ^ 31 by omega)] | rw [mJ_] | rw [eJ_20] | rw [if_neg (fun hh => hv ((cmp0 _).mp hh))] | rw [i4] | rw [i5] | rw [i2] | rw [mR_27] | rw [min_ (mL_21 _ _) i1 (by omega)] | rw [bitI (show s < 2147483648 by omega) (show i < 32 by omega)] | rw [bitI (show s < 2147483648 by omega) (show j < 32 by omega)] | rw [hcr] | rw [zx_nI (show ix3 i j s x < 2 ^ 31 by omega)] | rw [msJ] | rw [eJ_21] | rw [eJ_u21] | rw [aL_snoc] | rw [← nI_sc] | rw [zlt_] | rw [zjn_] | rw [zob_s] | rw [zg_1] | rw [zbi_s] | rw [zbI_s] | rw [zbr_s] | rw [zbR_s] | rw [zbV_s] | rw [zbj_s] | rw [zbJ_s] | rw [zcs_s] | rw [zcs_n])
        · intro r
          show gX12_goOn_L4 0 (nI k) (nI i) (nI j) (nI s) K r (nI 4) _ = _
          unfold gX12_goOn_L4
          rw [if_pos (show (4 : Int32) ≤ nI 4 from Int32.le_refl _)]
    have hl5 : ∀ K : Zh → Option Zh, zlp (fun (_ : Int32) (_ : Zh) => (none : Option (Zh))) (gX12_goOn_L5 0 (nI k) (nI i) (nI j) K) zFU 0 (mH I (eJ J v g0)) = K (mH I (eJ J v (aL g0 (exA (w k) i j v 8)))) := by
      intro K
      have hh := zlp_it (R := Option Zh) (z := fun (_ : Int32) (_ : Zh) => (none : Option (Zh))) (F := gX12_goOn_L5 0 (nI k) (nI i) (nI j) K) (fun s (F : Int32 → Zh → Option Zh) => F (nI s) (mH I (eJ J v (aL g0 (exA (w k) i j v s))))) (K (mH I (eJ J v (aL g0 (exA (w k) i j v 8))))) 8 ?_ ?_ zFU (by unfold zFU; omega)
      · have e0 : aL g0 (exA (w k) i j v 0) = g0 := aL_nil g0
        rw [e0] at hh
        exact hh
      · intro s hs r
        show gX12_goOn_L5 0 (nI k) (nI i) (nI j) K r (nI s) _ = r (nI (s + 1)) (mH I (eJ J v (aL g0 (exA (w k) i j v s ++ (if v s = 0 then [] else exR (w k) i j s (v s) 4)))))
        unfold gX12_goOn_L5
        rw [if_neg (show ¬ (8 : Int32) ≤ nI s from zge_n (b := 8) hs (by decide)), zjn_, hl4 s hs, aL_app]
        unfold gX12_goOn_J3
        rw [← nI_sc]
      · intro r
        show gX12_goOn_L5 0 (nI k) (nI i) (nI j) K r (nI 8) _ = _
        unfold gX12_goOn_L5
        rw [if_pos (show (8 : Int32) ≤ nI 8 from Int32.le_refl _)]
    rw [hl5]
    unfold gX12_goOn_J2
    have hh := zlp_it (R := Option Zh) (z := fun (_ : Int32) (_ : Zh) => (none : Option (Zh))) (F := gX12_goOn_L1 0) (fun x (F : Int32 → Zh → Option Zh) => F (nI x) (mH I (eJ J (cpJ v (aL g0 (exA (w k) i j v 8)) x) (aL g0 (exA (w k) i j v 8))))) (some (mH I (eJ J (cpJ v (aL g0 (exA (w k) i j v 8)) 8) (aL g0 (exA (w k) i j v 8))))) 8 ?_ ?_ zFU (by unfold zFU; omega)
    · rw [cpJ_0] at hh; exact hh
    · intro x hx r
      show gX12_goOn_L1 0 r (nI x) (mH I (eJ J (cpJ v (aL g0 (exA (w k) i j v 8)) x) (aL g0 (exA (w k) i j v 8)))) = r (nI (x + 1)) (mH I (eJ J (cpJ v (aL g0 (exA (w k) i j v 8)) (x + 1)) (aL g0 (exA (w k) i j v 8))))
      unfold gX12_goOn_L1
      rw [if_neg (show ¬ (8 : Int32) ≤ nI x from zge_n (b := 8) hx (by decide))]
      repeat (first | rw [mR_26] | rw [mR_27] | rw [min_ (mL_20 _ _) hx (by omega)] | rw [min_ (mL_21 _ _) hx (by omega)] | rw [zx_nI (show x < 2 ^ 31 by omega)] | rw [mJ_] | rw [eJ_21] | rw [msJ] | rw [eJ_u20] | rw [cpJ_s] | rw [← nI_sc] | rw [zlt_] | rw [zjn_] | rw [zob_s] | rw [zg_1] | rw [zbi_s] | rw [zbI_s] | rw [zbr_s] | rw [zbR_s] | rw [zbV_s] | rw [zbj_s] | rw [zbJ_s] | rw [zcs_s] | rw [zcs_n])
    · intro r
      show gX12_goOn_L1 0 r (nI 8) _ = _
      unfold gX12_goOn_L1
      rw [if_pos (show (8 : Int32) ≤ nI 8 from Int32.le_refl _)]
  · show (if t < 8 then z0f (J 21) 8 t + sAt _ t else _) = sAt _ t
    rw [if_pos ht, show z0f (J 21) 8 t = 0 from if_pos ht]
    show 0 + sAt (exA (w k) i j (J 20) 8) t = _
    grind
  · unfold eJ
    rw [if_neg h1, if_neg h2]
theorem startThree_ok (I : Nat → Nat → Int32) (J : Nat → Nat → Int64) {s : Nat} (hs : s < 8) : ∃ J', gX12_startThree (mH I J) 0 (nI s) = some (mH I J') ∧ (∀ t, t < 8 → J' 20 t = if t = s then 1 else 0) ∧ ∀ a b, a ≠ 20 → J' a b = J a b := by
  refine ⟨eJ J (cpJ (J 20) (fun t => if t = s then 1 else 0) 8) (J 21), ?_, fun t ht => if_pos ht, fun a b h1 => ?_⟩
  · unfold gX12_startThree
    have hh := zlp_it (R := Option Zh) (z := fun (_ : Int32) (_ : Zh) => (none : Option (Zh))) (F := gX12_startThree_L2 0 (nI s)) (fun x (F : Int32 → Zh → Option Zh) => F (nI x) (mH I (eJ J (cpJ (J 20) (fun t => if t = s then 1 else 0) x) (J 21)))) (some (mH I (eJ J (cpJ (J 20) (fun t => if t = s then 1 else 0) 8) (J 21)))) 8 ?_ ?_ zFU (by unfold zFU; omega)
    · rw [cpJ_0, eJ_self] at hh; exact hh
    · intro x hx r
      show gX12_startThree_L2 0 (nI s) r (nI x) _ = r (nI (x + 1)) (mH I (eJ J (cpJ (J 20) (fun t => if t = s then 1 else 0) (x + 1)) (J 21)))
      have hc := cpJ_s (J 20) (fun t => if t = s then (1 : Int64) else 0) x
      have hif : ∀ K : Int64 → Option Zh, (if nI x = nI s then K 1 else K 0) = K (if x = s then 1 else 0) := fun K => by
        by_cases e : x = s
        · rw [if_pos (by rw [e]), if_pos e]
        · rw [if_neg (fun hh => e ((nI_inj (by omega) (by omega)).mp hh)), if_neg e]
      unfold gX12_startThree_L2
      rw [if_neg (show ¬ (8 : Int32) ≤ nI x from zge_n (b := 8) hx (by decide)), zlt_, zjn_, hif]
      unfold gX12_startThree_J1
      repeat (first | rw [mR_26] | rw [min_ (mL_20 _ _) hx (by omega)] | rw [zx_nI (show x < 2 ^ 31 by omega)] | rw [msJ] | rw [eJ_u20] | rw [hc] | rw [← nI_sc] | rw [zlt_] | rw [zjn_] | rw [zob_s] | rw [zg_1] | rw [zbi_s] | rw [zbI_s] | rw [zbr_s] | rw [zbR_s] | rw [zbV_s] | rw [zbj_s] | rw [zbJ_s] | rw [zcs_s] | rw [zcs_n])
    · intro r
      show gX12_startThree_L2 0 (nI s) r (nI 8) _ = _
      unfold gX12_startThree_L2
      rw [if_pos (show (8 : Int32) ≤ nI 8 from Int32.le_refl _)]
  · unfold eJ
    rw [if_neg h1]
    by_cases h2 : a = 21
    · rw [if_pos h2, h2]
    · rw [if_neg h2]
