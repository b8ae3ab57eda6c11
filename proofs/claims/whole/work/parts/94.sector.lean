/-! a sector of the class: its heads -/
theorem olF_le (N r s : Nat) : ∀ f nx len, olF N r s f nx len ≤ len + f
  | 0, _, _ => Nat.le_refl _
  | f + 1, nx, len => by
    show syc (Nat.beq nx s) len (syc (Nat.ble s nx) (syf (tuN N r nx) (fun y => olF N r s f y (Nat.succ len))) 0) ≤ _
    cases Nat.beq nx s
    · cases Nat.ble s nx
      · exact Nat.zero_le _
      · show syf (tuN N r nx) (fun y => olF N r s f y (Nat.succ len)) ≤ _
        rw [syf_eq]
        have := olF_le N r s f (tuN N r nx) (Nat.succ len)
        omega
    · exact Nat.le_add_right _ _
theorem olN_eq (N r s : Nat) : olN N r s = olF N r s 7 (tuN N r s) 1 := syf_eq _ _
theorem olN_le (N r s : Nat) : olN N r s ≤ 8 := by rw [olN_eq]; exact olF_le N r s 7 _ 1
theorem orbitLength_ok {h : Zh} {s c N r : Nat} {e d : Int32} (rc : zR h s 10 = some c) (hc : chAt h c N r e d) (h2 : 2 ≤ N) (hN : N ≤ 8) (hr : r ≤ 1) {x : Nat} (hx : x < 2 ^ N) : gX5_orbitLength h s (nI x) = some (nI (olN N r x)) := by
  have h256 : 2 ^ N ≤ 2 ^ 8 := Nat.pow_le_pow_right (by decide) hN
  unfold gX5_orbitLength
  rw [zlt_, rc, zob_s, turn_ok hc h2 hN hr x hx, zbi_s, olN_eq]
  have hgo : ∀ (f nx len fu : Nat), nx < 2 ^ N → len + f = 8 → f < fu → zlp (fun (_ : Int32) (_ : Int32) => (none : Option (Int32))) (gX5_orbitLength_L1 h s (nI x)) fu (nI nx) (nI len) = some (nI (olF N r x f nx len)) := by
    intro f
    induction f with
    | zero =>
      intro nx len fu hnx hl hfu
      obtain ⟨fu, rfl⟩ : ∃ f, fu = f + 1 := ⟨fu - 1, by omega⟩
      have : len = 8 := by omega
      subst this
      show gX5_orbitLength_L1 h s (nI x) _ (nI nx) (nI 8) = _
      unfold gX5_orbitLength_L1
      by_cases e1 : nI nx = nI x
      · rw [if_pos e1]; rfl
      · rw [if_neg e1, if_pos (show (8 : Int32) ≤ nI 8 from Int32.le_refl _)]; rfl
    | succ f ih =>
      intro nx len fu hnx hl hfu
      obtain ⟨fu, rfl⟩ : ∃ f, fu = f + 1 := ⟨fu - 1, by omega⟩
      show gX5_orbitLength_L1 h s (nI x) _ (nI nx) (nI len) = some (nI (syc (Nat.beq nx x) len (syc (Nat.ble x nx) (syf (tuN N r nx) (fun y => olF N r x f y (Nat.succ len))) 0)))
      generalize hZ : zlp (fun (_ : Int32) (_ : Int32) => (none : Option (Int32))) (gX5_orbitLength_L1 h s (nI x)) fu = Z
      unfold gX5_orbitLength_L1
      by_cases e1 : nx = x
      · rw [if_pos (by rw [e1]), show Nat.beq nx x = true by rw [e1]; exact Nat.beq_refl x]; rfl
      · rw [if_neg (fun hh => e1 ((nI_inj (by omega) (by omega)).mp hh)), if_neg (show ¬ (8 : Int32) ≤ nI len from zge_n (b := 8) (by omega) (by decide)), show Nat.beq nx x = false from Bool.not_eq_true _ ▸ fun hh => e1 (Nat.eq_of_beq_eq_true hh)]
        by_cases e2 : x ≤ nx
        · rw [if_pos (nI_le e2 (by omega)), zlt_, rc, zob_s, turn_ok hc h2 hN hr nx hnx, zbi_s, ← nI_sc, Nat.ble_eq_true_of_le e2, ← hZ]
          show _ = some (nI (syf (tuN N r nx) (fun y => olF N r x f y (Nat.succ len))))
          rw [syf_eq]
          exact ih (tuN N r nx) (len + 1) fu (turn_all h2 hN hr hnx).2.2 (by omega) (by omega)
        · rw [if_neg (zge_n (by omega) (by omega)), sy_ble_f e2]; rfl
  exact hgo 7 (tuN N r x) 1 zFU (turn_all h2 hN hr hx).2.2 rfl (by unfold zFU; omega)
theorem sg1 {g : Nat} (hg : g ≤ 1) : nI (sgI g) = 1 ↔ g = 0 := by
  rcases (show g = 0 ∨ g = 1 by omega) with rfl | rfl
  · exact ⟨fun _ => rfl, fun _ => rfl⟩
  · exact ⟨fun h => absurd h (by decide), fun h => absurd h (by decide)⟩
theorem leads_ok {h : Zh} {s c N r g : Nat} {e d : Int32} (rc : zR h s 10 = some c) (hc : chAt h c N r e d) (h2 : 2 ≤ N) (hN : N ≤ 8) (hr : r ≤ 1) (hg : g ≤ 1) (h12 : zI h s 12 = nI (sgI g)) {x : Nat} (hx : x < 2 ^ N) : gX5_leads h s (nI x) = some (if ldN g (olN N r x) = true then 1 else 0) := by
  have hl := olN_le N r x
  unfold gX5_leads gX5_leads_J1
  rw [orbitLength_ok rc hc h2 hN hr hx, zbi_s, zjn_, h12, (half_fin _ (show olN N r x < 9 by omega)).2, if_neg (show ¬ (2 : Int32) = 0 by decide)]
  generalize olN N r x = l at *
  unfold ldN
  by_cases e0 : l = 0
  · subst e0; rfl
  · rw [if_neg (show ¬ nI l = 0 from fun hh => e0 ((nI_inj (b := 0) (by omega) (by omega)).mp hh)), show Nat.beq l 0 = false from Bool.not_eq_true _ ▸ fun hh => e0 (Nat.eq_of_beq_eq_true hh)]
    rcases (show g = 0 ∨ g = 1 by omega) with rfl | rfl
    · rw [if_pos (show nI (sgI 0) = 1 from rfl)]; rfl
    · rw [if_neg (show ¬ nI (sgI 1) = 1 by decide)]
      have : syc false false (syc (Nat.beq 1 0) true (Nat.beq (Nat.mod l 2) 0)) = Nat.beq (l % 2) 0 := rfl
      rw [this]
      rcases (show l % 2 = 0 ∨ l % 2 = 1 by omega) with e | e <;> rw [e] <;> rfl
/-- only rows of the sector have changed -/
def scM (s : Nat) (h h' : Zh) : Prop := (zN h' = zN h ∧ zS h' = zS h) ∧ (∀ a, zK h' a = zK h a ∧ zL h' a = zL h a) ∧ (∀ a k, zR h' a k = zR h a k) ∧ (∀ a k, a < s ∨ s + 8 < a → zI h' a k = zI h a k) ∧ ∀ a k, a < s ∨ s + 8 < a → zJ h' a k = zJ h a k
theorem scM.rf (s : Nat) (h : Zh) : scM s h h := ⟨⟨rfl, rfl⟩, fun _ => ⟨rfl, rfl⟩, fun _ _ => rfl, fun _ _ _ => rfl, fun _ _ _ => rfl⟩
theorem scM.tr {s : Nat} {h h' h'' : Zh} (p : scM s h h') (q : scM s h' h'') : scM s h h'' := ⟨⟨q.1.1.trans p.1.1, q.1.2.trans p.1.2⟩, fun a => ⟨(q.2.1 a).1.trans (p.2.1 a).1, (q.2.1 a).2.trans (p.2.1 a).2⟩, fun a k => (q.2.2.1 a k).trans (p.2.2.1 a k), fun a k ha => (q.2.2.2.1 a k ha).trans (p.2.2.2.1 a k ha), fun a k ha => (q.2.2.2.2 a k ha).trans (p.2.2.2.2 a k ha)⟩
theorem scM.J {s : Nat} (h : Zh) (a k : Nat) (v : Int64) (ha : s ≤ a ∧ a ≤ s + 8) : scM s h (zsJ h a k v) := ⟨⟨rfl, rfl⟩, fun _ => ⟨rfl, rfl⟩, fun _ _ => rfl, fun _ _ _ => rfl, fun b j hb => by rw [zJ_s, if_neg (fun e => by omega)]⟩
theorem scM.I {s : Nat} (h : Zh) (a k : Nat) (v : Int32) (ha : s ≤ a ∧ a ≤ s + 8) : scM s h (zsI h a k v) := ⟨⟨rfl, rfl⟩, fun _ => ⟨rfl, rfl⟩, fun _ _ => rfl, fun b j hb => by rw [zI_s, if_neg (fun e => by omega)], fun _ _ _ => rfl⟩
theorem scM.W {s : Nat} (h : Zh) (a : Nat) (g : Nat → Int64) (ha : s ≤ a ∧ a ≤ s + 8) : scM s h (wRJ h a g) := ⟨⟨rfl, rfl⟩, fun _ => ⟨rfl, rfl⟩, fun _ _ => rfl, fun _ _ _ => rfl, fun b j hb => wRJ_n h a g b j (by omega)⟩
theorem scM.mv {s : Nat} {h h' : Zh} {o : Nat → Nat} (m : scM s h h') (ho : ∀ a, a < 9 → o (s + a) = 5) : zMv (fun t => t = 5) h o h' o := by
  refine ⟨by rw [m.1.1]; exact Nat.le_refl _, fun _ _ => rfl, fun a ha ht => ?_⟩
  have hs : ¬ (s ≤ a ∧ a < s + 9) := fun hh => ht (by
    have := ho (a - s) (by omega)
    rwa [show s + (a - s) = a by omega] at this)
  exact ⟨(m.2.1 a).1, (m.2.1 a).2, fun k => m.2.2.2.1 a k (by omega), fun k => m.2.2.2.2 a k (by omega), fun k => m.2.2.1 a k⟩
theorem chAt.sc {s : Nat} {h h' : Zh} {c N r : Nat} {e d : Int32} (m : scM s h h') (hc : c < s ∨ s + 8 < c) (p : chAt h c N r e d) : chAt h' c N r e d :=
  ⟨(m.2.2.2.1 c _ hc).trans p.1, (m.2.2.2.1 c _ hc).trans p.2.1, (m.2.2.2.1 c _ hc).trans p.2.2.1, (m.2.2.2.1 c _ hc).trans p.2.2.2.1, (m.2.2.2.1 c _ hc).trans p.2.2.2.2.1, (m.2.2.2.1 c _ hc).trans p.2.2.2.2.2⟩
/-- where a sector's rows lie -/
def seR (h : Zh) (s : Nat) : Prop := ∀ a, a < 8 → zR h s a = some (s + 1 + a) ∧ zL h (s + 1 + a) = [38, 70, 100, 11, 11, 10, 11, 11].getD a 0
theorem seR.mv {s : Nat} {h h' : Zh} (m : scM s h h') (p : seR h s) : seR h' s := fun a ha => ⟨(m.2.2.1 _ _).trans (p a ha).1, (m.2.1 _).2.trans (p a ha).2⟩
def seH (I : Nat → Nat → Int32) (N r m g : Nat) : Prop := I 0 11 = nI m ∧ I 0 12 = nI (sgI g) ∧ I 0 13 = nI (hdL N r m g).length ∧ ∀ i x, (hdL N r m g)[i]? = some x → I 1 i = nI x
noncomputable def hdT (N r m g t : Nat) : List Nat := (List.range t).filter (isH N r m g)
theorem hdT_s (N r m g t : Nat) : hdT N r m g (t + 1) = if isH N r m g t = true then hdT N r m g t ++ [t] else hdT N r m g t := by
  unfold hdT
  rw [List.range_succ, List.filter_append]
  by_cases h : isH N r m g t = true
  · rw [if_pos h, List.filter_cons_of_pos h]; rfl
  · rw [if_neg h, List.filter_cons_of_neg h, List.filter_nil, List.append_nil]
theorem hdT_le (N r m g : Nat) {t t' : Nat} (h : t ≤ t') : (hdT N r m g t).length ≤ (hdT N r m g t').length := by
  obtain ⟨d, rfl⟩ : ∃ d, t' = t + d := ⟨t' - t, by omega⟩
  clear h
  induction d with
  | zero => exact Nat.le_refl _
  | succ d ih =>
    refine Nat.le_trans ih ?_
    show _ ≤ (hdT N r m g (t + d + 1)).length
    rw [hdT_s]
    split
    · rw [List.length_append]; omega
    · exact Nat.le_refl _
noncomputable def peH (N r m g s : Nat) (h : Zh) : Nat → Zh
  | 0 => h
  | t + 1 => if isH N r m g t = true then zsI (zsI (peH N r m g s h t) (s + 1) (hdT N r m g t).length (nI t)) s 13 (nI ((hdT N r m g t).length + 1)) else peH N r m g s h t
theorem peH_ok (N r m g s : Nat) (h : Zh) (h13 : zI h s 13 = 0) : ∀ t, scM s h (peH N r m g s h t) ∧ (∀ b k, zJ (peH N r m g s h t) b k = zJ h b k) ∧ zI (peH N r m g s h t) s 13 = nI (hdT N r m g t).length ∧ (∀ k, k ≠ 13 → zI (peH N r m g s h t) s k = zI h s k) ∧ ∀ i x, (hdT N r m g t)[i]? = some x → zI (peH N r m g s h t) (s + 1) i = nI x
  | 0 => ⟨scM.rf s h, fun _ _ => rfl, h13, fun _ _ => rfl, fun i x hi => by simp [hdT] at hi⟩
  | t + 1 => by
    obtain ⟨a1, a2, a3, a4, a5⟩ := peH_ok N r m g s h h13 t
    show scM s h (if isH N r m g t = true then zsI (zsI (peH N r m g s h t) (s + 1) (hdT N r m g t).length (nI t)) s 13 (nI ((hdT N r m g t).length + 1)) else peH N r m g s h t) ∧ (∀ b k, zJ (if isH N r m g t = true then zsI (zsI (peH N r m g s h t) (s + 1) (hdT N r m g t).length (nI t)) s 13 (nI ((hdT N r m g t).length + 1)) else peH N r m g s h t) b k = zJ h b k) ∧ zI (if isH N r m g t = true then zsI (zsI (peH N r m g s h t) (s + 1) (hdT N r m g t).length (nI t)) s 13 (nI ((hdT N r m g t).length + 1)) else peH N r m g s h t) s 13 = nI (hdT N r m g (t + 1)).length ∧ (∀ k, k ≠ 13 → zI (if isH N r m g t = true then zsI (zsI (peH N r m g s h t) (s + 1) (hdT N r m g t).length (nI t)) s 13 (nI ((hdT N r m g t).length + 1)) else peH N r m g s h t) s k = zI h s k) ∧ ∀ i x, (hdT N r m g (t + 1))[i]? = some x → zI (if isH N r m g t = true then zsI (zsI (peH N r m g s h t) (s + 1) (hdT N r m g t).length (nI t)) s 13 (nI ((hdT N r m g t).length + 1)) else peH N r m g s h t) (s + 1) i = nI x
    rw [hdT_s]
    by_cases e : isH N r m g t = true
    · rw [if_pos e, if_pos e]
      refine ⟨(a1.tr (scM.I _ _ _ _ (by omega))).tr (scM.I _ _ _ _ (by omega)), a2, ?_, fun k hk => ?_, fun i x hi => ?_⟩
      · rw [zI_s, if_pos ⟨rfl, rfl⟩, List.length_append]; rfl
      · rw [zI_s, if_neg (fun hh => hk hh.2), zI_s, if_neg (fun hh => by omega)]; exact a4 k hk
      · rw [zI_s, if_neg (fun hh => by omega), zI_s]
        rcases Nat.lt_or_ge i (hdT N r m g t).length with hlt | hge
        · rw [if_neg (fun hh => by omega)]
          rw [List.getElem?_append_left hlt] at hi
          exact a5 i x hi
        · rw [List.getElem?_append_right hge] at hi
          have h0 : i - (hdT N r m g t).length = 0 := by
            have := (List.getElem?_eq_some_iff.mp hi).1
            have : i - (hdT N r m g t).length < 1 := this
            omega
          rw [h0] at hi
          have : t = x := by simpa using hi
          rw [if_pos ⟨rfl, by omega⟩, this]
    · rw [if_neg e, if_neg e]
      exact ⟨a1, a2, a3, a4, a5⟩
theorem prepL_ok {h : Zh} {s c N r m g : Nat} {e d : Int32} (x : seR h s) (rc : zR h s 10 = some c) (hcs : c < s ∨ s + 8 < c) (hc : chAt h c N r e d) (h2 : 2 ≤ N) (hN : N ≤ 8) (hr : r ≤ 1) (hg : g ≤ 1) (hm : m ≤ N) (h12 : zI h s 12 = nI (sgI g)) (h13 : zI h s 13 = 0) (h38 : (hdL N r m g).length ≤ 38) : zlp (fun (_ : Int32) (_ : Zh) => (none : Option (Zh))) (gX5_prepare_L2 s (some c) (nI m)) zFU 0 h = some (peH N r m g s h (2 ^ N)) := by
  have h256 : 2 ^ N ≤ 2 ^ 8 := Nat.pow_le_pow_right (by decide) hN
  refine zlp_it (R := Option Zh) (z := fun (_ : Int32) (_ : Zh) => (none : Option (Zh))) (F := gX5_prepare_L2 s (some c) (nI m)) (fun t (F : Int32 → Zh → Option Zh) => F (nI t) (peH N r m g s h t)) _ (2 ^ N) ?_ ?_ zFU (by unfold zFU; omega)
  · intro t ht rr
    obtain ⟨a1, a2, a3, a4, a5⟩ := peH_ok N r m g s h h13 t
    have hl38 : (hdT N r m g t).length ≤ 38 := Nat.le_trans (hdT_le N r m g (Nat.le_of_lt ht)) h38
    show gX5_prepare_L2 s (some c) (nI m) rr (nI t) (peH N r m g s h t) = rr (nI (t + 1)) (if isH N r m g t = true then zsI (zsI (peH N r m g s h t) (s + 1) (hdT N r m g t).length (nI t)) s 13 (nI ((hdT N r m g t).length + 1)) else peH N r m g s h t)
    have hs1 := hdT_s N r m g t
    have hle := hdT_le N r m g (show t + 1 ≤ 2 ^ N from ht)
    generalize peH N r m g s h t = G at *
    have hcG := hc.sc a1 hcs
    have rcG : zR G s 10 = some c := (a1.2.2.1 _ _).trans rc
    have h12G : zI G s 12 = nI (sgI g) := (a4 12 (by decide)).trans h12
    have r0 : zR G s 0 = some (s + 1) := ((x.mv a1) 0 (by omega)).1
    have l0 : zL G (s + 1) = 38 := ((x.mv a1) 0 (by omega)).2
    have hJ : ∀ k, gX5_prepare_J1 (nI t) rr k = rr (nI (t + 1)) k := fun k => by unfold gX5_prepare_J1; rw [← nI_sc]
    have hpo : poN t < 16 := Nat.mod_lt _ (by decide)
    unfold gX5_prepare_L2
    rw [zob_s, hcG.2.2.2.2.1, if_neg (zge_n ht (by omega)), (popc_ok (show t < 256 by omega)).2, zbi_s, zjn_]
    by_cases e1 : poN t = m
    · have hi : isH N r m g t = ldN g (olN N r t) := by
        unfold isH
        rw [show Nat.beq (poN t) m = true by rw [e1]; exact Nat.beq_refl m]
        exact syf_eq _ _
      rw [if_pos (show nI (syg 4 popK t) = nI m by rw [← e1]), leads_ok rcG hcG h2 hN hr hg h12G ht, zbi_s]
      by_cases e2 : ldN g (olN N r t) = true
      · have hlt : (hdT N r m g t).length < 38 := by
          rw [hi, if_pos e2] at hs1
          rw [hs1, List.length_append] at hle
          exact Nat.lt_of_lt_of_le (Nat.lt_of_lt_of_le (Nat.lt_succ_self _) hle) h38
        have iz : zin (nI (hdT N r m g t).length) (zL G (s + 1)) = true := by rw [l0]; exact zin_nI hlt (by omega)
        have h13' : zI (zsI G (s + 1) (hdT N r m g t).length (nI t)) s 13 = nI (hdT N r m g t).length := by rw [zI_s, if_neg (fun hh => by omega)]; exact a3
        rw [if_pos e2, if_neg (show ¬ (1 : Int32) = 0 by decide), zlt_, r0, zob_s, a3, l0, if_neg (show ¬ Int32.ofNat 38 ≤ nI (hdT N r m g t).length from zge_n (b := 38) hlt (by decide)), zlt_, zob_s, iz, zg_1, zx_nI (by omega), zlt_, h13', zlt_, hJ, hi, if_pos e2, ← nI_sc]
      · rw [if_neg e2, if_pos rfl, hJ, hi, if_neg e2]
    · have hi : isH N r m g t = false := by
        unfold isH
        rw [show Nat.beq (poN t) m = false from Bool.not_eq_true _ ▸ fun hh => e1 (Nat.eq_of_beq_eq_true hh)]
        rfl
      rw [if_neg (show ¬ nI (syg 4 popK t) = nI m from fun hh => e1 ((nI_inj (by omega) (by omega)).mp hh)), hJ, hi, if_neg (by decide)]
  · intro rr
    obtain ⟨a1, -, -, -, -⟩ := peH_ok N r m g s h h13 (2 ^ N)
    have hcG := hc.sc a1 hcs
    show gX5_prepare_L2 s (some c) (nI m) rr (nI (2 ^ N)) (peH N r m g s h (2 ^ N)) = _
    unfold gX5_prepare_L2
    rw [zob_s, hcG.2.2.2.2.1, if_pos (Int32.le_refl _)]
