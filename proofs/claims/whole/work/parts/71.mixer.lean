/-! the mixer: words that come to it in order -/
def anyB (E : List (Nat × Int64 × Int64)) : Prop := ∃ c ∈ E, bigJ c.2.1 ∨ bigJ c.2.2
def mxE (h : Zh) (s : Nat) (E : List (Nat × Int64 × Int64)) : Prop := zI h s 6 = nI E.length ∧ ((zI h s 7 = 0 ∧ ¬ anyB E) ∨ (zI h s 7 = 1 ∧ anyB E)) ∧ ∀ i c, E[i]? = some c → i < 60 → zI h (s + 1) i = nI c.1 ∧ zI h (s + 2) i = c.2.1.toInt32 ∧ zI h (s + 3) i = c.2.2.toInt32
/-- shape of the mixer's cells -/
def mxS (h : Zh) (o : Nat → Nat) (s p q n : Nat) : Prop := (∀ a, a < 5 → s + a < zN h ∧ o (s + a) = 3) ∧ (p < zN h ∧ o p = 3) ∧ (q < zN h ∧ o q = 3) ∧ (s + 4 < p ∧ p < q) ∧ (∀ a, a < 4 → zR h s a = some (s + 1 + a)) ∧ (zR h s 4 = some p ∧ zR h s 5 = some q) ∧ (zL h (s + 1) = 60 ∧ zL h (s + 2) = 60 ∧ zL h (s + 3) = 60 ∧ zL h (s + 4) = 257) ∧ (zL h p = n ∧ zL h q = n) ∧ n ∈ [64, 128, 256, 512, 1024, 2048, 4096]
/-- only words and sums of the mixer have changed -/
def mxM (s : Nat) (h h' : Zh) : Prop := (zN h' = zN h ∧ zS h' = zS h) ∧ (∀ a, zK h' a = zK h a ∧ zL h' a = zL h a) ∧ (∀ a k, zR h' a k = zR h a k) ∧ (∀ a k, a ≠ s → zJ h' a k = zJ h a k) ∧ ∀ a k, a < s ∨ s + 3 < a → zI h' a k = zI h a k
theorem mxM.rf (s : Nat) (h : Zh) : mxM s h h := ⟨⟨rfl, rfl⟩, fun _ => ⟨rfl, rfl⟩, fun _ _ => rfl, fun _ _ _ => rfl, fun _ _ _ => rfl⟩
theorem mxM.tr {s : Nat} {h h' h'' : Zh} (p : mxM s h h') (q : mxM s h' h'') : mxM s h h'' := ⟨⟨q.1.1.trans p.1.1, q.1.2.trans p.1.2⟩, fun a => ⟨(q.2.1 a).1.trans (p.2.1 a).1, (q.2.1 a).2.trans (p.2.1 a).2⟩, fun a k => (q.2.2.1 a k).trans (p.2.2.1 a k), fun a k ha => (q.2.2.2.1 a k ha).trans (p.2.2.2.1 a k ha), fun a k ha => (q.2.2.2.2 a k ha).trans (p.2.2.2.2 a k ha)⟩
theorem mxM.J {s : Nat} (h : Zh) (k : Nat) (v : Int64) : mxM s h (zsJ h s k v) := ⟨⟨rfl, rfl⟩, fun _ => ⟨rfl, rfl⟩, fun _ _ => rfl, fun a j ha => by rw [zJ_s, if_neg (fun e => ha e.1)], fun _ _ _ => rfl⟩
theorem mxM.I {s : Nat} (h : Zh) (a k : Nat) (v : Int32) (ha : s ≤ a ∧ a ≤ s + 3) : mxM s h (zsI h a k v) := ⟨⟨rfl, rfl⟩, fun _ => ⟨rfl, rfl⟩, fun _ _ => rfl, fun _ _ _ => rfl, fun b j hb => by rw [zI_s, if_neg (fun e => by omega)]⟩
theorem mxM.mv {s : Nat} {h h' : Zh} {o : Nat → Nat} (m : mxM s h h') (ho : ∀ a, a < 5 → o (s + a) = 3) : zMv (fun t => t = 3) h o h' o := by
  refine ⟨by rw [m.1.1]; exact Nat.le_refl _, fun _ _ => rfl, fun a ha ht => ?_⟩
  have hs : ¬ (s ≤ a ∧ a < s + 5) := fun hh => ht (by
    have := ho (a - s) (by omega)
    rwa [show s + (a - s) = a by omega] at this)
  exact ⟨(m.2.1 a).1, (m.2.1 a).2, fun k => m.2.2.2.2 a k (by omega), fun k => m.2.2.2.1 a k (by omega), fun k => m.2.2.1 a k⟩
theorem mxS.mv {s p q n : Nat} {h h' : Zh} {o : Nat → Nat} (m : mxM s h h') (x : mxS h o s p q n) : mxS h' o s p q n := by
  obtain ⟨x1, x2, x3, x4, x5, ⟨x6, x7⟩, ⟨y1, y2, y3, y4⟩, ⟨z1, z2⟩, x9⟩ := x
  have hL := fun a => (m.2.1 a).2
  exact ⟨fun a ha => ⟨by rw [m.1.1]; exact (x1 a ha).1, (x1 a ha).2⟩, ⟨by rw [m.1.1]; exact x2.1, x2.2⟩, ⟨by rw [m.1.1]; exact x3.1, x3.2⟩, x4, fun a ha => (m.2.2.1 _ _).trans (x5 a ha), ⟨(m.2.2.1 _ _).trans x6, (m.2.2.1 _ _).trans x7⟩, ⟨(hL _).trans y1, (hL _).trans y2, (hL _).trans y3, (hL _).trans y4⟩, ⟨(hL _).trans z1, (hL _).trans z2⟩, x9⟩
def emL (key : Nat) (re im : Int64) : List (Nat × Int64 × Int64) := if re = 0 ∧ im = 0 then [] else [(key, re, im)]
theorem mxE.J {h : Zh} {s k : Nat} {v : Int64} {E : List (Nat × Int64 × Int64)} (e : mxE h s E) : mxE (zsJ h s k v) s E := e
theorem emit_ok {h : Zh} {o : Nat → Nat} {s p q n : Nat} (hx : mxS h o s p q n) {E : List (Nat × Int64 × Int64)} (he : mxE h s E) (hl : E.length < 100000) (key : Nat) (re im : Int64) : ∃ h', gX3_emit h s (nI key) re im = some h' ∧ mxM s h h' ∧ mxE h' s (E ++ emL key re im) ∧ ∀ a k, zJ h' a k = zJ h a k := by
  obtain ⟨e1, e2, e3⟩ := he
  have r0 : zR h s 0 = some (s + 1) := hx.2.2.2.2.1 0 (by omega)
  have r1 : zR h s 1 = some (s + 2) := hx.2.2.2.2.1 1 (by omega)
  have r2 : zR h s 2 = some (s + 3) := hx.2.2.2.2.1 2 (by omega)
  obtain ⟨l1, l2, l3, -⟩ := hx.2.2.2.2.2.2.1
  have c1 := cmp0 re
  have c2 := cmp0 im
  unfold gX3_emit
  rw [zjn_]
  by_cases hz : re = 0 ∧ im = 0
  · rw [if_pos (c1.mpr hz.1), if_pos (c2.mpr hz.2)]
    refine ⟨h, rfl, mxM.rf s h, ?_, fun _ _ => rfl⟩
    unfold emL
    rw [if_pos hz, List.append_nil]
    exact ⟨e1, e2, e3⟩
  · have hgo : ∀ (K : Option Zh), (if lg_cmp re 0 = 0 then if lg_cmp im 0 = 0 then some h else K else K) = K := fun K => by
      by_cases h1 : re = 0
      · rw [if_pos (c1.mpr h1), if_neg (fun hh => hz ⟨h1, c2.mp hh⟩)]
      · rw [if_neg (fun hh => h1 (c1.mp hh))]
    rw [hgo]
    -- the words put, if there is room
    have hput : ∃ h4, gX3_emit_J4 h s (nI key) re im = gX3_emit_J3 s re im h4 ∧ mxM s h h4 ∧ (∀ a k, zJ h4 a k = zJ h a k) ∧ (∀ k, zI h4 s k = zI h s k) ∧ ∀ i c, (E ++ [(key, re, im)])[i]? = some c → i < 60 → zI h4 (s + 1) i = nI c.1 ∧ zI h4 (s + 2) i = c.2.1.toInt32 ∧ zI h4 (s + 3) i = c.2.2.toInt32 := by
      unfold gX3_emit_J4
      rw [zjn_, e1]
      by_cases h60 : 60 ≤ E.length
      · rw [if_pos (show (60 : Int32) ≤ nI E.length from nI_le (a := 60) h60 (by omega))]
        refine ⟨h, rfl, mxM.rf s h, fun _ _ => rfl, fun _ => rfl, fun i c hc hi => ?_⟩
        rw [List.getElem?_append_left (by omega)] at hc
        exact e3 i c hc hi
      · rw [if_neg (show ¬ (60 : Int32) ≤ nI E.length from zge_n (b := 60) (by omega) (by decide))]
        have i1 : zin (nI E.length) (zL h (s + 1)) = true := by rw [l1]; exact zin_nI (by omega) (by omega)
        have i2 : zin (nI E.length) (zL h (s + 2)) = true := by rw [l2]; exact zin_nI (by omega) (by omega)
        have i3 : zin (nI E.length) (zL h (s + 3)) = true := by rw [l3]; exact zin_nI (by omega) (by omega)
        have s1 : ∀ (g : Zh) (a k j : Nat) (v : Int32), s < a → zI (zsI g a k v) s j = zI g s j := fun g a k j v ha => by rw [zI_s, if_neg (by omega)]
        repeat (first | rw [r0] | rw [i1] | rw [zx_nI (show E.length < 2 ^ 31 by omega)] | rw [zR_sI] | rw [zL_sI] | rw [r1] | rw [s1 _ _ _ _ _ (show s < s + 1 by omega)] | rw [e1] | rw [i2] | rw [r2] | rw [s1 _ _ _ _ _ (show s < s + 2 by omega)] | rw [i3] | rw [zlt_] | rw [zjn_] | rw [zob_s] | rw [zg_1] | rw [zbi_s] | rw [zbI_s] | rw [zbr_s] | rw [zbR_s] | rw [zbV_s] | rw [zbj_s] | rw [zbJ_s] | rw [zcs_s] | rw [zcs_n])
        refine ⟨_, rfl, ((mxM.I h (s + 1) _ _ (by omega)).tr (mxM.I _ (s + 2) _ _ (by omega))).tr (mxM.I _ (s + 3) _ _ (by omega)), fun _ _ => rfl, fun k => ?_, fun i c hc hi => ?_⟩
        · rw [s1 _ _ _ _ _ (by omega), s1 _ _ _ _ _ (by omega), s1 _ _ _ _ _ (by omega)]
        · by_cases hie : i = E.length
          · subst hie
            rw [List.getElem?_append_right (Nat.le_refl _), Nat.sub_self] at hc
            obtain rfl : (key, re, im) = c := Option.some.inj hc
            refine ⟨?_, ?_, ?_⟩ <;> simp [zI_s]
          · have hlt : i < E.length := by
              have := (List.getElem?_eq_some_iff.mp hc).1
              rw [List.length_append] at this
              simp at this
              omega
            rw [List.getElem?_append_left hlt] at hc
            obtain ⟨b1, b2, b3⟩ := e3 i c hc hi
            refine ⟨?_, ?_, ?_⟩
            · simp [zI_s, hie, b1]
            · simp [zI_s, hie, b2]
            · simp [zI_s, hie, b3]
    obtain ⟨h4, p1, p2, p3, p4, p5⟩ := hput
    rw [p1]
    unfold gX3_emit_J3
    rw [zlt_, p4, e1, ← nI_sc, zjn_, zjn_]
    have e7 : zI (zsI h4 s 6 (nI (E.length + 1))) s 7 = zI h s 7 := by rw [zI_s, if_neg (by omega), p4]
    rw [e7]
    have hem : emL key re im = [(key, re, im)] := if_neg hz
    have hfin : ∀ (x : Int32) (fl : (x = 0 ∧ ¬ anyB (E ++ [(key, re, im)])) ∨ (x = 1 ∧ anyB (E ++ [(key, re, im)]))), ∃ h', gX3_emit_J1 s (zsI h4 s 6 (nI (E.length + 1))) x = some h' ∧ mxM s h h' ∧ mxE h' s (E ++ emL key re im) ∧ ∀ a k, zJ h' a k = zJ h a k := by
      intro x fl
      have hbl : zbl x = true := by
        rcases fl with ⟨rfl, -⟩ | ⟨rfl, -⟩ <;> rfl
      unfold gX3_emit_J1
      rw [hbl, zg_1, zlt_]
      refine ⟨_, rfl, (p2.tr (mxM.I _ s _ _ (by omega))).tr (mxM.I _ s _ _ (by omega)), ?_, fun a k => p3 a k⟩
      rw [hem]
      refine ⟨?_, ?_, fun i c hc hi => ?_⟩
      · rw [zI_s, if_neg (by omega), zI_se, List.length_append]; rfl
      · rw [zI_se]; exact fl
      · have hs1 : ∀ (b : Nat), 1 ≤ b → zI (zsI (zsI h4 s 6 (nI (E.length + 1))) s 7 x) (s + b) i = zI h4 (s + b) i := fun b hb => by
          rw [zI_s, if_neg (by omega), zI_s, if_neg (by omega)]
        rw [hs1 1 (by omega), hs1 2 (by omega), hs1 3 (by omega)]
        exact p5 i c hc hi
    have hbn : anyB (E ++ [(key, re, im)]) ↔ anyB E ∨ bigJ re ∨ bigJ im := by
      constructor
      · rintro ⟨c, hc, hb⟩
        rcases List.mem_append.mp hc with hc | hc
        · exact Or.inl ⟨c, hc, hb⟩
        · rw [List.mem_singleton] at hc
          subst hc
          exact Or.inr hb
      · rintro (⟨c, hc, hb⟩ | hb)
        · exact ⟨c, List.mem_append_left _ hc, hb⟩
        · exact ⟨_, List.mem_append_right _ (List.mem_singleton.mpr rfl), hb⟩
    unfold gX3_emit_J2
    rcases e2 with ⟨e2, n2⟩ | ⟨e2, n2⟩
    · rw [e2, if_pos rfl, abs_ok, zbj_s, abs_ok]
      by_cases b1 : (0 : Int32) < lg_cmp (ab re) 1000000
      · rw [if_pos b1]
        exact hfin 1 (Or.inr ⟨rfl, hbn.mpr (Or.inr (Or.inl ((lg_cmp_gt _ _).mp b1)))⟩)
      · rw [if_neg b1, zbj_s]
        by_cases b2 : lg_cmp (ab im) 1000000 ≤ 0
        · rw [if_pos b2]
          refine hfin 0 (Or.inl ⟨rfl, fun hh => ?_⟩)
          rcases hbn.mp hh with hh | hh | hh
          · exact n2 hh
          · exact b1 ((lg_cmp_gt _ _).mpr hh)
          · exact absurd ((lg_cmp_gt _ _).mpr hh) (Int32.not_lt.mpr b2)
        · rw [if_neg b2]
          exact hfin 1 (Or.inr ⟨rfl, hbn.mpr (Or.inr (Or.inr ((lg_cmp_gt _ _).mp (Int32.not_le.mp b2))))⟩)
    · rw [e2, if_neg (by decide)]
      exact hfin 1 (Or.inr ⟨rfl, hbn.mpr (Or.inl n2)⟩)
theorem begin_ok (h : Zh) (s : Nat) : ∃ h', gX3_begin h s = some h' ∧ mxM s h h' ∧ mxE h' s [] ∧ ∀ a k, zJ h' a k = zJ h a k := by
  refine ⟨_, rfl, (mxM.I h s _ _ (by omega)).tr (mxM.I _ s _ _ (by omega)), ⟨?_, Or.inl ⟨?_, fun ⟨c, hc, _⟩ => by cases hc⟩, fun i c hc => by cases hc⟩, fun _ _ => rfl⟩
  · rw [zI_s, if_neg (by omega), zI_se]; rfl
  · rw [zI_se]
theorem fits_ok {h : Zh} {s : Nat} {E : List (Nat × Int64 × Int64)} (he : mxE h s E) (hl : E.length < 100000) : ∃ x : Int32, gX3_fits h s = some x ∧ ((x = 1 ∧ E.length ≤ 60 ∧ ¬ anyB E) ∨ (x = 0 ∧ (60 < E.length ∨ anyB E))) := by
  unfold gX3_fits gX3_fits_J1
  rw [zjn_, he.1]
  by_cases h60 : E.length ≤ 60
  · rw [if_neg (show ¬ (60 : Int32) < nI E.length from nI_nlt (a := 60) h60 (by decide))]
    rcases he.2.1 with ⟨e, n2⟩ | ⟨e, n2⟩
    · rw [e, if_pos rfl]
      exact ⟨1, rfl, Or.inl ⟨rfl, h60, n2⟩⟩
    · rw [e, if_neg (by decide)]
      exact ⟨0, rfl, Or.inr ⟨rfl, Or.inr n2⟩⟩
  · rw [if_pos (show (60 : Int32) < nI E.length from nI_lt (a := 60) (by omega) (by omega))]
    exact ⟨0, rfl, Or.inr ⟨rfl, Or.inl (by omega)⟩⟩
