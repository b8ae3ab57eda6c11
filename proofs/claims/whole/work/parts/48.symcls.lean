noncomputable def sX0_pairBits (e : Se) (t : Sy) (a0 : Nat) (c1 : Nat) : Option (Nat) :=
  srI t a0 0 (fun c21 => syc (Nat.ble (syo32 (Nat.add c21 (syn32 1))) (syo32 c1)) (srI t a0 0 (fun c22 => some (Nat.lor 1 (Nat.shiftLeft 1 (Nat.mod (Nat.add c22 (syn32 1)) 32)))))
  (some (Nat.shiftLeft 3 (Nat.mod c1 32))))
theorem sX0_pairBits_ok {ι : Nat → Nat} {e : Se} {h0 h : Zh} {t : Sy} (hι : ∀ a b, ι a = ι b → a = b) (qt : syR ι e h0 t h) {x0 : Nat} {a0 : Nat} {x1 : Int32} {c1 : Nat} (q0 : yA ι x0 a0) (q1 : yI x1 c1) : Sm (fun b a => yI a b) (sX0_pairBits e t a0 c1) (gX0_pairBits h x0 x1) := by
  unfold sX0_pairBits gX0_pairBits
  refine sm_rI qt q0 rfl (fun c21 q21 => ?_)
  refine sm_if (sy_le32 (yI_sub q21 (yI_lit 1)) q1) ?_ ?_
  · refine sm_rI qt q0 rfl (fun c22 q22 => ?_)
    exact sm_some (yI_or (yI_lit 1) (yI_shl (yI_lit 1) (yI_sub q22 (yI_lit 1))))
  · exact sm_some (yI_shl (yI_lit 3) q1)
noncomputable def sX0_pairsOf_J1 (c23 : Nat) (k24 : Nat → Nat → Option (Nat)) : Nat → Option (Nat) :=
  fun (c27 : Nat) => syf (Nat.add c23 1) (fun c28 => k24 c27 c28)
noncomputable def sX0_pairsOf_L2 (e : Se) (t : Sy) (a0 : Nat) (c1 : Nat) : (Nat → Nat → Option (Nat)) → Nat → Nat → Option (Nat) :=
  fun (k24 : Nat → Nat → Option (Nat)) (c22 : Nat) (c23 : Nat) => srI t a0 5 (fun c25 => syc (Nat.ble (syo32 c25) (syo32 c23)) (some c22)
  (sbi (sX0_pairBits e t a0 c23) (fun c26 => zjn (sX0_pairsOf_J1 c23 k24) (fun (k29 : Nat → Option (Nat)) =>
  syc (Nat.beq (Nat.mod c26 4294967296) (Nat.mod c1 4294967296)) (syf (Nat.add c22 1) (fun c30 => k29 c30))
  (k29 c22)))))
noncomputable def sX0_pairsOf (e : Se) (t : Sy) (a0 : Nat) (c1 : Nat) : Option (Nat) :=
  sbi (sJ6_bitCount_0f7a4 c1) (fun c21 => syc (Nat.beq (Nat.mod c21 4294967296) (Nat.mod 2 4294967296)) (syl (fun _ _ => (none : Option (Nat))) (sX0_pairsOf_L2 e t a0 c1) zFU 0 0)
  (some 0))
theorem sX0_pairsOf_ok {ι : Nat → Nat} {e : Se} {h0 h : Zh} {t : Sy} (hι : ∀ a b, ι a = ι b → a = b) (qt : syR ι e h0 t h) {x0 : Nat} {a0 : Nat} {x1 : Int32} {c1 : Nat} (q0 : yA ι x0 a0) (q1 : yI x1 c1) : Sm (fun b a => yI a b) (sX0_pairsOf e t a0 c1) (gX0_pairsOf h x0 x1) := by
  unfold sX0_pairsOf gX0_pairsOf
  refine sm_bi (sJ6_bitCount_0f7a4_ok q1) (fun _ c21 q21 => ?_)
  refine sm_if (sy_eq32 q21 (yI_lit 2)) ?_ ?_
  · refine sm_lp (fun (k' : Nat → Nat → Option (Nat)) (k : Int32 → Int32 → Option (Int32)) => ∀ (c22 : Nat) (x22 : Int32) (c23 : Nat) (x23 : Int32), yI x22 c22 → yI x23 c23 → Sm (fun b a => yI a b) (k' c22 c23) (k x22 x23)) ?_ ?_ zFU _ _ _ _ (yI_lit 0) (yI_lit 0)
    · exact fun _ _ _ _ _ _ => sm_none
    intro k24 gk24 hk24
    intro c22 x22 c23 x23 q22 q23
    unfold sX0_pairsOf_L2 gX0_pairsOf_L2
    refine sm_rI qt q0 rfl (fun c25 q25 => ?_)
    refine sm_if (sy_le32 q25 q23) ?_ ?_
    · exact sm_some q22
    · refine sm_bi (sX0_pairBits_ok hι qt q0 q23) (fun _ c26 q26 => ?_)
      refine sm_jn (fun (k' : Nat → Option (Nat)) (k : Int32 → Option (Int32)) => ∀ (c27 : Nat) (x27 : Int32), yI x27 c27 → Sm (fun b a => yI a b) (k' c27) (k x27)) ?_ ?_
      · intro c27 x27 q27
        unfold sX0_pairsOf_J1 gX0_pairsOf_J1
        refine sm_f ?_
        exact hk24 _ _ _ _ q27 (yI_add q23 (yI_lit 1))
      intro k29 gk29 hk29
      refine sm_if (sy_eq32 q26 q1) ?_ ?_
      · refine sm_f ?_
        exact hk29 _ _ (yI_add q22 (yI_lit 1))
      · exact hk29 _ _ q22
  · exact sm_some (yI_lit 0)
noncomputable def sX0_onward (e : Se) (t : Sy) (a0 : Nat) (c1 : Nat) : Option (Nat) :=
  srI t a0 0 (fun c21 => srI t a0 4 (fun c22 => some (Nat.land (Nat.lor (Nat.shiftLeft c1 (Nat.mod 1 32)) (sysr c1 (Nat.add c21 (syn32 1)))) (Nat.add c22 (syn32 1)))))
theorem sX0_onward_ok {ι : Nat → Nat} {e : Se} {h0 h : Zh} {t : Sy} (hι : ∀ a b, ι a = ι b → a = b) (qt : syR ι e h0 t h) {x0 : Nat} {a0 : Nat} {x1 : Int32} {c1 : Nat} (q0 : yA ι x0 a0) (q1 : yI x1 c1) : Sm (fun b a => yI a b) (sX0_onward e t a0 c1) (gX0_onward h x0 x1) := by
  unfold sX0_onward gX0_onward
  refine sm_rI qt q0 rfl (fun c21 q21 => ?_)
  refine sm_rI qt q0 rfl (fun c22 q22 => ?_)
  exact sm_some (yI_and (yI_or (yI_shl q1 (yI_lit 1)) (yI_shr q1 (yI_sub q21 (yI_lit 1)))) (yI_sub q22 (yI_lit 1)))
noncomputable def sX0_mirrored_L1 (t : Sy) (a0 : Nat) (c1 : Nat) : (Nat → Nat → Option (Nat)) → Nat → Nat → Option (Nat) :=
  fun (k23 : Nat → Nat → Option (Nat)) (c21 : Nat) (c22 : Nat) => srI t a0 0 (fun c24 => syc (Nat.ble (syo32 c24) (syo32 c22)) (some c21)
  (syf (Nat.lor (Nat.shiftLeft c21 (Nat.mod 1 32)) (Nat.land (sysr c1 c22) 1)) (fun c25 => syf (Nat.add c22 1) (fun c26 => k23 c25 c26))))
noncomputable def sX0_mirrored (e : Se) (t : Sy) (a0 : Nat) (c1 : Nat) : Option (Nat) :=
  syl (fun _ _ => (none : Option (Nat))) (sX0_mirrored_L1 t a0 c1) zFU 0 0
theorem sX0_mirrored_ok {ι : Nat → Nat} {e : Se} {h0 h : Zh} {t : Sy} (hι : ∀ a b, ι a = ι b → a = b) (qt : syR ι e h0 t h) {x0 : Nat} {a0 : Nat} {x1 : Int32} {c1 : Nat} (q0 : yA ι x0 a0) (q1 : yI x1 c1) : Sm (fun b a => yI a b) (sX0_mirrored e t a0 c1) (gX0_mirrored h x0 x1) := by
  unfold sX0_mirrored gX0_mirrored
  refine sm_lp (fun (k' : Nat → Nat → Option (Nat)) (k : Int32 → Int32 → Option (Int32)) => ∀ (c21 : Nat) (x21 : Int32) (c22 : Nat) (x22 : Int32), yI x21 c21 → yI x22 c22 → Sm (fun b a => yI a b) (k' c21 c22) (k x21 x22)) ?_ ?_ zFU _ _ _ _ (yI_lit 0) (yI_lit 0)
  · exact fun _ _ _ _ _ _ => sm_none
  intro k23 gk23 hk23
  intro c21 x21 c22 x22 q21 q22
  unfold sX0_mirrored_L1 gX0_mirrored_L1
  refine sm_rI qt q0 rfl (fun c24 q24 => ?_)
  refine sm_if (sy_le32 q24 q22) ?_ ?_
  · exact sm_some q21
  · refine sm_lti (yI_or (yI_shl q21 (yI_lit 1)) (yI_and (yI_shr q1 q22) (yI_lit 1))) (fun _ c25 q25 => ?_)
    refine sm_f ?_
    exact hk23 _ _ _ _ q25 (yI_add q22 (yI_lit 1))
noncomputable def sX0_turn (e : Se) (t : Sy) (a0 : Nat) (c1 : Nat) : Option (Nat) :=
  srI t a0 1 (fun c21 => syc (Nat.beq (Nat.mod c21 4294967296) (Nat.mod 0 4294967296)) (sbi (sX0_mirrored e t a0 c1) (fun c22 => some c22))
  (sbi (sX0_onward e t a0 c1) (fun c23 => some c23)))
theorem sX0_turn_ok {ι : Nat → Nat} {e : Se} {h0 h : Zh} {t : Sy} (hι : ∀ a b, ι a = ι b → a = b) (qt : syR ι e h0 t h) {x0 : Nat} {a0 : Nat} {x1 : Int32} {c1 : Nat} (q0 : yA ι x0 a0) (q1 : yI x1 c1) : Sm (fun b a => yI a b) (sX0_turn e t a0 c1) (gX0_turn h x0 x1) := by
  unfold sX0_turn gX0_turn
  refine sm_rI qt q0 rfl (fun c21 q21 => ?_)
  refine sm_if (sy_eq32 q21 (yI_lit 0)) ?_ ?_
  · refine sm_bi (sX0_mirrored_ok hι qt q0 q1) (fun _ c22 q22 => ?_)
    exact sm_some q22
  · refine sm_bi (sX0_onward_ok hι qt q0 q1) (fun _ c23 q23 => ?_)
    exact sm_some q23
noncomputable def sX0_stay_J1 (t : Sy) (a0 : Nat) : Nat → Option (Nat) :=
  fun (c22 : Nat) => srI t a0 3 (fun c23 => srI t a0 5 (fun c24 => sbi (sJ6_bitCount_0f7a4 c22) (fun c25 => some (Nat.mul c23 (Nat.add c24 (syn32 (Nat.mul 2 c25)))))))
noncomputable def sX0_stay (e : Se) (t : Sy) (a0 : Nat) (c1 : Nat) : Option (Nat) :=
  srI t a0 1 (fun c21 => zjn (sX0_stay_J1 t a0) (fun (k26 : Nat → Option (Nat)) =>
  syc (Nat.beq (Nat.mod c21 4294967296) (Nat.mod 0 4294967296)) (srI t a0 4 (fun c27 => syc (Nat.beq (Nat.mod 2 4294967296) (Nat.mod 0 4294967296)) none (syf (Nat.land (Nat.xor c1 (sysr c1 1)) (Nat.add (syd 4294967296 (Nat.mod c27 4294967296) (Nat.mod 2 4294967296)) (syn32 1))) (fun c28 => k26 c28))))
  (sbi (sX0_onward e t a0 c1) (fun c29 => syf (Nat.xor c1 c29) (fun c30 => k26 c30)))))
theorem sX0_stay_ok {ι : Nat → Nat} {e : Se} {h0 h : Zh} {t : Sy} (hι : ∀ a b, ι a = ι b → a = b) (qt : syR ι e h0 t h) {x0 : Nat} {a0 : Nat} {x1 : Int32} {c1 : Nat} (q0 : yA ι x0 a0) (q1 : yI x1 c1) : Sm (fun b a => yI a b) (sX0_stay e t a0 c1) (gX0_stay h x0 x1) := by
  unfold sX0_stay gX0_stay
  refine sm_rI qt q0 rfl (fun c21 q21 => ?_)
  refine sm_jn (fun (k' : Nat → Option (Nat)) (k : Int32 → Option (Int32)) => ∀ (c22 : Nat) (x22 : Int32), yI x22 c22 → Sm (fun b a => yI a b) (k' c22) (k x22)) ?_ ?_
  · intro c22 x22 q22
    unfold sX0_stay_J1 gX0_stay_J1
    refine sm_rI qt q0 rfl (fun c23 q23 => ?_)
    refine sm_rI qt q0 rfl (fun c24 q24 => ?_)
    refine sm_bi (sJ6_bitCount_0f7a4_ok q22) (fun _ c25 q25 => ?_)
    exact sm_some (yI_mul q23 (yI_sub q24 (yI_mul (yI_lit 2) q25)))
  intro k26 gk26 hk26
  refine sm_if (sy_eq32 q21 (yI_lit 0)) ?_ ?_
  · refine sm_rI qt q0 rfl (fun c27 q27 => ?_)
    refine sm_if (sy_eq32 (yI_lit 2) (yI_lit 0)) sm_none ?_
    refine sm_f ?_
    exact hk26 _ _ (yI_and (yI_xor q1 (yI_shr q1 (yI_lit 1))) (yI_sub (yI_div q27 (yI_lit 2)) (yI_lit 1)))
  · refine sm_bi (sX0_onward_ok hι qt q0 q1) (fun _ c29 q29 => ?_)
    refine sm_f ?_
    exact hk26 _ _ (yI_xor q1 q29)
noncomputable def sX0_hop (e : Se) (t : Sy) (a0 : Nat) (c1 : Nat) (c2 : Nat) : Option (Nat) :=
  syc (Nat.beq (Nat.mod c1 4294967296) (Nat.mod c2 4294967296)) (sbi (sX0_stay e t a0 c1) (fun c25 => some c25))
  (syf (Nat.xor c1 c2) (fun c21 => syf (Nat.land c1 c21) (fun c22 => syc (Nat.beq (Nat.mod c22 4294967296) (Nat.mod 0 4294967296)) (some 0)
  (syc (Nat.beq (Nat.mod c22 4294967296) (Nat.mod c21 4294967296)) (some 0)
  (srI t a0 2 (fun c23 => sbi (sX0_pairsOf e t a0 c21) (fun c24 => some (Nat.mul c23 c24))))))))
theorem sX0_hop_ok {ι : Nat → Nat} {e : Se} {h0 h : Zh} {t : Sy} (hι : ∀ a b, ι a = ι b → a = b) (qt : syR ι e h0 t h) {x0 : Nat} {a0 : Nat} {x1 : Int32} {c1 : Nat} {x2 : Int32} {c2 : Nat} (q0 : yA ι x0 a0) (q1 : yI x1 c1) (q2 : yI x2 c2) : Sm (fun b a => yI a b) (sX0_hop e t a0 c1 c2) (gX0_hop h x0 x1 x2) := by
  unfold sX0_hop gX0_hop
  refine sm_if (sy_eq32 q1 q2) ?_ ?_
  · refine sm_bi (sX0_stay_ok hι qt q0 q1) (fun _ c25 q25 => ?_)
    exact sm_some q25
  · refine sm_lti (yI_xor q1 q2) (fun _ c21 q21 => ?_)
    refine sm_lti (yI_and q1 q21) (fun _ c22 q22 => ?_)
    refine sm_if (sy_eq32 q22 (yI_lit 0)) ?_ ?_
    · exact sm_some (yI_lit 0)
    · refine sm_if (sy_eq32 q22 q21) ?_ ?_
      · exact sm_some (yI_lit 0)
      · refine sm_rI qt q0 rfl (fun c23 q23 => ?_)
        refine sm_bi (sX0_pairsOf_ok hι qt q0 q21) (fun _ c24 q24 => ?_)
        exact sm_some (yI_mul q23 q24)
noncomputable def sX5_orbitLength_L1 (e : Se) (t : Sy) (a0 : Nat) (c1 : Nat) : (Nat → Nat → Option (Nat)) → Nat → Nat → Option (Nat) :=
  fun (k26 : Nat → Nat → Option (Nat)) (c24 : Nat) (c25 : Nat) => syc (Nat.beq (Nat.mod c24 4294967296) (Nat.mod c1 4294967296)) (some c25)
  (syc (Nat.ble (syo32 8) (syo32 c25)) (some c25)
  (syc (Nat.ble (syo32 c1) (syo32 c24)) (srR t a0 10 (fun c27 => syr c27 (fun a28 => sbi (sX0_turn e t a28 c24) (fun c29 => syf (Nat.add c25 1) (fun c30 => k26 c29 c30)))))
  (some 0)))
noncomputable def sX5_orbitLength (e : Se) (t : Sy) (a0 : Nat) (c1 : Nat) : Option (Nat) :=
  srR t a0 10 (fun c21 => syr c21 (fun a22 => sbi (sX0_turn e t a22 c1) (fun c23 => syl (fun _ _ => (none : Option (Nat))) (sX5_orbitLength_L1 e t a0 c1) zFU c23 1)))
theorem sX5_orbitLength_ok {ι : Nat → Nat} {e : Se} {h0 h : Zh} {t : Sy} (hι : ∀ a b, ι a = ι b → a = b) (qt : syR ι e h0 t h) {x0 : Nat} {a0 : Nat} {x1 : Int32} {c1 : Nat} (q0 : yA ι x0 a0) (q1 : yI x1 c1) : Sm (fun b a => yI a b) (sX5_orbitLength e t a0 c1) (gX5_orbitLength h x0 x1) := by
  unfold sX5_orbitLength gX5_orbitLength
  refine sm_rR qt q0 rfl (fun _ c21 q21 => ?_)
  refine sm_dr q21 (fun _ a22 q22 => ?_)
  refine sm_bi (sX0_turn_ok hι qt q22 q1) (fun _ c23 q23 => ?_)
  refine sm_lp (fun (k' : Nat → Nat → Option (Nat)) (k : Int32 → Int32 → Option (Int32)) => ∀ (c24 : Nat) (x24 : Int32) (c25 : Nat) (x25 : Int32), yI x24 c24 → yI x25 c25 → Sm (fun b a => yI a b) (k' c24 c25) (k x24 x25)) ?_ ?_ zFU _ _ _ _ q23 (yI_lit 1)
  · exact fun _ _ _ _ _ _ => sm_none
  intro k26 gk26 hk26
  intro c24 x24 c25 x25 q24 q25
  unfold sX5_orbitLength_L1 gX5_orbitLength_L1
  refine sm_if (sy_eq32 q24 q1) ?_ ?_
  · exact sm_some q25
  · refine sm_if (sy_le32 (yI_lit 8) q25) ?_ ?_
    · exact sm_some q25
    · refine sm_if (sy_le32 q1 q24) ?_ ?_
      · refine sm_rR qt q0 rfl (fun _ c27 q27 => ?_)
        refine sm_dr q27 (fun _ a28 q28 => ?_)
        refine sm_bi (sX0_turn_ok hι qt q28 q24) (fun _ c29 q29 => ?_)
        refine sm_f ?_
        exact hk26 _ _ _ _ q29 (yI_add q25 (yI_lit 1))
      · exact sm_some (yI_lit 0)
noncomputable def sX5_leads_J1 : Option (Nat) :=
  some 1
noncomputable def sX5_leads (e : Se) (t : Sy) (a0 : Nat) (c1 : Nat) : Option (Nat) :=
  sbi (sX5_orbitLength e t a0 c1) (fun c21 => syc (Nat.beq (Nat.mod c21 4294967296) (Nat.mod 0 4294967296)) (some 0)
  (srI t a0 12 (fun c22 => zjn sX5_leads_J1 (fun (k23 : Option (Nat)) =>
  syc (Nat.beq (Nat.mod c22 4294967296) (Nat.mod 1 4294967296)) (k23)
  (syc (Nat.beq (Nat.mod 2 4294967296) (Nat.mod 0 4294967296)) none (syc (Nat.beq (Nat.mod (Nat.add c21 (syn32 (Nat.mul (syd 4294967296 (Nat.mod c21 4294967296) (Nat.mod 2 4294967296)) 2))) 4294967296) (Nat.mod 0 4294967296)) (k23)
  (some 0)))))))
theorem sX5_leads_ok {ι : Nat → Nat} {e : Se} {h0 h : Zh} {t : Sy} (hι : ∀ a b, ι a = ι b → a = b) (qt : syR ι e h0 t h) {x0 : Nat} {a0 : Nat} {x1 : Int32} {c1 : Nat} (q0 : yA ι x0 a0) (q1 : yI x1 c1) : Sm (fun b a => yI a b) (sX5_leads e t a0 c1) (gX5_leads h x0 x1) := by
  unfold sX5_leads gX5_leads
  refine sm_bi (sX5_orbitLength_ok hι qt q0 q1) (fun _ c21 q21 => ?_)
  refine sm_if (sy_eq32 q21 (yI_lit 0)) ?_ ?_
  · exact sm_some (yI_lit 0)
  · refine sm_rI qt q0 rfl (fun c22 q22 => ?_)
    refine sm_jn (fun (k' : Option (Nat)) (k : Option (Int32)) => Sm (fun b a => yI a b) k' k) ?_ ?_
    · skip
      unfold sX5_leads_J1 gX5_leads_J1
      exact sm_some (yI_lit 1)
    intro k23 gk23 hk23
    refine sm_if (sy_eq32 q22 (yI_lit 1)) ?_ ?_
    · exact hk23
    · refine sm_if (sy_eq32 (yI_lit 2) (yI_lit 0)) sm_none ?_
      refine sm_if (sy_eq32 (yI_sub q21 (yI_mul (yI_div q21 (yI_lit 2)) (yI_lit 2))) (yI_lit 0)) ?_ ?_
      · exact hk23
      · exact sm_some (yI_lit 0)
noncomputable def sX5_prepare_J1 (c28 : Nat) (k30 : Nat → Sy → Option (Sy)) : Sy → Option (Sy) :=
  fun (t34 : Sy) => syf (Nat.add c28 1) (fun c35 => k30 c35 t34)
noncomputable def sX5_prepare_L2 (e : Se) (a0 : Nat) (c1 : Nat) (c2 : Nat) : (Nat → Sy → Option (Sy)) → Nat → Sy → Option (Sy) :=
  fun (k30 : Nat → Sy → Option (Sy)) (c28 : Nat) (t29 : Sy) => syr c1 (fun a31 => srI t29 a31 4 (fun c32 => syc (Nat.ble (syo32 c32) (syo32 c28)) (some t29)
  (sbi (sJ6_bitCount_0f7a4 c28) (fun c33 => zjn (sX5_prepare_J1 c28 k30) (fun (k36 : Sy → Option (Sy)) =>
  syc (Nat.beq (Nat.mod c33 4294967296) (Nat.mod c2 4294967296)) (sbi (sX5_leads e t29 a0 c28) (fun c37 => syc (Nat.beq (Nat.mod c37 4294967296) (Nat.mod 0 4294967296)) (k36 t29)
  (srI t29 a0 13 (fun c38 => srR t29 a0 0 (fun c39 => syr c39 (fun a40 => syr (syg 20 e.1 a40) (fun c41 => syc (Nat.ble (syo32 c41) (syo32 c38)) (k36 t29)
  (srR t29 a0 0 (fun c42 => srI t29 a0 13 (fun c43 => syr c42 (fun a44 => syi e a44 c43 (fun p45 => swI e t29 a44 p45 c28 (fun t46 => srI t46 a0 13 (fun c47 => swI e t46 a0 13 (Nat.add c47 1) (fun t48 => k36 t48)))))))))))))))
  (k36 t29))))))
noncomputable def sX5_prepare_J3 (e : Se) (t : Sy) (a0 : Nat) (c1 : Nat) (c2 : Nat) (c3 : Nat) : Option (Sy) :=
  swR e t a0 10 c1 (fun t22 => swI e t22 a0 11 c2 (fun t23 => swI e t23 a0 12 c3 (fun t24 => swI e t24 a0 14 0 (fun t25 => swI e t25 a0 15 0 (fun t26 => swI e t26 a0 13 0 (fun t27 => syl (fun _ _ => (none : Option (Sy))) (sX5_prepare_L2 e a0 c1 c2) zFU 0 t27))))))
noncomputable def sX5_prepare (e : Se) (t : Sy) (a0 : Nat) (c1 : Nat) (c2 : Nat) (c3 : Nat) : Option (Sy) :=
  srR t a0 10 (fun c21 => zjn (sX5_prepare_J3 e t a0 c1 c2 c3) (fun (k49 : Option (Sy)) =>
  syc (Nat.beq c21 c1) (srI t a0 11 (fun c50 => syc (Nat.beq (Nat.mod c50 4294967296) (Nat.mod c2 4294967296)) (srI t a0 12 (fun c51 => syc (Nat.beq (Nat.mod c51 4294967296) (Nat.mod c3 4294967296)) (some t)
  (k49)))
  (k49)))
  (k49)))
theorem sX5_prepare_ok {ι : Nat → Nat} {e : Se} {h0 h : Zh} {t : Sy} (hι : ∀ a b, ι a = ι b → a = b) (qt : syR ι e h0 t h) {x0 : Nat} {a0 : Nat} {x1 : Option Nat} {c1 : Nat} {x2 : Int32} {c2 : Nat} {x3 : Int32} {c3 : Nat} (q0 : yA ι x0 a0) (q1 : yR ι x1 c1) (q2 : yI x2 c2) (q3 : yI x3 c3) : Sm (fun b a => syR ι e h0 b a) (sX5_prepare e t a0 c1 c2 c3) (gX5_prepare h x0 x1 x2 x3) := by
  unfold sX5_prepare gX5_prepare
  refine sm_rR qt q0 rfl (fun _ c21 q21 => ?_)
  refine sm_jn (fun (k' : Option (Sy)) (k : Option (Zh)) => Sm (fun b a => syR ι e h0 b a) k' k) ?_ ?_
  · skip
    unfold sX5_prepare_J3 gX5_prepare_J3
    refine sm_wR hι qt q0 rfl q1 (fun _ t22 qt22 => ?_)
    refine sm_wI hι qt22 q0 rfl q2 (fun _ t23 qt23 => ?_)
    refine sm_wI hι qt23 q0 rfl q3 (fun _ t24 qt24 => ?_)
    refine sm_wI hι qt24 q0 rfl (yI_lit 0) (fun _ t25 qt25 => ?_)
    refine sm_wI hι qt25 q0 rfl (yI_lit 0) (fun _ t26 qt26 => ?_)
    refine sm_wI hι qt26 q0 rfl (yI_lit 0) (fun _ t27 qt27 => ?_)
    refine sm_lp (fun (k' : Nat → Sy → Option (Sy)) (k : Int32 → Zh → Option (Zh)) => ∀ (c28 : Nat) (x28 : Int32) (t29 : Sy) (h29 : Zh), yI x28 c28 → syR ι e h0 t29 h29 → Sm (fun b a => syR ι e h0 b a) (k' c28 t29) (k x28 h29)) ?_ ?_ zFU _ _ _ _ (yI_lit 0) qt27
    · exact fun _ _ _ _ _ _ => sm_none
    intro k30 gk30 hk30
    intro c28 x28 t29 h29 q28 qt29
    unfold sX5_prepare_L2 gX5_prepare_L2
    refine sm_dr q1 (fun _ a31 q31 => ?_)
    refine sm_rI qt29 q31 rfl (fun c32 q32 => ?_)
    refine sm_if (sy_le32 q32 q28) ?_ ?_
    · exact sm_some qt29
    · refine sm_bi (sJ6_bitCount_0f7a4_ok q28) (fun _ c33 q33 => ?_)
      refine sm_jn (fun (k' : Sy → Option (Sy)) (k : Zh → Option (Zh)) => ∀ (t34 : Sy) (h34 : Zh), syR ι e h0 t34 h34 → Sm (fun b a => syR ι e h0 b a) (k' t34) (k h34)) ?_ ?_
      · intro t34 h34 qt34
        unfold sX5_prepare_J1 gX5_prepare_J1
        refine sm_f ?_
        exact hk30 _ _ _ _ (yI_add q28 (yI_lit 1)) qt34
      intro k36 gk36 hk36
      refine sm_if (sy_eq32 q33 q2) ?_ ?_
      · refine sm_bi (sX5_leads_ok hι qt29 q0 q28) (fun _ c37 q37 => ?_)
        refine sm_if (sy_eq32 q37 (yI_lit 0)) ?_ ?_
        · exact hk36 _ _ qt29
        · refine sm_rI qt29 q0 rfl (fun c38 q38 => ?_)
          refine sm_rR qt29 q0 rfl (fun _ c39 q39 => ?_)
          refine sm_dr q39 (fun _ a40 q40 => ?_)
          refine sm_ln qt29 q40 (fun c41 q41 => ?_)
          refine sm_if (sy_le32 q41 q38) ?_ ?_
          · exact hk36 _ _ qt29
          · refine sm_rR qt29 q0 rfl (fun _ c42 q42 => ?_)
            refine sm_rI qt29 q0 rfl (fun c43 q43 => ?_)
            refine sm_dr q42 (fun _ a44 q44 => ?_)
            refine sm_in qt29 q44 q43 (fun p45 q45 => ?_)
            refine sm_wI hι qt29 q44 q45 q28 (fun _ t46 qt46 => ?_)
            refine sm_rI qt46 q0 rfl (fun c47 q47 => ?_)
            refine sm_wI hι qt46 q0 rfl (yI_add q47 (yI_lit 1)) (fun _ t48 qt48 => ?_)
            exact hk36 _ _ qt48
      · exact hk36 _ _ qt29
  intro k49 gk49 hk49
  refine sm_if (sy_eqR hι q21 q1) ?_ ?_
  · refine sm_rI qt q0 rfl (fun c50 q50 => ?_)
    refine sm_if (sy_eq32 q50 q2) ?_ ?_
    · refine sm_rI qt q0 rfl (fun c51 q51 => ?_)
      refine sm_if (sy_eq32 q51 q3) ?_ ?_
      · exact sm_some qt
      · exact hk49
    · exact hk49
  · exact hk49
noncomputable def sX5_hasOrbit_J1 : Option (Nat) :=
  some 0
noncomputable def sX5_hasOrbit (e : Se) (t : Sy) (a0 : Nat) (c1 : Nat) : Option (Nat) :=
  zjn sX5_hasOrbit_J1 (fun (k21 : Option (Nat)) =>
  syc (Nat.ble (Nat.succ (syo32 c1)) (syo32 0)) (k21)
  (srI t a0 13 (fun c22 => syc (Nat.ble (syo32 c22) (syo32 c1)) (k21)
  (srR t a0 0 (fun c23 => syr c23 (fun a24 => syr (syg 20 e.1 a24) (fun c25 => syc (Nat.ble (syo32 c25) (syo32 c1)) (k21)
  (some 1))))))))
theorem sX5_hasOrbit_ok {ι : Nat → Nat} {e : Se} {h0 h : Zh} {t : Sy} (hι : ∀ a b, ι a = ι b → a = b) (qt : syR ι e h0 t h) {x0 : Nat} {a0 : Nat} {x1 : Int32} {c1 : Nat} (q0 : yA ι x0 a0) (q1 : yI x1 c1) : Sm (fun b a => yI a b) (sX5_hasOrbit e t a0 c1) (gX5_hasOrbit h x0 x1) := by
  unfold sX5_hasOrbit gX5_hasOrbit
  refine sm_jn (fun (k' : Option (Nat)) (k : Option (Int32)) => Sm (fun b a => yI a b) k' k) ?_ ?_
  · skip
    unfold sX5_hasOrbit_J1 gX5_hasOrbit_J1
    exact sm_some (yI_lit 0)
  intro k21 gk21 hk21
  refine sm_if (sy_lt32 q1 (yI_lit 0)) ?_ ?_
  · exact hk21
  · refine sm_rI qt q0 rfl (fun c22 q22 => ?_)
    refine sm_if (sy_le32 q22 q1) ?_ ?_
    · exact hk21
    · refine sm_rR qt q0 rfl (fun _ c23 q23 => ?_)
      refine sm_dr q23 (fun _ a24 q24 => ?_)
      refine sm_ln qt q24 (fun c25 q25 => ?_)
      refine sm_if (sy_le32 q25 q1) ?_ ?_
      · exact hk21
      · exact sm_some (yI_lit 1)
noncomputable def sJ7_fill_d0a16_L1 (e : Se) (c1 : Nat) (a21 : Nat) (c22 : Nat) : (Nat → Sy → Option (Sy)) → Nat → Sy → Option (Sy) :=
  fun (k26 : Nat → Sy → Option (Sy)) (c24 : Nat) (t25 : Sy) => syc (Nat.ble (syo32 c22) (syo32 c24)) (some t25)
  (syi e a21 c24 (fun p27 => swJ e t25 a21 p27 c1 (fun t28 => syf (Nat.add c24 1) (fun c29 => k26 c29 t28))))
noncomputable def sJ7_fill_d0a16 (e : Se) (t : Sy) (c0 : Nat) (c1 : Nat) : Option (Sy) :=
  syr c0 (fun a21 => syr (syg 20 e.1 a21) (fun c22 => syl (fun _ _ => (none : Option (Sy))) (sJ7_fill_d0a16_L1 e c1 a21 c22) zFU 0 t))
theorem sJ7_fill_d0a16_ok {ι : Nat → Nat} {e : Se} {h0 h : Zh} {t : Sy} (hι : ∀ a b, ι a = ι b → a = b) (qt : syR ι e h0 t h) {x0 : Option Nat} {c0 : Nat} {x1 : Int64} {c1 : Nat} (q0 : yR ι x0 c0) (q1 : yJ x1 c1) : Sm (fun b a => syR ι e h0 b a) (sJ7_fill_d0a16 e t c0 c1) (gJ7_fill_d0a16 h x0 x1) := by
  unfold sJ7_fill_d0a16 gJ7_fill_d0a16
  refine sm_dr q0 (fun _ a21 q21 => ?_)
  refine sm_ln qt q21 (fun c22 q22 => ?_)
  refine sm_lt0i q22 (fun _ q23 => ?_)
  refine sm_lp (fun (k' : Nat → Sy → Option (Sy)) (k : Int32 → Zh → Option (Zh)) => ∀ (c24 : Nat) (x24 : Int32) (t25 : Sy) (h25 : Zh), yI x24 c24 → syR ι e h0 t25 h25 → Sm (fun b a => syR ι e h0 b a) (k' c24 t25) (k x24 h25)) ?_ ?_ zFU _ _ _ _ (yI_lit 0) qt
  · exact fun _ _ _ _ _ _ => sm_none
  intro k26 gk26 hk26
  intro c24 x24 t25 h25 q24 qt25
  unfold sJ7_fill_d0a16_L1 gJ7_fill_d0a16_L1
  refine sm_if (sy_le32 q23 q24) ?_ ?_
  · exact sm_some qt25
  · refine sm_in qt25 q21 q24 (fun p27 q27 => ?_)
    refine sm_wJ hι qt25 q21 q27 q1 (fun _ t28 qt28 => ?_)
    refine sm_f ?_
    exact hk26 _ _ _ _ (yI_add q24 (yI_lit 1)) qt28
noncomputable def sX5_fillTable_J1 (c23 : Nat) (k25 : Nat → Sy → Option (Sy)) : Sy → Option (Sy) :=
  fun (t33 : Sy) => syf (Nat.add c23 1) (fun c34 => k25 c34 t33)
noncomputable def sX5_fillTable_J2 (e : Se) (a0 : Nat) (c36 : Nat) (c37 : Nat) (c38 : Nat) (k40 : Nat → Nat → Nat → Sy → Option (Sy)) : Sy → Option (Sy) :=
  fun (t41 : Sy) => srR t41 a0 10 (fun c42 => syr c42 (fun a43 => sbi (sX0_turn e t41 a43 c36) (fun c44 => srI t41 a0 12 (fun c45 => syf (Nat.mul c37 c45) (fun c46 => syf (Nat.add c38 1) (fun c47 => k40 c44 c46 c47 t41))))))
noncomputable def sX5_fillTable_L3 (e : Se) (a0 : Nat) (c23 : Nat) (c36 : Nat) (c37 : Nat) (k48 : Sy → Option (Sy)) : (Nat → Sy → Option (Sy)) → Nat → Sy → Option (Sy) :=
  fun (k51 : Nat → Sy → Option (Sy)) (c49 : Nat) (t50 : Sy) => srI t50 a0 13 (fun c52 => syc (Nat.ble (syo32 c52) (syo32 c49)) (k48 t50)
  (srR t50 a0 2 (fun c53 => syf (Nat.add (Nat.mul c49 10) c23) (fun c54 => syr c53 (fun a55 => syi e a55 c54 (fun p56 => srJ t50 a55 p56 (fun c57 => srR t50 a0 10 (fun c58 => srR t50 a0 0 (fun c59 => syr c59 (fun a60 => syi e a60 c49 (fun p61 => srI t50 a60 p61 (fun c62 => syr c58 (fun a63 => sbi (sX0_hop e t50 a63 c36 c62) (fun c64 => syi e a55 c54 (fun p65 => swJ e t50 a55 p65 (Nat.add c57 (sy2l (Nat.mul c37 c64))) (fun t66 => syf (Nat.add c49 1) (fun c67 => k51 c67 t66)))))))))))))))))
noncomputable def sX5_fillTable_L4 (e : Se) (a0 : Nat) (c23 : Nat) (c32 : Nat) (k35 : Sy → Option (Sy)) : (Nat → Nat → Nat → Sy → Option (Sy)) → Nat → Nat → Nat → Sy → Option (Sy) :=
  fun (k40 : Nat → Nat → Nat → Sy → Option (Sy)) (c36 : Nat) (c37 : Nat) (c38 : Nat) (t39 : Sy) => syc (Nat.ble (syo32 c32) (syo32 c38)) (k35 t39)
  (zjn (sX5_fillTable_J2 e a0 c36 c37 c38 k40) (fun (k48 : Sy → Option (Sy)) =>
  syl (fun _ _ => (none : Option (Sy))) (sX5_fillTable_L3 e a0 c23 c36 c37 k48) zFU 0 t39))
noncomputable def sX5_fillTable_L5 (e : Se) (a0 : Nat) : (Nat → Sy → Option (Sy)) → Nat → Sy → Option (Sy) :=
  fun (k25 : Nat → Sy → Option (Sy)) (c23 : Nat) (t24 : Sy) => srI t24 a0 13 (fun c26 => syc (Nat.ble (syo32 c26) (syo32 c23)) (some t24)
  (srR t24 a0 0 (fun c27 => syr c27 (fun a28 => syi e a28 c23 (fun p29 => srI t24 a28 p29 (fun c30 => sbi (sX5_orbitLength e t24 a0 c30) (fun c32 => zjn (sX5_fillTable_J1 c23 k25) (fun (k35 : Sy → Option (Sy)) =>
  syl (fun _ _ _ _ => (none : Option (Sy))) (sX5_fillTable_L4 e a0 c23 c32 k35) zFU c30 1 0 t24))))))))
noncomputable def sX5_fillTable (e : Se) (t : Sy) (a0 : Nat) : Option (Sy) :=
  srR t a0 2 (fun c21 => sbV (sJ7_fill_d0a16 e t c21 0) (fun t22 => syl (fun _ _ => (none : Option (Sy))) (sX5_fillTable_L5 e a0) zFU 0 t22))
theorem sX5_fillTable_ok {ι : Nat → Nat} {e : Se} {h0 h : Zh} {t : Sy} (hι : ∀ a b, ι a = ι b → a = b) (qt : syR ι e h0 t h) {x0 : Nat} {a0 : Nat} (q0 : yA ι x0 a0) : Sm (fun b a => syR ι e h0 b a) (sX5_fillTable e t a0) (gX5_fillTable h x0) := by
  unfold sX5_fillTable gX5_fillTable
  refine sm_rR qt q0 rfl (fun _ c21 q21 => ?_)
  refine sm_bV (sJ7_fill_d0a16_ok hι qt q21 (yJ_lit 0)) (fun _ t22 qt22 => ?_)
  refine sm_lp (fun (k' : Nat → Sy → Option (Sy)) (k : Int32 → Zh → Option (Zh)) => ∀ (c23 : Nat) (x23 : Int32) (t24 : Sy) (h24 : Zh), yI x23 c23 → syR ι e h0 t24 h24 → Sm (fun b a => syR ι e h0 b a) (k' c23 t24) (k x23 h24)) ?_ ?_ zFU _ _ _ _ (yI_lit 0) qt22
  · exact fun _ _ _ _ _ _ => sm_none
  intro k25 gk25 hk25
  intro c23 x23 t24 h24 q23 qt24
  unfold sX5_fillTable_L5 gX5_fillTable_L5
  refine sm_rI qt24 q0 rfl (fun c26 q26 => ?_)
  refine sm_if (sy_le32 q26 q23) ?_ ?_
  · exact sm_some qt24
  · refine sm_rR qt24 q0 rfl (fun _ c27 q27 => ?_)
    refine sm_dr q27 (fun _ a28 q28 => ?_)
    refine sm_in qt24 q28 q23 (fun p29 q29 => ?_)
    refine sm_rI qt24 q28 q29 (fun c30 q30 => ?_)
    refine sm_lt0i q30 (fun _ q31 => ?_)
    refine sm_bi (sX5_orbitLength_ok hι qt24 q0 q31) (fun _ c32 q32 => ?_)
    refine sm_jn (fun (k' : Sy → Option (Sy)) (k : Zh → Option (Zh)) => ∀ (t33 : Sy) (h33 : Zh), syR ι e h0 t33 h33 → Sm (fun b a => syR ι e h0 b a) (k' t33) (k h33)) ?_ ?_
    · intro t33 h33 qt33
      unfold sX5_fillTable_J1 gX5_fillTable_J1
      refine sm_f ?_
      exact hk25 _ _ _ _ (yI_add q23 (yI_lit 1)) qt33
    intro k35 gk35 hk35
    refine sm_lp (fun (k' : Nat → Nat → Nat → Sy → Option (Sy)) (k : Int32 → Int32 → Int32 → Zh → Option (Zh)) => ∀ (c36 : Nat) (x36 : Int32) (c37 : Nat) (x37 : Int32) (c38 : Nat) (x38 : Int32) (t39 : Sy) (h39 : Zh), yI x36 c36 → yI x37 c37 → yI x38 c38 → syR ι e h0 t39 h39 → Sm (fun b a => syR ι e h0 b a) (k' c36 c37 c38 t39) (k x36 x37 x38 h39)) ?_ ?_ zFU _ _ _ _ _ _ _ _ q31 (yI_lit 1) (yI_lit 0) qt24
    · exact fun _ _ _ _ _ _ _ _ _ _ _ _ => sm_none
    intro k40 gk40 hk40
    intro c36 x36 c37 x37 c38 x38 t39 h39 q36 q37 q38 qt39
    unfold sX5_fillTable_L4 gX5_fillTable_L4
    refine sm_if (sy_le32 q32 q38) ?_ ?_
    · exact hk35 _ _ qt39
    · refine sm_jn (fun (k' : Sy → Option (Sy)) (k : Zh → Option (Zh)) => ∀ (t41 : Sy) (h41 : Zh), syR ι e h0 t41 h41 → Sm (fun b a => syR ι e h0 b a) (k' t41) (k h41)) ?_ ?_
      · intro t41 h41 qt41
        unfold sX5_fillTable_J2 gX5_fillTable_J2
        refine sm_rR qt41 q0 rfl (fun _ c42 q42 => ?_)
        refine sm_dr q42 (fun _ a43 q43 => ?_)
        refine sm_bi (sX0_turn_ok hι qt41 q43 q36) (fun _ c44 q44 => ?_)
        refine sm_rI qt41 q0 rfl (fun c45 q45 => ?_)
        refine sm_lti (yI_mul q37 q45) (fun _ c46 q46 => ?_)
        refine sm_f ?_
        exact hk40 _ _ _ _ _ _ _ _ q44 q46 (yI_add q38 (yI_lit 1)) qt41
      intro k48 gk48 hk48
      refine sm_lp (fun (k' : Nat → Sy → Option (Sy)) (k : Int32 → Zh → Option (Zh)) => ∀ (c49 : Nat) (x49 : Int32) (t50 : Sy) (h50 : Zh), yI x49 c49 → syR ι e h0 t50 h50 → Sm (fun b a => syR ι e h0 b a) (k' c49 t50) (k x49 h50)) ?_ ?_ zFU _ _ _ _ (yI_lit 0) qt39
      · exact fun _ _ _ _ _ _ => sm_none
      intro k51 gk51 hk51
      intro c49 x49 t50 h50 q49 qt50
      unfold sX5_fillTable_L3 gX5_fillTable_L3
      refine sm_rI qt50 q0 rfl (fun c52 q52 => ?_)
      refine sm_if (sy_le32 q52 q49) ?_ ?_
      · exact hk48 _ _ qt50
      · refine sm_rR qt50 q0 rfl (fun _ c53 q53 => ?_)
        refine sm_lti (yI_add (yI_mul q49 (yI_lit 10)) q23) (fun _ c54 q54 => ?_)
        refine sm_dr q53 (fun _ a55 q55 => ?_)
        refine sm_in qt50 q55 q54 (fun p56 q56 => ?_)
        refine sm_rJ qt50 q55 q56 (fun c57 q57 => ?_)
        refine sm_rR qt50 q0 rfl (fun _ c58 q58 => ?_)
        refine sm_rR qt50 q0 rfl (fun _ c59 q59 => ?_)
        refine sm_dr q59 (fun _ a60 q60 => ?_)
        refine sm_in qt50 q60 q49 (fun p61 q61 => ?_)
        refine sm_rI qt50 q60 q61 (fun c62 q62 => ?_)
        refine sm_dr q58 (fun _ a63 q63 => ?_)
        refine sm_bi (sX0_hop_ok hι qt50 q63 q36 q62) (fun _ c64 q64 => ?_)
        refine sm_in qt50 q55 q54 (fun p65 q65 => ?_)
        refine sm_wJ hι qt50 q55 q65 (yJ_add q57 (yJ_i2l (yI_mul q37 q64))) (fun _ t66 qt66 => ?_)
        refine sm_f ?_
        exact hk51 _ _ _ _ (yI_add q49 (yI_lit 1)) qt66
noncomputable def sX5_rowTimes_L1 (e : Se) (t : Sy) (a0 : Nat) (c1 : Nat) (c2 : Nat) (c3 : Nat) : (Nat → Nat → Option (Nat)) → Nat → Nat → Option (Nat) :=
  fun (k23 : Nat → Nat → Option (Nat)) (c21 : Nat) (c22 : Nat) => syc (Nat.ble (syo32 c2) (syo32 c22)) (some c21)
  (srR t a0 2 (fun c24 => syr c24 (fun a25 => syi e a25 (Nat.add (Nat.mul c1 10) c22) (fun p26 => srJ t a25 p26 (fun c27 => syr c3 (fun a28 => syi e a28 c22 (fun p29 => srJ t a28 p29 (fun c30 => syf (Nat.add c21 (Nat.mul c27 c30)) (fun c31 => syf (Nat.add c22 1) (fun c32 => k23 c31 c32))))))))))
noncomputable def sX5_rowTimes (e : Se) (t : Sy) (a0 : Nat) (c1 : Nat) (c2 : Nat) (c3 : Nat) : Option (Nat) :=
  syl (fun _ _ => (none : Option (Nat))) (sX5_rowTimes_L1 e t a0 c1 c2 c3) zFU 0 0
theorem sX5_rowTimes_ok {ι : Nat → Nat} {e : Se} {h0 h : Zh} {t : Sy} (hι : ∀ a b, ι a = ι b → a = b) (qt : syR ι e h0 t h) {x0 : Nat} {a0 : Nat} {x1 : Int32} {c1 : Nat} {x2 : Int32} {c2 : Nat} {x3 : Option Nat} {c3 : Nat} (q0 : yA ι x0 a0) (q1 : yI x1 c1) (q2 : yI x2 c2) (q3 : yR ι x3 c3) : Sm (fun b a => yJ a b) (sX5_rowTimes e t a0 c1 c2 c3) (gX5_rowTimes h x0 x1 x2 x3) := by
  unfold sX5_rowTimes gX5_rowTimes
  refine sm_lp (fun (k' : Nat → Nat → Option (Nat)) (k : Int64 → Int32 → Option (Int64)) => ∀ (c21 : Nat) (x21 : Int64) (c22 : Nat) (x22 : Int32), yJ x21 c21 → yI x22 c22 → Sm (fun b a => yJ a b) (k' c21 c22) (k x21 x22)) ?_ ?_ zFU _ _ _ _ (yJ_lit 0) (yI_lit 0)
  · exact fun _ _ _ _ _ _ => sm_none
  intro k23 gk23 hk23
  intro c21 x21 c22 x22 q21 q22
  unfold sX5_rowTimes_L1 gX5_rowTimes_L1
  refine sm_if (sy_le32 q2 q22) ?_ ?_
  · exact sm_some q21
  · refine sm_rR qt q0 rfl (fun _ c24 q24 => ?_)
    refine sm_dr q24 (fun _ a25 q25 => ?_)
    refine sm_in qt q25 (yI_add (yI_mul q1 (yI_lit 10)) q22) (fun p26 q26 => ?_)
    refine sm_rJ qt q25 q26 (fun c27 q27 => ?_)
    refine sm_dr q3 (fun _ a28 q28 => ?_)
    refine sm_in qt q28 q22 (fun p29 q29 => ?_)
    refine sm_rJ qt q28 q29 (fun c30 q30 => ?_)
    refine sm_ltj (yJ_add q21 (yJ_mul q27 q30)) (fun _ c31 q31 => ?_)
    refine sm_f ?_
    exact hk23 _ _ _ _ q31 (yI_add q22 (yI_lit 1))
noncomputable def sX5_findStep_J1 (e : Se) (a0 : Nat) (c1 : Nat) (c34 : Nat) (k36 : Nat → Sy → Option (Sy)) : Sy → Option (Sy) :=
  fun (t43 : Sy) => srR t43 a0 4 (fun c44 => srR t43 a0 7 (fun c45 => syr c44 (fun a46 => syr c45 (fun a47 => scJ e t43 a46 0 a47 0 c1 (fun t48 => syf (Nat.add c34 1) (fun c49 => k36 c49 t48))))))
noncomputable def sX5_findStep_L2 (e : Se) (a0 : Nat) (c1 : Nat) (k50 : Sy → Option (Sy)) : (Nat → Sy → Option (Sy)) → Nat → Sy → Option (Sy) :=
  fun (k53 : Nat → Sy → Option (Sy)) (c51 : Nat) (t52 : Sy) => syc (Nat.ble (syo32 c1) (syo32 c51)) (k50 t52)
  (srR t52 a0 4 (fun c54 => srR t52 a0 7 (fun c55 => sbj (sX5_rowTimes e t52 a0 c51 c1 c55) (fun c56 => syr c54 (fun a57 => syi e a57 c51 (fun p58 => swJ e t52 a57 p58 c56 (fun t59 => syf (Nat.add c51 1) (fun c60 => k53 c60 t59))))))))
noncomputable def sX5_findStep_L3 (e : Se) (a0 : Nat) (c1 : Nat) : (Nat → Sy → Option (Sy)) → Nat → Sy → Option (Sy) :=
  fun (k36 : Nat → Sy → Option (Sy)) (c34 : Nat) (t35 : Sy) => syc (Nat.ble (Nat.succ (syo32 (Nat.add c1 1))) (syo32 c34)) (some t35)
  (srR t35 a0 6 (fun c37 => srR t35 a0 7 (fun c38 => sbj (sX5_rowTimes e t35 a0 c1 c1 c38) (fun c39 => syr c37 (fun a40 => syi e a40 c34 (fun p41 => swJ e t35 a40 p41 (syn64 c39) (fun t42 => zjn (sX5_findStep_J1 e a0 c1 c34 k36) (fun (k50 : Sy → Option (Sy)) =>
  syl (fun _ _ => (none : Option (Sy))) (sX5_findStep_L2 e a0 c1 k50) zFU 0 t42))))))))
noncomputable def sX5_findStep_J4 (e : Se) (a0 : Nat) (c1 : Nat) : Sy → Option (Sy) :=
  fun (t33 : Sy) => syl (fun _ _ => (none : Option (Sy))) (sX5_findStep_L3 e a0 c1) zFU 2 t33
noncomputable def sX5_findStep_L5 (e : Se) (a0 : Nat) (c1 : Nat) (k61 : Sy → Option (Sy)) : (Nat → Sy → Option (Sy)) → Nat → Sy → Option (Sy) :=
  fun (k64 : Nat → Sy → Option (Sy)) (c62 : Nat) (t63 : Sy) => syc (Nat.ble (syo32 c1) (syo32 c62)) (k61 t63)
  (srR t63 a0 7 (fun c65 => srR t63 a0 2 (fun c66 => syr c66 (fun a67 => syi e a67 (Nat.add (Nat.mul c62 10) c1) (fun p68 => srJ t63 a67 p68 (fun c69 => syr c65 (fun a70 => syi e a70 c62 (fun p71 => swJ e t63 a70 p71 c69 (fun t72 => syf (Nat.add c62 1) (fun c73 => k64 c73 t72))))))))))
noncomputable def sX5_findStep (e : Se) (t : Sy) (a0 : Nat) (c1 : Nat) : Option (Sy) :=
  srR t a0 6 (fun c21 => syr c21 (fun a22 => syi e a22 0 (fun p23 => swJ e t a22 p23 1 (fun t24 => srR t24 a0 6 (fun c25 => srR t24 a0 2 (fun c26 => syr c26 (fun a27 => syi e a27 (Nat.add (Nat.mul c1 10) c1) (fun p28 => srJ t24 a27 p28 (fun c29 => syr c25 (fun a30 => syi e a30 1 (fun p31 => swJ e t24 a30 p31 (syn64 c29) (fun t32 => zjn (sX5_findStep_J4 e a0 c1) (fun (k61 : Sy → Option (Sy)) =>
  syl (fun _ _ => (none : Option (Sy))) (sX5_findStep_L5 e a0 c1 k61) zFU 0 t32)))))))))))))
theorem sX5_findStep_ok {ι : Nat → Nat} {e : Se} {h0 h : Zh} {t : Sy} (hι : ∀ a b, ι a = ι b → a = b) (qt : syR ι e h0 t h) {x0 : Nat} {a0 : Nat} {x1 : Int32} {c1 : Nat} (q0 : yA ι x0 a0) (q1 : yI x1 c1) : Sm (fun b a => syR ι e h0 b a) (sX5_findStep e t a0 c1) (gX5_findStep h x0 x1) := by
  unfold sX5_findStep gX5_findStep
  refine sm_rR qt q0 rfl (fun _ c21 q21 => ?_)
  refine sm_dr q21 (fun _ a22 q22 => ?_)
  refine sm_in qt q22 (yI_lit 0) (fun p23 q23 => ?_)
  refine sm_wJ hι qt q22 q23 (yJ_lit 1) (fun _ t24 qt24 => ?_)
  refine sm_rR qt24 q0 rfl (fun _ c25 q25 => ?_)
  refine sm_rR qt24 q0 rfl (fun _ c26 q26 => ?_)
  refine sm_dr q26 (fun _ a27 q27 => ?_)
  refine sm_in qt24 q27 (yI_add (yI_mul q1 (yI_lit 10)) q1) (fun p28 q28 => ?_)
  refine sm_rJ qt24 q27 q28 (fun c29 q29 => ?_)
  refine sm_dr q25 (fun _ a30 q30 => ?_)
  refine sm_in qt24 q30 (yI_lit 1) (fun p31 q31 => ?_)
  refine sm_wJ hι qt24 q30 q31 (yJ_neg q29) (fun _ t32 qt32 => ?_)
  refine sm_jn (fun (k' : Sy → Option (Sy)) (k : Zh → Option (Zh)) => ∀ (t33 : Sy) (h33 : Zh), syR ι e h0 t33 h33 → Sm (fun b a => syR ι e h0 b a) (k' t33) (k h33)) ?_ ?_
  · intro t33 h33 qt33
    unfold sX5_findStep_J4 gX5_findStep_J4
    refine sm_lp (fun (k' : Nat → Sy → Option (Sy)) (k : Int32 → Zh → Option (Zh)) => ∀ (c34 : Nat) (x34 : Int32) (t35 : Sy) (h35 : Zh), yI x34 c34 → syR ι e h0 t35 h35 → Sm (fun b a => syR ι e h0 b a) (k' c34 t35) (k x34 h35)) ?_ ?_ zFU _ _ _ _ (yI_lit 2) qt33
    · exact fun _ _ _ _ _ _ => sm_none
    intro k36 gk36 hk36
    intro c34 x34 t35 h35 q34 qt35
    unfold sX5_findStep_L3 gX5_findStep_L3
    refine sm_if (sy_lt32 (yI_add q1 (yI_lit 1)) q34) ?_ ?_
    · exact sm_some qt35
    · refine sm_rR qt35 q0 rfl (fun _ c37 q37 => ?_)
      refine sm_rR qt35 q0 rfl (fun _ c38 q38 => ?_)
      refine sm_bj (sX5_rowTimes_ok hι qt35 q0 q1 q1 q38) (fun _ c39 q39 => ?_)
      refine sm_dr q37 (fun _ a40 q40 => ?_)
      refine sm_in qt35 q40 q34 (fun p41 q41 => ?_)
      refine sm_wJ hι qt35 q40 q41 (yJ_neg q39) (fun _ t42 qt42 => ?_)
      refine sm_jn (fun (k' : Sy → Option (Sy)) (k : Zh → Option (Zh)) => ∀ (t43 : Sy) (h43 : Zh), syR ι e h0 t43 h43 → Sm (fun b a => syR ι e h0 b a) (k' t43) (k h43)) ?_ ?_
      · intro t43 h43 qt43
        unfold sX5_findStep_J1 gX5_findStep_J1
        refine sm_rR qt43 q0 rfl (fun _ c44 q44 => ?_)
        refine sm_rR qt43 q0 rfl (fun _ c45 q45 => ?_)
        refine sm_dr q44 (fun _ a46 q46 => ?_)
        refine sm_dr q45 (fun _ a47 q47 => ?_)
        refine sm_cJ hι qt43 q46 (yI_lit 0) q47 (yI_lit 0) q1 (fun _ t48 qt48 => ?_)
        refine sm_f ?_
        exact hk36 _ _ _ _ (yI_add q34 (yI_lit 1)) qt48
      intro k50 gk50 hk50
      refine sm_lp (fun (k' : Nat → Sy → Option (Sy)) (k : Int32 → Zh → Option (Zh)) => ∀ (c51 : Nat) (x51 : Int32) (t52 : Sy) (h52 : Zh), yI x51 c51 → syR ι e h0 t52 h52 → Sm (fun b a => syR ι e h0 b a) (k' c51 t52) (k x51 h52)) ?_ ?_ zFU _ _ _ _ (yI_lit 0) qt42
      · exact fun _ _ _ _ _ _ => sm_none
      intro k53 gk53 hk53
      intro c51 x51 t52 h52 q51 qt52
      unfold sX5_findStep_L2 gX5_findStep_L2
      refine sm_if (sy_le32 q1 q51) ?_ ?_
      · exact hk50 _ _ qt52
      · refine sm_rR qt52 q0 rfl (fun _ c54 q54 => ?_)
        refine sm_rR qt52 q0 rfl (fun _ c55 q55 => ?_)
        refine sm_bj (sX5_rowTimes_ok hι qt52 q0 q51 q1 q55) (fun _ c56 q56 => ?_)
        refine sm_dr q54 (fun _ a57 q57 => ?_)
        refine sm_in qt52 q57 q51 (fun p58 q58 => ?_)
        refine sm_wJ hι qt52 q57 q58 q56 (fun _ t59 qt59 => ?_)
        refine sm_f ?_
        exact hk53 _ _ _ _ (yI_add q51 (yI_lit 1)) qt59
  intro k61 gk61 hk61
  refine sm_lp (fun (k' : Nat → Sy → Option (Sy)) (k : Int32 → Zh → Option (Zh)) => ∀ (c62 : Nat) (x62 : Int32) (t63 : Sy) (h63 : Zh), yI x62 c62 → syR ι e h0 t63 h63 → Sm (fun b a => syR ι e h0 b a) (k' c62 t63) (k x62 h63)) ?_ ?_ zFU _ _ _ _ (yI_lit 0) qt32
  · exact fun _ _ _ _ _ _ => sm_none
  intro k64 gk64 hk64
  intro c62 x62 t63 h63 q62 qt63
  unfold sX5_findStep_L5 gX5_findStep_L5
  refine sm_if (sy_le32 q1 q62) ?_ ?_
  · exact hk61 _ _ qt63
  · refine sm_rR qt63 q0 rfl (fun _ c65 q65 => ?_)
    refine sm_rR qt63 q0 rfl (fun _ c66 q66 => ?_)
    refine sm_dr q66 (fun _ a67 q67 => ?_)
    refine sm_in qt63 q67 (yI_add (yI_mul q62 (yI_lit 10)) q1) (fun p68 q68 => ?_)
    refine sm_rJ qt63 q67 q68 (fun c69 q69 => ?_)
    refine sm_dr q65 (fun _ a70 q70 => ?_)
    refine sm_in qt63 q70 q62 (fun p71 q71 => ?_)
    refine sm_wJ hι qt63 q70 q71 q69 (fun _ t72 qt72 => ?_)
    refine sm_f ?_
    exact hk64 _ _ _ _ (yI_add q62 (yI_lit 1)) qt72
noncomputable def sX5_findPolynomial_L1 (e : Se) (a0 : Nat) : (Nat → Sy → Option (Sy)) → Nat → Sy → Option (Sy) :=
  fun (k30 : Nat → Sy → Option (Sy)) (c28 : Nat) (t29 : Sy) => srI t29 a0 13 (fun c31 => syc (Nat.ble (syo32 c31) (syo32 (Nat.mul 2 c28))) (some t29)
  (srR t29 a0 3 (fun c32 => syr c32 (fun a33 => syi e a33 c28 (fun p34 => srJ t29 a33 p34 (fun c35 => srR t29 a0 3 (fun c37 => srR t29 a0 3 (fun c38 => srI t29 a0 13 (fun c39 => syr c38 (fun a40 => syi e a40 (Nat.add c39 (syn32 c28)) (fun p41 => srJ t29 a40 p41 (fun c42 => syr c37 (fun a43 => syi e a43 c28 (fun p44 => swJ e t29 a43 p44 c42 (fun t45 => srR t45 a0 3 (fun c46 => srI t45 a0 13 (fun c47 => syr c46 (fun a48 => syi e a48 (Nat.add c47 (syn32 c28)) (fun p49 => swJ e t45 a48 p49 c35 (fun t50 => syf (Nat.add c28 1) (fun c51 => k30 c51 t50)))))))))))))))))))))
noncomputable def sX5_findPolynomial_J2 (e : Se) (a0 : Nat) : Sy → Option (Sy) :=
  fun (t27 : Sy) => syl (fun _ _ => (none : Option (Sy))) (sX5_findPolynomial_L1 e a0) zFU 0 t27
noncomputable def sX5_findPolynomial_J3 (c53 : Nat) (k55 : Nat → Sy → Option (Sy)) : Sy → Option (Sy) :=
  fun (t59 : Sy) => syf (Nat.add c53 1) (fun c60 => k55 c60 t59)
noncomputable def sX5_findPolynomial_J4 (e : Se) (a0 : Nat) (c62 : Nat) (t63 : Sy) (k64 : Nat → Sy → Option (Sy)) : Nat → Option (Sy) :=
  fun (c65 : Nat) => srR t63 a0 3 (fun c66 => syr c66 (fun a67 => syi e a67 c62 (fun p68 => swJ e t63 a67 p68 c65 (fun t69 => syf (Nat.add c62 4294967295) (fun c70 => k64 c70 t69)))))
noncomputable def sX5_findPolynomial_L5 (e : Se) (a0 : Nat) (c53 : Nat) (c62 : Nat) (t63 : Sy) (k71 : Nat → Option (Sy)) : (Nat → Nat → Option (Sy)) → Nat → Nat → Option (Sy) :=
  fun (k74 : Nat → Nat → Option (Sy)) (c72 : Nat) (c73 : Nat) => syc (Nat.ble (Nat.succ (syo32 c62)) (syo32 c73)) (k71 c72)
  (syc (Nat.ble (Nat.succ (syo32 c53)) (syo32 c73)) (k71 c72)
  (srR t63 a0 6 (fun c75 => syr c75 (fun a76 => syi e a76 (Nat.add c62 (syn32 c73)) (fun p77 => srJ t63 a76 p77 (fun c78 => srR t63 a0 3 (fun c79 => syr c79 (fun a80 => syi e a80 c73 (fun p81 => srJ t63 a80 p81 (fun c82 => syf (Nat.add c72 (Nat.mul c78 c82)) (fun c83 => syf (Nat.add c73 1) (fun c84 => k74 c83 c84))))))))))))
noncomputable def sX5_findPolynomial_L6 (e : Se) (a0 : Nat) (c53 : Nat) (k61 : Sy → Option (Sy)) : (Nat → Sy → Option (Sy)) → Nat → Sy → Option (Sy) :=
  fun (k64 : Nat → Sy → Option (Sy)) (c62 : Nat) (t63 : Sy) => syc (Nat.ble (Nat.succ (syo32 c62)) (syo32 0)) (k61 t63)
  (zjn (sX5_findPolynomial_J4 e a0 c62 t63 k64) (fun (k71 : Nat → Option (Sy)) =>
  syl (fun _ _ => (none : Option (Sy))) (sX5_findPolynomial_L5 e a0 c53 c62 t63 k71) zFU 0 0))
noncomputable def sX5_findPolynomial_L7 (e : Se) (a0 : Nat) (k52 : Sy → Option (Sy)) : (Nat → Sy → Option (Sy)) → Nat → Sy → Option (Sy) :=
  fun (k55 : Nat → Sy → Option (Sy)) (c53 : Nat) (t54 : Sy) => srI t54 a0 13 (fun c56 => syc (Nat.ble (syo32 c56) (syo32 c53)) (k52 t54)
  (sbV (sX5_findStep e t54 a0 c53) (fun t57 => syf (Nat.add c53 1) (fun c58 => zjn (sX5_findPolynomial_J3 c53 k55) (fun (k61 : Sy → Option (Sy)) =>
  syl (fun _ _ => (none : Option (Sy))) (sX5_findPolynomial_L6 e a0 c53 k61) zFU c58 t57)))))
noncomputable def sX5_findPolynomial (e : Se) (t : Sy) (a0 : Nat) : Option (Sy) :=
  srR t a0 3 (fun c21 => sbV (sJ7_fill_d0a16 e t c21 0) (fun t22 => srR t22 a0 3 (fun c23 => syr c23 (fun a24 => syi e a24 0 (fun p25 => swJ e t22 a24 p25 1 (fun t26 => zjn (sX5_findPolynomial_J2 e a0) (fun (k52 : Sy → Option (Sy)) =>
  syl (fun _ _ => (none : Option (Sy))) (sX5_findPolynomial_L7 e a0 k52) zFU 0 t26)))))))
theorem sX5_findPolynomial_ok {ι : Nat → Nat} {e : Se} {h0 h : Zh} {t : Sy} (hι : ∀ a b, ι a = ι b → a = b) (qt : syR ι e h0 t h) {x0 : Nat} {a0 : Nat} (q0 : yA ι x0 a0) : Sm (fun b a => syR ι e h0 b a) (sX5_findPolynomial e t a0) (gX5_findPolynomial h x0) := by
  unfold sX5_findPolynomial gX5_findPolynomial
  refine sm_rR qt q0 rfl (fun _ c21 q21 => ?_)
  refine sm_bV (sJ7_fill_d0a16_ok hι qt q21 (yJ_lit 0)) (fun _ t22 qt22 => ?_)
  refine sm_rR qt22 q0 rfl (fun _ c23 q23 => ?_)
  refine sm_dr q23 (fun _ a24 q24 => ?_)
  refine sm_in qt22 q24 (yI_lit 0) (fun p25 q25 => ?_)
  refine sm_wJ hι qt22 q24 q25 (yJ_lit 1) (fun _ t26 qt26 => ?_)
  refine sm_jn (fun (k' : Sy → Option (Sy)) (k : Zh → Option (Zh)) => ∀ (t27 : Sy) (h27 : Zh), syR ι e h0 t27 h27 → Sm (fun b a => syR ι e h0 b a) (k' t27) (k h27)) ?_ ?_
  · intro t27 h27 qt27
    unfold sX5_findPolynomial_J2 gX5_findPolynomial_J2
    refine sm_lp (fun (k' : Nat → Sy → Option (Sy)) (k : Int32 → Zh → Option (Zh)) => ∀ (c28 : Nat) (x28 : Int32) (t29 : Sy) (h29 : Zh), yI x28 c28 → syR ι e h0 t29 h29 → Sm (fun b a => syR ι e h0 b a) (k' c28 t29) (k x28 h29)) ?_ ?_ zFU _ _ _ _ (yI_lit 0) qt27
    · exact fun _ _ _ _ _ _ => sm_none
    intro k30 gk30 hk30
    intro c28 x28 t29 h29 q28 qt29
    unfold sX5_findPolynomial_L1 gX5_findPolynomial_L1
    refine sm_rI qt29 q0 rfl (fun c31 q31 => ?_)
    refine sm_if (sy_le32 q31 (yI_mul (yI_lit 2) q28)) ?_ ?_
    · exact sm_some qt29
    · refine sm_rR qt29 q0 rfl (fun _ c32 q32 => ?_)
      refine sm_dr q32 (fun _ a33 q33 => ?_)
      refine sm_in qt29 q33 q28 (fun p34 q34 => ?_)
      refine sm_rJ qt29 q33 q34 (fun c35 q35 => ?_)
      refine sm_lt0j q35 (fun _ q36 => ?_)
      refine sm_rR qt29 q0 rfl (fun _ c37 q37 => ?_)
      refine sm_rR qt29 q0 rfl (fun _ c38 q38 => ?_)
      refine sm_rI qt29 q0 rfl (fun c39 q39 => ?_)
      refine sm_dr q38 (fun _ a40 q40 => ?_)
      refine sm_in qt29 q40 (yI_sub q39 q28) (fun p41 q41 => ?_)
      refine sm_rJ qt29 q40 q41 (fun c42 q42 => ?_)
      refine sm_dr q37 (fun _ a43 q43 => ?_)
      refine sm_in qt29 q43 q28 (fun p44 q44 => ?_)
      refine sm_wJ hι qt29 q43 q44 q42 (fun _ t45 qt45 => ?_)
      refine sm_rR qt45 q0 rfl (fun _ c46 q46 => ?_)
      refine sm_rI qt45 q0 rfl (fun c47 q47 => ?_)
      refine sm_dr q46 (fun _ a48 q48 => ?_)
      refine sm_in qt45 q48 (yI_sub q47 q28) (fun p49 q49 => ?_)
      refine sm_wJ hι qt45 q48 q49 q36 (fun _ t50 qt50 => ?_)
      refine sm_f ?_
      exact hk30 _ _ _ _ (yI_add q28 (yI_lit 1)) qt50
  intro k52 gk52 hk52
  refine sm_lp (fun (k' : Nat → Sy → Option (Sy)) (k : Int32 → Zh → Option (Zh)) => ∀ (c53 : Nat) (x53 : Int32) (t54 : Sy) (h54 : Zh), yI x53 c53 → syR ι e h0 t54 h54 → Sm (fun b a => syR ι e h0 b a) (k' c53 t54) (k x53 h54)) ?_ ?_ zFU _ _ _ _ (yI_lit 0) qt26
  · exact fun _ _ _ _ _ _ => sm_none
  intro k55 gk55 hk55
  intro c53 x53 t54 h54 q53 qt54
  unfold sX5_findPolynomial_L7 gX5_findPolynomial_L7
  refine sm_rI qt54 q0 rfl (fun c56 q56 => ?_)
  refine sm_if (sy_le32 q56 q53) ?_ ?_
  · exact hk52 _ _ qt54
  · refine sm_bV (sX5_findStep_ok hι qt54 q0 q53) (fun _ t57 qt57 => ?_)
    refine sm_lti (yI_add q53 (yI_lit 1)) (fun _ c58 q58 => ?_)
    refine sm_jn (fun (k' : Sy → Option (Sy)) (k : Zh → Option (Zh)) => ∀ (t59 : Sy) (h59 : Zh), syR ι e h0 t59 h59 → Sm (fun b a => syR ι e h0 b a) (k' t59) (k h59)) ?_ ?_
    · intro t59 h59 qt59
      unfold sX5_findPolynomial_J3 gX5_findPolynomial_J3
      refine sm_f ?_
      exact hk55 _ _ _ _ (yI_add q53 (yI_lit 1)) qt59
    intro k61 gk61 hk61
    refine sm_lp (fun (k' : Nat → Sy → Option (Sy)) (k : Int32 → Zh → Option (Zh)) => ∀ (c62 : Nat) (x62 : Int32) (t63 : Sy) (h63 : Zh), yI x62 c62 → syR ι e h0 t63 h63 → Sm (fun b a => syR ι e h0 b a) (k' c62 t63) (k x62 h63)) ?_ ?_ zFU _ _ _ _ q58 qt57
    · exact fun _ _ _ _ _ _ => sm_none
    intro k64 gk64 hk64
    intro c62 x62 t63 h63 q62 qt63
    unfold sX5_findPolynomial_L6 gX5_findPolynomial_L6
    refine sm_if (sy_lt32 q62 (yI_lit 0)) ?_ ?_
    · exact hk61 _ _ qt63
    · refine sm_jn (fun (k' : Nat → Option (Sy)) (k : Int64 → Option (Zh)) => ∀ (c65 : Nat) (x65 : Int64), yJ x65 c65 → Sm (fun b a => syR ι e h0 b a) (k' c65) (k x65)) ?_ ?_
      · intro c65 x65 q65
        unfold sX5_findPolynomial_J4 gX5_findPolynomial_J4
        refine sm_rR qt63 q0 rfl (fun _ c66 q66 => ?_)
        refine sm_dr q66 (fun _ a67 q67 => ?_)
        refine sm_in qt63 q67 q62 (fun p68 q68 => ?_)
        refine sm_wJ hι qt63 q67 q68 q65 (fun _ t69 qt69 => ?_)
        refine sm_f ?_
        exact hk64 _ _ _ _ (yI_add q62 (show yI (-1) 4294967295 from by unfold yI; decide)) qt69
      intro k71 gk71 hk71
      refine sm_lp (fun (k' : Nat → Nat → Option (Sy)) (k : Int64 → Int32 → Option (Zh)) => ∀ (c72 : Nat) (x72 : Int64) (c73 : Nat) (x73 : Int32), yJ x72 c72 → yI x73 c73 → Sm (fun b a => syR ι e h0 b a) (k' c72 c73) (k x72 x73)) ?_ ?_ zFU _ _ _ _ (yJ_lit 0) (yI_lit 0)
      · exact fun _ _ _ _ _ _ => sm_none
      intro k74 gk74 hk74
      intro c72 x72 c73 x73 q72 q73
      unfold sX5_findPolynomial_L5 gX5_findPolynomial_L5
      refine sm_if (sy_lt32 q62 q73) ?_ ?_
      · exact hk71 _ _ q72
      · refine sm_if (sy_lt32 q53 q73) ?_ ?_
        · exact hk71 _ _ q72
        · refine sm_rR qt63 q0 rfl (fun _ c75 q75 => ?_)
          refine sm_dr q75 (fun _ a76 q76 => ?_)
          refine sm_in qt63 q76 (yI_sub q62 q73) (fun p77 q77 => ?_)
          refine sm_rJ qt63 q76 q77 (fun c78 q78 => ?_)
          refine sm_rR qt63 q0 rfl (fun _ c79 q79 => ?_)
          refine sm_dr q79 (fun _ a80 q80 => ?_)
          refine sm_in qt63 q80 q73 (fun p81 q81 => ?_)
          refine sm_rJ qt63 q80 q81 (fun c82 q82 => ?_)
          refine sm_ltj (yJ_add q72 (yJ_mul q78 q82)) (fun _ c83 q83 => ?_)
          refine sm_f ?_
          exact hk74 _ _ _ _ q83 (yI_add q73 (yI_lit 1))
noncomputable def sX5_solve (e : Se) (t : Sy) (a0 : Nat) : Option (Nat × Sy) :=
  srI t a0 13 (fun c21 => syc (Nat.ble (syo32 c21) (syo32 10)) (srI t a0 14 (fun c22 => syc (Nat.beq (Nat.mod c22 4294967296) (Nat.mod 0 4294967296)) (sbV (sX5_fillTable e t a0) (fun t23 => sbV (sX5_findPolynomial e t23 a0) (fun t24 => swI e t24 a0 14 1 (fun t25 => some (1, t25)))))
  (some (1, t))))
  (some (0, t)))
theorem sX5_solve_ok {ι : Nat → Nat} {e : Se} {h0 h : Zh} {t : Sy} (hι : ∀ a b, ι a = ι b → a = b) (qt : syR ι e h0 t h) {x0 : Nat} {a0 : Nat} (q0 : yA ι x0 a0) : Sm (fun b a => yI a.1 b.1 ∧ syR ι e h0 b.2 a.2) (sX5_solve e t a0) (gX5_solve h x0) := by
  unfold sX5_solve gX5_solve
  refine sm_rI qt q0 rfl (fun c21 q21 => ?_)
  refine sm_if (sy_le32 q21 (yI_lit 10)) ?_ ?_
  · refine sm_rI qt q0 rfl (fun c22 q22 => ?_)
    refine sm_if (sy_eq32 q22 (yI_lit 0)) ?_ ?_
    · refine sm_bV (sX5_fillTable_ok hι qt q0) (fun _ t23 qt23 => ?_)
      refine sm_bV (sX5_findPolynomial_ok hι qt23 q0) (fun _ t24 qt24 => ?_)
      refine sm_wI hι qt24 q0 rfl (yI_lit 1) (fun _ t25 qt25 => ?_)
      exact sm_some ⟨(yI_lit 1), qt25⟩
    · exact sm_some ⟨(yI_lit 1), qt⟩
  · exact sm_some ⟨(yI_lit 0), qt⟩
noncomputable def sX5_shiftBy_J1 (c27 : Nat) (k29 : Nat → Sy → Option (Sy)) : Sy → Option (Sy) :=
  fun (t33 : Sy) => syf (Nat.add c27 1) (fun c34 => k29 c34 t33)
noncomputable def sX5_shiftBy_L2 (e : Se) (a0 : Nat) (c1 : Nat) (c27 : Nat) (k35 : Sy → Option (Sy)) : (Nat → Sy → Option (Sy)) → Nat → Sy → Option (Sy) :=
  fun (k38 : Nat → Sy → Option (Sy)) (c36 : Nat) (t37 : Sy) => syc (Nat.ble (Nat.succ (syo32 c36)) (syo32 c27)) (k35 t37)
  (srR t37 a0 4 (fun c39 => syr c39 (fun a40 => syi e a40 c36 (fun p41 => srJ t37 a40 p41 (fun c42 => srR t37 a0 4 (fun c43 => syr c43 (fun a44 => syi e a44 (Nat.add c36 1) (fun p45 => srJ t37 a44 p45 (fun c46 => syi e a40 c36 (fun p47 => swJ e t37 a40 p47 (Nat.add c42 (Nat.mul (sy2l c1) c46)) (fun t48 => syf (Nat.add c36 4294967295) (fun c49 => k38 c49 t48))))))))))))
noncomputable def sX5_shiftBy_L3 (e : Se) (a0 : Nat) (c1 : Nat) : (Nat → Sy → Option (Sy)) → Nat → Sy → Option (Sy) :=
  fun (k29 : Nat → Sy → Option (Sy)) (c27 : Nat) (t28 : Sy) => srI t28 a0 13 (fun c30 => syc (Nat.ble (syo32 c30) (syo32 c27)) (some t28)
  (srI t28 a0 13 (fun c31 => syf (Nat.add c31 (syn32 1)) (fun c32 => zjn (sX5_shiftBy_J1 c27 k29) (fun (k35 : Sy → Option (Sy)) =>
  syl (fun _ _ => (none : Option (Sy))) (sX5_shiftBy_L2 e a0 c1 c27 k35) zFU c32 t28)))))
noncomputable def sX5_shiftBy (e : Se) (t : Sy) (a0 : Nat) (c1 : Nat) : Option (Sy) :=
  srR t a0 3 (fun c21 => srR t a0 4 (fun c22 => srI t a0 13 (fun c23 => syr c21 (fun a24 => syr c22 (fun a25 => scJ e t a24 0 a25 0 (Nat.add c23 1) (fun t26 => syl (fun _ _ => (none : Option (Sy))) (sX5_shiftBy_L3 e a0 c1) zFU 0 t26))))))
theorem sX5_shiftBy_ok {ι : Nat → Nat} {e : Se} {h0 h : Zh} {t : Sy} (hι : ∀ a b, ι a = ι b → a = b) (qt : syR ι e h0 t h) {x0 : Nat} {a0 : Nat} {x1 : Int32} {c1 : Nat} (q0 : yA ι x0 a0) (q1 : yI x1 c1) : Sm (fun b a => syR ι e h0 b a) (sX5_shiftBy e t a0 c1) (gX5_shiftBy h x0 x1) := by
  unfold sX5_shiftBy gX5_shiftBy
  refine sm_rR qt q0 rfl (fun _ c21 q21 => ?_)
  refine sm_rR qt q0 rfl (fun _ c22 q22 => ?_)
  refine sm_rI qt q0 rfl (fun c23 q23 => ?_)
  refine sm_dr q21 (fun _ a24 q24 => ?_)
  refine sm_dr q22 (fun _ a25 q25 => ?_)
  refine sm_cJ hι qt q24 (yI_lit 0) q25 (yI_lit 0) (yI_add q23 (yI_lit 1)) (fun _ t26 qt26 => ?_)
  refine sm_lp (fun (k' : Nat → Sy → Option (Sy)) (k : Int32 → Zh → Option (Zh)) => ∀ (c27 : Nat) (x27 : Int32) (t28 : Sy) (h28 : Zh), yI x27 c27 → syR ι e h0 t28 h28 → Sm (fun b a => syR ι e h0 b a) (k' c27 t28) (k x27 h28)) ?_ ?_ zFU _ _ _ _ (yI_lit 0) qt26
  · exact fun _ _ _ _ _ _ => sm_none
  intro k29 gk29 hk29
  intro c27 x27 t28 h28 q27 qt28
  unfold sX5_shiftBy_L3 gX5_shiftBy_L3
  refine sm_rI qt28 q0 rfl (fun c30 q30 => ?_)
  refine sm_if (sy_le32 q30 q27) ?_ ?_
  · exact sm_some qt28
  · refine sm_rI qt28 q0 rfl (fun c31 q31 => ?_)
    refine sm_lti (yI_sub q31 (yI_lit 1)) (fun _ c32 q32 => ?_)
    refine sm_jn (fun (k' : Sy → Option (Sy)) (k : Zh → Option (Zh)) => ∀ (t33 : Sy) (h33 : Zh), syR ι e h0 t33 h33 → Sm (fun b a => syR ι e h0 b a) (k' t33) (k h33)) ?_ ?_
    · intro t33 h33 qt33
      unfold sX5_shiftBy_J1 gX5_shiftBy_J1
      refine sm_f ?_
      exact hk29 _ _ _ _ (yI_add q27 (yI_lit 1)) qt33
    intro k35 gk35 hk35
    refine sm_lp (fun (k' : Nat → Sy → Option (Sy)) (k : Int32 → Zh → Option (Zh)) => ∀ (c36 : Nat) (x36 : Int32) (t37 : Sy) (h37 : Zh), yI x36 c36 → syR ι e h0 t37 h37 → Sm (fun b a => syR ι e h0 b a) (k' c36 t37) (k x36 h37)) ?_ ?_ zFU _ _ _ _ q32 qt28
    · exact fun _ _ _ _ _ _ => sm_none
    intro k38 gk38 hk38
    intro c36 x36 t37 h37 q36 qt37
    unfold sX5_shiftBy_L2 gX5_shiftBy_L2
    refine sm_if (sy_lt32 q36 q27) ?_ ?_
    · exact hk35 _ _ qt37
    · refine sm_rR qt37 q0 rfl (fun _ c39 q39 => ?_)
      refine sm_dr q39 (fun _ a40 q40 => ?_)
      refine sm_in qt37 q40 q36 (fun p41 q41 => ?_)
      refine sm_rJ qt37 q40 q41 (fun c42 q42 => ?_)
      refine sm_rR qt37 q0 rfl (fun _ c43 q43 => ?_)
      refine sm_dr q43 (fun _ a44 q44 => ?_)
      refine sm_in qt37 q44 (yI_add q36 (yI_lit 1)) (fun p45 q45 => ?_)
      refine sm_rJ qt37 q44 q45 (fun c46 q46 => ?_)
      refine sm_in qt37 q40 q36 (fun p47 q47 => ?_)
      refine sm_wJ hι qt37 q40 q47 (yJ_add q42 (yJ_mul (yJ_i2l q1) q46)) (fun _ t48 qt48 => ?_)
      refine sm_f ?_
      exact hk38 _ _ _ _ (yI_add q36 (show yI (-1) 4294967295 from by unfold yI; decide)) qt48
noncomputable def sX5_rootsAt_L1 (e : Se) (a0 : Nat) (t21 : Sy) : (Nat → Option (Nat × Sy)) → Nat → Option (Nat × Sy) :=
  fun (k23 : Nat → Option (Nat × Sy)) (c22 : Nat) => srI t21 a0 13 (fun c24 => syc (Nat.ble (syo32 c24) (syo32 c22)) (some (c22, t21))
  (srR t21 a0 4 (fun c25 => syr c25 (fun a26 => syi e a26 c22 (fun p27 => srJ t21 a26 p27 (fun c28 => syc (Nat.beq (Nat.mod (sycmp c28 0) 4294967296) (Nat.mod 0 4294967296)) (syf (Nat.add c22 1) (fun c29 => k23 c29))
  (some (c22, t21))))))))
noncomputable def sX5_rootsAt (e : Se) (t : Sy) (a0 : Nat) (c1 : Nat) : Option (Nat × Sy) :=
  sbV (sX5_shiftBy e t a0 c1) (fun t21 => syl (fun _ => (none : Option (Nat × Sy))) (sX5_rootsAt_L1 e a0 t21) zFU 0)
theorem sX5_rootsAt_ok {ι : Nat → Nat} {e : Se} {h0 h : Zh} {t : Sy} (hι : ∀ a b, ι a = ι b → a = b) (qt : syR ι e h0 t h) {x0 : Nat} {a0 : Nat} {x1 : Int32} {c1 : Nat} (q0 : yA ι x0 a0) (q1 : yI x1 c1) : Sm (fun b a => yI a.1 b.1 ∧ syR ι e h0 b.2 a.2) (sX5_rootsAt e t a0 c1) (gX5_rootsAt h x0 x1) := by
  unfold sX5_rootsAt gX5_rootsAt
  refine sm_bV (sX5_shiftBy_ok hι qt q0 q1) (fun _ t21 qt21 => ?_)
  refine sm_lp (fun (k' : Nat → Option (Nat × Sy)) (k : Int32 → Option (Int32 × Zh)) => ∀ (c22 : Nat) (x22 : Int32), yI x22 c22 → Sm (fun b a => yI a.1 b.1 ∧ syR ι e h0 b.2 a.2) (k' c22) (k x22)) ?_ ?_ zFU _ _ (yI_lit 0)
  · exact fun _ _ _ => sm_none
  intro k23 gk23 hk23
  intro c22 x22 q22
  unfold sX5_rootsAt_L1 gX5_rootsAt_L1
  refine sm_rI qt21 q0 rfl (fun c24 q24 => ?_)
  refine sm_if (sy_le32 q24 q22) ?_ ?_
  · exact sm_some ⟨q22, qt21⟩
  · refine sm_rR qt21 q0 rfl (fun _ c25 q25 => ?_)
    refine sm_dr q25 (fun _ a26 q26 => ?_)
    refine sm_in qt21 q26 q22 (fun p27 q27 => ?_)
    refine sm_rJ qt21 q26 q27 (fun c28 q28 => ?_)
    refine sm_if (sy_eq32 (yI_cmp q28 (yJ_lit 0)) (yI_lit 0)) ?_ ?_
    · refine sm_f ?_
      exact hk23 _ _ (yI_add q22 (yI_lit 1))
    · exact sm_some ⟨q22, qt21⟩
noncomputable def sX5_rootsAbove_J1 (c26 : Nat) (k27 : Nat → Nat → Nat → Option (Nat × Sy)) : Nat → Nat → Option (Nat × Sy) :=
  fun (c32 : Nat) (c33 : Nat) => syf (Nat.add c26 4294967295) (fun c34 => k27 c32 c33 c34)
noncomputable def sX5_rootsAbove_J2 (c24 : Nat) (k35 : Nat → Nat → Option (Nat × Sy)) : Nat → Option (Nat × Sy) :=
  fun (c41 : Nat) => syf (Nat.add c24 1) (fun c42 => k35 c42 c41)
noncomputable def sX5_rootsAbove_J3 (c24 : Nat) (c25 : Nat) (k35 : Nat → Nat → Option (Nat × Sy)) : Nat → Option (Nat × Sy) :=
  fun (c40 : Nat) => syc (Nat.beq (Nat.mod c40 4294967296) (Nat.mod c25 4294967296)) (k35 c24 c25)
  (zjn (sX5_rootsAbove_J2 c24 k35) (fun (k43 : Nat → Option (Nat × Sy)) =>
  syc (Nat.beq (Nat.mod c25 4294967296) (Nat.mod 0 4294967296)) (k43 1)
  (k43 0)))
noncomputable def sX5_rootsAbove_L4 (e : Se) (a0 : Nat) (t21 : Sy) : (Nat → Nat → Nat → Option (Nat × Sy)) → Nat → Nat → Nat → Option (Nat × Sy) :=
  fun (k27 : Nat → Nat → Nat → Option (Nat × Sy)) (c24 : Nat) (c25 : Nat) (c26 : Nat) => syc (Nat.ble (Nat.succ (syo32 c26)) (syo32 0)) (some (c24, t21))
  (srR t21 a0 4 (fun c28 => syr c28 (fun a29 => syi e a29 c26 (fun p30 => srJ t21 a29 p30 (fun c31 => zjn (sX5_rootsAbove_J1 c26 k27) (fun (k35 : Nat → Nat → Option (Nat × Sy)) =>
  syc (Nat.beq (Nat.mod (sycmp c31 0) 4294967296) (Nat.mod 0 4294967296)) (k35 c24 c25)
  (srR t21 a0 4 (fun c36 => syr c36 (fun a37 => syi e a37 c26 (fun p38 => srJ t21 a37 p38 (fun c39 => zjn (sX5_rootsAbove_J3 c24 c25 k35) (fun (k44 : Nat → Option (Nat × Sy)) =>
  syc (Nat.ble (syo32 0) (syo32 (sycmp c39 0))) (k44 0)
  (k44 1)))))))))))))
noncomputable def sX5_rootsAbove (e : Se) (t : Sy) (a0 : Nat) (c1 : Nat) : Option (Nat × Sy) :=
  sbV (sX5_shiftBy e t a0 c1) (fun t21 => srI t21 a0 13 (fun c22 => syl (fun _ _ _ => (none : Option (Nat × Sy))) (sX5_rootsAbove_L4 e a0 t21) zFU 0 0 c22))
theorem sX5_rootsAbove_ok {ι : Nat → Nat} {e : Se} {h0 h : Zh} {t : Sy} (hι : ∀ a b, ι a = ι b → a = b) (qt : syR ι e h0 t h) {x0 : Nat} {a0 : Nat} {x1 : Int32} {c1 : Nat} (q0 : yA ι x0 a0) (q1 : yI x1 c1) : Sm (fun b a => yI a.1 b.1 ∧ syR ι e h0 b.2 a.2) (sX5_rootsAbove e t a0 c1) (gX5_rootsAbove h x0 x1) := by
  unfold sX5_rootsAbove gX5_rootsAbove
  refine sm_bV (sX5_shiftBy_ok hι qt q0 q1) (fun _ t21 qt21 => ?_)
  refine sm_rI qt21 q0 rfl (fun c22 q22 => ?_)
  refine sm_lt0i q22 (fun _ q23 => ?_)
  refine sm_lp (fun (k' : Nat → Nat → Nat → Option (Nat × Sy)) (k : Int32 → Int32 → Int32 → Option (Int32 × Zh)) => ∀ (c24 : Nat) (x24 : Int32) (c25 : Nat) (x25 : Int32) (c26 : Nat) (x26 : Int32), yI x24 c24 → yI x25 c25 → yI x26 c26 → Sm (fun b a => yI a.1 b.1 ∧ syR ι e h0 b.2 a.2) (k' c24 c25 c26) (k x24 x25 x26)) ?_ ?_ zFU _ _ _ _ _ _ (yI_lit 0) (yI_lit 0) q23
  · exact fun _ _ _ _ _ _ _ _ _ => sm_none
  intro k27 gk27 hk27
  intro c24 x24 c25 x25 c26 x26 q24 q25 q26
  unfold sX5_rootsAbove_L4 gX5_rootsAbove_L4
  refine sm_if (sy_lt32 q26 (yI_lit 0)) ?_ ?_
  · exact sm_some ⟨q24, qt21⟩
  · refine sm_rR qt21 q0 rfl (fun _ c28 q28 => ?_)
    refine sm_dr q28 (fun _ a29 q29 => ?_)
    refine sm_in qt21 q29 q26 (fun p30 q30 => ?_)
    refine sm_rJ qt21 q29 q30 (fun c31 q31 => ?_)
    refine sm_jn (fun (k' : Nat → Nat → Option (Nat × Sy)) (k : Int32 → Int32 → Option (Int32 × Zh)) => ∀ (c32 : Nat) (x32 : Int32) (c33 : Nat) (x33 : Int32), yI x32 c32 → yI x33 c33 → Sm (fun b a => yI a.1 b.1 ∧ syR ι e h0 b.2 a.2) (k' c32 c33) (k x32 x33)) ?_ ?_
    · intro c32 x32 c33 x33 q32 q33
      unfold sX5_rootsAbove_J1 gX5_rootsAbove_J1
      refine sm_f ?_
      exact hk27 _ _ _ _ _ _ q32 q33 (yI_add q26 (show yI (-1) 4294967295 from by unfold yI; decide))
    intro k35 gk35 hk35
    refine sm_if (sy_eq32 (yI_cmp q31 (yJ_lit 0)) (yI_lit 0)) ?_ ?_
    · exact hk35 _ _ _ _ q24 q25
    · refine sm_rR qt21 q0 rfl (fun _ c36 q36 => ?_)
      refine sm_dr q36 (fun _ a37 q37 => ?_)
      refine sm_in qt21 q37 q26 (fun p38 q38 => ?_)
      refine sm_rJ qt21 q37 q38 (fun c39 q39 => ?_)
      refine sm_jn (fun (k' : Nat → Option (Nat × Sy)) (k : Int32 → Option (Int32 × Zh)) => ∀ (c40 : Nat) (x40 : Int32), yI x40 c40 → Sm (fun b a => yI a.1 b.1 ∧ syR ι e h0 b.2 a.2) (k' c40) (k x40)) ?_ ?_
      · intro c40 x40 q40
        unfold sX5_rootsAbove_J3 gX5_rootsAbove_J3
        refine sm_if (sy_eq32 q40 q25) ?_ ?_
        · exact hk35 _ _ _ _ q24 q25
        · refine sm_jn (fun (k' : Nat → Option (Nat × Sy)) (k : Int32 → Option (Int32 × Zh)) => ∀ (c41 : Nat) (x41 : Int32), yI x41 c41 → Sm (fun b a => yI a.1 b.1 ∧ syR ι e h0 b.2 a.2) (k' c41) (k x41)) ?_ ?_
          · intro c41 x41 q41
            unfold sX5_rootsAbove_J2 gX5_rootsAbove_J2
            refine sm_f ?_
            exact hk35 _ _ _ _ (yI_add q24 (yI_lit 1)) q41
          intro k43 gk43 hk43
          refine sm_if (sy_eq32 q25 (yI_lit 0)) ?_ ?_
          · exact hk43 _ _ (yI_lit 1)
          · exact hk43 _ _ (yI_lit 0)
      intro k44 gk44 hk44
      refine sm_if (sy_le32 (yI_lit 0) (yI_cmp q39 (yJ_lit 0))) ?_ ?_
      · exact hk44 _ _ (yI_lit 0)
      · exact hk44 _ _ (yI_lit 1)
noncomputable def sX5_valueAt_L1 (e : Se) (t : Sy) (a0 : Nat) (c1 : Nat) : (Nat → Nat → Option (Nat)) → Nat → Nat → Option (Nat) :=
  fun (k25 : Nat → Nat → Option (Nat)) (c23 : Nat) (c24 : Nat) => syc (Nat.ble (Nat.succ (syo32 c24)) (syo32 0)) (some c23)
  (srR t a0 3 (fun c26 => syr c26 (fun a27 => syi e a27 c24 (fun p28 => srJ t a27 p28 (fun c29 => syf (Nat.add (Nat.mul c23 (sy2l c1)) c29) (fun c30 => syf (Nat.add c24 4294967295) (fun c31 => k25 c30 c31)))))))
noncomputable def sX5_valueAt (e : Se) (t : Sy) (a0 : Nat) (c1 : Nat) : Option (Nat) :=
  srI t a0 13 (fun c21 => syl (fun _ _ => (none : Option (Nat))) (sX5_valueAt_L1 e t a0 c1) zFU 0 c21)
theorem sX5_valueAt_ok {ι : Nat → Nat} {e : Se} {h0 h : Zh} {t : Sy} (hι : ∀ a b, ι a = ι b → a = b) (qt : syR ι e h0 t h) {x0 : Nat} {a0 : Nat} {x1 : Int32} {c1 : Nat} (q0 : yA ι x0 a0) (q1 : yI x1 c1) : Sm (fun b a => yJ a b) (sX5_valueAt e t a0 c1) (gX5_valueAt h x0 x1) := by
  unfold sX5_valueAt gX5_valueAt
  refine sm_rI qt q0 rfl (fun c21 q21 => ?_)
  refine sm_lt0i q21 (fun _ q22 => ?_)
  refine sm_lp (fun (k' : Nat → Nat → Option (Nat)) (k : Int64 → Int32 → Option (Int64)) => ∀ (c23 : Nat) (x23 : Int64) (c24 : Nat) (x24 : Int32), yJ x23 c23 → yI x24 c24 → Sm (fun b a => yJ a b) (k' c23 c24) (k x23 x24)) ?_ ?_ zFU _ _ _ _ (yJ_lit 0) q22
  · exact fun _ _ _ _ _ _ => sm_none
  intro k25 gk25 hk25
  intro c23 x23 c24 x24 q23 q24
  unfold sX5_valueAt_L1 gX5_valueAt_L1
  refine sm_if (sy_lt32 q24 (yI_lit 0)) ?_ ?_
  · exact sm_some q23
  · refine sm_rR qt q0 rfl (fun _ c26 q26 => ?_)
    refine sm_dr q26 (fun _ a27 q27 => ?_)
    refine sm_in qt q27 q24 (fun p28 q28 => ?_)
    refine sm_rJ qt q27 q28 (fun c29 q29 => ?_)
    refine sm_ltj (yJ_add (yJ_mul q23 (yJ_i2l q1)) q29) (fun _ c30 q30 => ?_)
    refine sm_f ?_
    exact hk25 _ _ _ _ q30 (yI_add q24 (show yI (-1) 4294967295 from by unfold yI; decide))
noncomputable def sX5_wholeRoots_J1 (c22 : Nat) (k24 : Nat → Nat → Sy → Option (Nat × Sy)) : Nat → Sy → Option (Nat × Sy) :=
  fun (c26 : Nat) (t27 : Sy) => syf (Nat.add c22 1) (fun c28 => k24 c26 c28 t27)
noncomputable def sX5_wholeRoots_L2 (e : Se) (a0 : Nat) : (Nat → Nat → Sy → Option (Nat × Sy)) → Nat → Nat → Sy → Option (Nat × Sy) :=
  fun (k24 : Nat → Nat → Sy → Option (Nat × Sy)) (c21 : Nat) (c22 : Nat) (t23 : Sy) => syc (Nat.ble (Nat.succ (syo32 50)) (syo32 c22)) (some (c21, t23))
  (sbj (sX5_valueAt e t23 a0 c22) (fun c25 => zjn (sX5_wholeRoots_J1 c22 k24) (fun (k29 : Nat → Sy → Option (Nat × Sy)) =>
  syc (Nat.beq (Nat.mod (sycmp c25 0) 4294967296) (Nat.mod 0 4294967296)) (sbI (sX5_rootsAt e t23 a0 c22) (fun c30 t30 => syf (Nat.add c21 c30) (fun c31 => k29 c31 t30)))
  (k29 c21 t23))))
noncomputable def sX5_wholeRoots (e : Se) (t : Sy) (a0 : Nat) : Option (Nat × Sy) :=
  syl (fun _ _ _ => (none : Option (Nat × Sy))) (sX5_wholeRoots_L2 e a0) zFU 0 4294967246 t
theorem sX5_wholeRoots_ok {ι : Nat → Nat} {e : Se} {h0 h : Zh} {t : Sy} (hι : ∀ a b, ι a = ι b → a = b) (qt : syR ι e h0 t h) {x0 : Nat} {a0 : Nat} (q0 : yA ι x0 a0) : Sm (fun b a => yI a.1 b.1 ∧ syR ι e h0 b.2 a.2) (sX5_wholeRoots e t a0) (gX5_wholeRoots h x0) := by
  unfold sX5_wholeRoots gX5_wholeRoots
  refine sm_lp (fun (k' : Nat → Nat → Sy → Option (Nat × Sy)) (k : Int32 → Int32 → Zh → Option (Int32 × Zh)) => ∀ (c21 : Nat) (x21 : Int32) (c22 : Nat) (x22 : Int32) (t23 : Sy) (h23 : Zh), yI x21 c21 → yI x22 c22 → syR ι e h0 t23 h23 → Sm (fun b a => yI a.1 b.1 ∧ syR ι e h0 b.2 a.2) (k' c21 c22 t23) (k x21 x22 h23)) ?_ ?_ zFU _ _ _ _ _ _ (yI_lit 0) (show yI (-50) 4294967246 from by unfold yI; decide) qt
  · exact fun _ _ _ _ _ _ _ _ _ => sm_none
  intro k24 gk24 hk24
  intro c21 x21 c22 x22 t23 h23 q21 q22 qt23
  unfold sX5_wholeRoots_L2 gX5_wholeRoots_L2
  refine sm_if (sy_lt32 (yI_lit 50) q22) ?_ ?_
  · exact sm_some ⟨q21, qt23⟩
  · refine sm_bj (sX5_valueAt_ok hι qt23 q0 q22) (fun _ c25 q25 => ?_)
    refine sm_jn (fun (k' : Nat → Sy → Option (Nat × Sy)) (k : Int32 → Zh → Option (Int32 × Zh)) => ∀ (c26 : Nat) (x26 : Int32) (t27 : Sy) (h27 : Zh), yI x26 c26 → syR ι e h0 t27 h27 → Sm (fun b a => yI a.1 b.1 ∧ syR ι e h0 b.2 a.2) (k' c26 t27) (k x26 h27)) ?_ ?_
    · intro c26 x26 t27 h27 q26 qt27
      unfold sX5_wholeRoots_J1 gX5_wholeRoots_J1
      refine sm_f ?_
      exact hk24 _ _ _ _ _ _ q26 (yI_add q22 (yI_lit 1)) qt27
    intro k29 gk29 hk29
    refine sm_if (sy_eq32 (yI_cmp q25 (yJ_lit 0)) (yI_lit 0)) ?_ ?_
    · refine sm_bI (sX5_rootsAt_ok hι qt23 q0 q22) (fun _ c30 q30 _ t30 qt30 => ?_)
      refine sm_lti (yI_add q21 q30) (fun _ c31 q31 => ?_)
      exact hk29 _ _ _ _ q31 qt30
    · exact hk29 _ _ _ _ q21 qt23
noncomputable def sX5_fromTop (e : Se) (t : Sy) (a0 : Nat) (c1 : Nat) : Option (Nat) :=
  srI t a0 13 (fun c21 => syc (Nat.ble (Nat.succ (syo32 c21)) (syo32 c1)) (some 0)
  (srR t a0 3 (fun c22 => srI t a0 13 (fun c23 => syr c22 (fun a24 => syi e a24 (Nat.add c23 (syn32 c1)) (fun p25 => srJ t a24 p25 (fun c26 => some c26)))))))
theorem sX5_fromTop_ok {ι : Nat → Nat} {e : Se} {h0 h : Zh} {t : Sy} (hι : ∀ a b, ι a = ι b → a = b) (qt : syR ι e h0 t h) {x0 : Nat} {a0 : Nat} {x1 : Int32} {c1 : Nat} (q0 : yA ι x0 a0) (q1 : yI x1 c1) : Sm (fun b a => yJ a b) (sX5_fromTop e t a0 c1) (gX5_fromTop h x0 x1) := by
  unfold sX5_fromTop gX5_fromTop
  refine sm_rI qt q0 rfl (fun c21 q21 => ?_)
  refine sm_if (sy_lt32 q21 q1) ?_ ?_
  · exact sm_some (yJ_lit 0)
  · refine sm_rR qt q0 rfl (fun _ c22 q22 => ?_)
    refine sm_rI qt q0 rfl (fun c23 q23 => ?_)
    refine sm_dr q22 (fun _ a24 q24 => ?_)
    refine sm_in qt q24 (yI_sub q23 q1) (fun p25 q25 => ?_)
    refine sm_rJ qt q24 q25 (fun c26 q26 => ?_)
    exact sm_some q26
noncomputable def sX5_powerSum_J1 (e : Se) (a0 : Nat) (c1 : Nat) : Sy → Option (Nat × Sy) :=
  fun (t21 : Sy) => srR t21 a0 6 (fun c22 => syr c22 (fun a23 => syi e a23 c1 (fun p24 => srJ t21 a23 p24 (fun c25 => some (c25, t21)))))
noncomputable def sX5_powerSum_J2 (e : Se) (a0 : Nat) (c27 : Nat) (t28 : Sy) (k29 : Nat → Sy → Option (Nat × Sy)) : Nat → Option (Nat × Sy) :=
  fun (c32 : Nat) => srR t28 a0 6 (fun c33 => syr c33 (fun a34 => syi e a34 c27 (fun p35 => swJ e t28 a34 p35 (syn64 c32) (fun t36 => syf (Nat.add c27 1) (fun c37 => k29 c37 t36)))))
noncomputable def sX5_powerSum_L3 (e : Se) (a0 : Nat) (c27 : Nat) (t28 : Sy) (k38 : Nat → Option (Nat × Sy)) : (Nat → Nat → Option (Nat × Sy)) → Nat → Nat → Option (Nat × Sy) :=
  fun (k41 : Nat → Nat → Option (Nat × Sy)) (c39 : Nat) (c40 : Nat) => syc (Nat.ble (syo32 c27) (syo32 c40)) (k38 c39)
  (sbj (sX5_fromTop e t28 a0 c40) (fun c42 => srR t28 a0 6 (fun c43 => syr c43 (fun a44 => syi e a44 (Nat.add c27 (syn32 c40)) (fun p45 => srJ t28 a44 p45 (fun c46 => syf (Nat.add c39 (Nat.mul c42 c46)) (fun c47 => syf (Nat.add c40 1) (fun c48 => k41 c47 c48))))))))
noncomputable def sX5_powerSum_L4 (e : Se) (a0 : Nat) (c1 : Nat) (k26 : Sy → Option (Nat × Sy)) : (Nat → Sy → Option (Nat × Sy)) → Nat → Sy → Option (Nat × Sy) :=
  fun (k29 : Nat → Sy → Option (Nat × Sy)) (c27 : Nat) (t28 : Sy) => syc (Nat.ble (Nat.succ (syo32 c1)) (syo32 c27)) (k26 t28)
  (sbj (sX5_fromTop e t28 a0 c27) (fun c30 => syf (Nat.mul (sy2l c27) c30) (fun c31 => zjn (sX5_powerSum_J2 e a0 c27 t28 k29) (fun (k38 : Nat → Option (Nat × Sy)) =>
  syl (fun _ _ => (none : Option (Nat × Sy))) (sX5_powerSum_L3 e a0 c27 t28 k38) zFU c31 1))))
noncomputable def sX5_powerSum (e : Se) (t : Sy) (a0 : Nat) (c1 : Nat) : Option (Nat × Sy) :=
  zjn (sX5_powerSum_J1 e a0 c1) (fun (k26 : Sy → Option (Nat × Sy)) =>
  syl (fun _ _ => (none : Option (Nat × Sy))) (sX5_powerSum_L4 e a0 c1 k26) zFU 1 t)
theorem sX5_powerSum_ok {ι : Nat → Nat} {e : Se} {h0 h : Zh} {t : Sy} (hι : ∀ a b, ι a = ι b → a = b) (qt : syR ι e h0 t h) {x0 : Nat} {a0 : Nat} {x1 : Int32} {c1 : Nat} (q0 : yA ι x0 a0) (q1 : yI x1 c1) : Sm (fun b a => yJ a.1 b.1 ∧ syR ι e h0 b.2 a.2) (sX5_powerSum e t a0 c1) (gX5_powerSum h x0 x1) := by
  unfold sX5_powerSum gX5_powerSum
  refine sm_jn (fun (k' : Sy → Option (Nat × Sy)) (k : Zh → Option (Int64 × Zh)) => ∀ (t21 : Sy) (h21 : Zh), syR ι e h0 t21 h21 → Sm (fun b a => yJ a.1 b.1 ∧ syR ι e h0 b.2 a.2) (k' t21) (k h21)) ?_ ?_
  · intro t21 h21 qt21
    unfold sX5_powerSum_J1 gX5_powerSum_J1
    refine sm_rR qt21 q0 rfl (fun _ c22 q22 => ?_)
    refine sm_dr q22 (fun _ a23 q23 => ?_)
    refine sm_in qt21 q23 q1 (fun p24 q24 => ?_)
    refine sm_rJ qt21 q23 q24 (fun c25 q25 => ?_)
    exact sm_some ⟨q25, qt21⟩
  intro k26 gk26 hk26
  refine sm_lp (fun (k' : Nat → Sy → Option (Nat × Sy)) (k : Int32 → Zh → Option (Int64 × Zh)) => ∀ (c27 : Nat) (x27 : Int32) (t28 : Sy) (h28 : Zh), yI x27 c27 → syR ι e h0 t28 h28 → Sm (fun b a => yJ a.1 b.1 ∧ syR ι e h0 b.2 a.2) (k' c27 t28) (k x27 h28)) ?_ ?_ zFU _ _ _ _ (yI_lit 1) qt
  · exact fun _ _ _ _ _ _ => sm_none
  intro k29 gk29 hk29
  intro c27 x27 t28 h28 q27 qt28
  unfold sX5_powerSum_L4 gX5_powerSum_L4
  refine sm_if (sy_lt32 q1 q27) ?_ ?_
  · exact hk26 _ _ qt28
  · refine sm_bj (sX5_fromTop_ok hι qt28 q0 q27) (fun _ c30 q30 => ?_)
    refine sm_ltj (yJ_mul (yJ_i2l q27) q30) (fun _ c31 q31 => ?_)
    refine sm_jn (fun (k' : Nat → Option (Nat × Sy)) (k : Int64 → Option (Int64 × Zh)) => ∀ (c32 : Nat) (x32 : Int64), yJ x32 c32 → Sm (fun b a => yJ a.1 b.1 ∧ syR ι e h0 b.2 a.2) (k' c32) (k x32)) ?_ ?_
    · intro c32 x32 q32
      unfold sX5_powerSum_J2 gX5_powerSum_J2
      refine sm_rR qt28 q0 rfl (fun _ c33 q33 => ?_)
      refine sm_dr q33 (fun _ a34 q34 => ?_)
      refine sm_in qt28 q34 q27 (fun p35 q35 => ?_)
      refine sm_wJ hι qt28 q34 q35 (yJ_neg q32) (fun _ t36 qt36 => ?_)
      refine sm_f ?_
      exact hk29 _ _ _ _ (yI_add q27 (yI_lit 1)) qt36
    intro k38 gk38 hk38
    refine sm_lp (fun (k' : Nat → Nat → Option (Nat × Sy)) (k : Int64 → Int32 → Option (Int64 × Zh)) => ∀ (c39 : Nat) (x39 : Int64) (c40 : Nat) (x40 : Int32), yJ x39 c39 → yI x40 c40 → Sm (fun b a => yJ a.1 b.1 ∧ syR ι e h0 b.2 a.2) (k' c39 c40) (k x39 x40)) ?_ ?_ zFU _ _ _ _ q31 (yI_lit 1)
    · exact fun _ _ _ _ _ _ => sm_none
    intro k41 gk41 hk41
    intro c39 x39 c40 x40 q39 q40
    unfold sX5_powerSum_L3 gX5_powerSum_L3
    refine sm_if (sy_le32 q27 q40) ?_ ?_
    · exact hk38 _ _ q39
    · refine sm_bj (sX5_fromTop_ok hι qt28 q0 q40) (fun _ c42 q42 => ?_)
      refine sm_rR qt28 q0 rfl (fun _ c43 q43 => ?_)
      refine sm_dr q43 (fun _ a44 q44 => ?_)
      refine sm_in qt28 q44 (yI_sub q27 q40) (fun p45 q45 => ?_)
      refine sm_rJ qt28 q44 q45 (fun c46 q46 => ?_)
      refine sm_ltj (yJ_add q39 (yJ_mul q42 q46)) (fun _ c47 q47 => ?_)
      refine sm_f ?_
      exact hk41 _ _ _ _ q47 (yI_add q40 (yI_lit 1))
noncomputable def sX5_spread_J1 (c29 : Nat) (k31 : Nat → Sy → Option (Sy)) : Sy → Option (Sy) :=
  fun (t39 : Sy) => syf (Nat.add c29 1) (fun c40 => k31 c40 t39)
noncomputable def sX5_spread_L2 (e : Se) (a0 : Nat) (c1 : Nat) (c2 : Nat) (a21 : Nat) : (Nat → Sy → Option (Sy)) → Nat → Sy → Option (Sy) :=
  fun (k31 : Nat → Sy → Option (Sy)) (c29 : Nat) (t30 : Sy) => srR t30 a0 10 (fun c32 => syr c32 (fun a33 => srI t30 a33 5 (fun c34 => syc (Nat.ble (syo32 c34) (syo32 c29)) (some t30)
  (srR t30 a0 10 (fun c35 => syr c35 (fun a36 => sbi (sX0_pairBits e t30 a36 c29) (fun c37 => syf (Nat.land c1 c37) (fun c38 => zjn (sX5_spread_J1 c29 k31) (fun (k41 : Sy → Option (Sy)) =>
  syc (Nat.beq (Nat.mod c38 4294967296) (Nat.mod 0 4294967296)) (k41 t30)
  (syc (Nat.beq (Nat.mod c38 4294967296) (Nat.mod c37 4294967296)) (k41 t30)
  (syf (Nat.xor c1 c37) (fun c42 => syi e a21 c42 (fun p43 => srJ t30 a21 p43 (fun c44 => srR t30 a0 10 (fun c45 => syr c45 (fun a46 => srI t30 a46 2 (fun c47 => syi e a21 c42 (fun p48 => swJ e t30 a21 p48 (Nat.add c44 (Nat.mul c2 (sy2l c47))) (fun t49 => k41 t49)))))))))))))))))))
noncomputable def sX5_spread (e : Se) (t : Sy) (a0 : Nat) (c1 : Nat) (c2 : Nat) (c4 : Nat) : Option (Sy) :=
  syr c4 (fun a21 => syi e a21 c1 (fun p22 => srJ t a21 p22 (fun c23 => srR t a0 10 (fun c24 => syr c24 (fun a25 => sbi (sX0_stay e t a25 c1) (fun c26 => syi e a21 c1 (fun p27 => swJ e t a21 p27 (Nat.add c23 (Nat.mul c2 (sy2l c26))) (fun t28 => syl (fun _ _ => (none : Option (Sy))) (sX5_spread_L2 e a0 c1 c2 a21) zFU 0 t28))))))))
theorem sX5_spread_ok {ι : Nat → Nat} {e : Se} {h0 h : Zh} {t : Sy} (hι : ∀ a b, ι a = ι b → a = b) (qt : syR ι e h0 t h) {x0 : Nat} {a0 : Nat} {x1 : Int32} {c1 : Nat} {x2 : Int64} {c2 : Nat} {x4 : Option Nat} {c4 : Nat} (q0 : yA ι x0 a0) (q1 : yI x1 c1) (q2 : yJ x2 c2) (q4 : yR ι x4 c4) : Sm (fun b a => syR ι e h0 b a) (sX5_spread e t a0 c1 c2 c4) (gX5_spread h x0 x1 x2 x4) := by
  unfold sX5_spread gX5_spread
  refine sm_dr q4 (fun _ a21 q21 => ?_)
  refine sm_in qt q21 q1 (fun p22 q22 => ?_)
  refine sm_rJ qt q21 q22 (fun c23 q23 => ?_)
  refine sm_rR qt q0 rfl (fun _ c24 q24 => ?_)
  refine sm_dr q24 (fun _ a25 q25 => ?_)
  refine sm_bi (sX0_stay_ok hι qt q25 q1) (fun _ c26 q26 => ?_)
  refine sm_in qt q21 q1 (fun p27 q27 => ?_)
  refine sm_wJ hι qt q21 q27 (yJ_add q23 (yJ_mul q2 (yJ_i2l q26))) (fun _ t28 qt28 => ?_)
  refine sm_lp (fun (k' : Nat → Sy → Option (Sy)) (k : Int32 → Zh → Option (Zh)) => ∀ (c29 : Nat) (x29 : Int32) (t30 : Sy) (h30 : Zh), yI x29 c29 → syR ι e h0 t30 h30 → Sm (fun b a => syR ι e h0 b a) (k' c29 t30) (k x29 h30)) ?_ ?_ zFU _ _ _ _ (yI_lit 0) qt28
  · exact fun _ _ _ _ _ _ => sm_none
  intro k31 gk31 hk31
  intro c29 x29 t30 h30 q29 qt30
  unfold sX5_spread_L2 gX5_spread_L2
  refine sm_rR qt30 q0 rfl (fun _ c32 q32 => ?_)
  refine sm_dr q32 (fun _ a33 q33 => ?_)
  refine sm_rI qt30 q33 rfl (fun c34 q34 => ?_)
  refine sm_if (sy_le32 q34 q29) ?_ ?_
  · exact sm_some qt30
  · refine sm_rR qt30 q0 rfl (fun _ c35 q35 => ?_)
    refine sm_dr q35 (fun _ a36 q36 => ?_)
    refine sm_bi (sX0_pairBits_ok hι qt30 q36 q29) (fun _ c37 q37 => ?_)
    refine sm_lti (yI_and q1 q37) (fun _ c38 q38 => ?_)
    refine sm_jn (fun (k' : Sy → Option (Sy)) (k : Zh → Option (Zh)) => ∀ (t39 : Sy) (h39 : Zh), syR ι e h0 t39 h39 → Sm (fun b a => syR ι e h0 b a) (k' t39) (k h39)) ?_ ?_
    · intro t39 h39 qt39
      unfold sX5_spread_J1 gX5_spread_J1
      refine sm_f ?_
      exact hk31 _ _ _ _ (yI_add q29 (yI_lit 1)) qt39
    intro k41 gk41 hk41
    refine sm_if (sy_eq32 q38 (yI_lit 0)) ?_ ?_
    · exact hk41 _ _ qt30
    · refine sm_if (sy_eq32 q38 q37) ?_ ?_
      · exact hk41 _ _ qt30
      · refine sm_lti (yI_xor q1 q37) (fun _ c42 q42 => ?_)
        refine sm_in qt30 q21 q42 (fun p43 q43 => ?_)
        refine sm_rJ qt30 q21 q43 (fun c44 q44 => ?_)
        refine sm_rR qt30 q0 rfl (fun _ c45 q45 => ?_)
        refine sm_dr q45 (fun _ a46 q46 => ?_)
        refine sm_rI qt30 q46 rfl (fun c47 q47 => ?_)
        refine sm_in qt30 q21 q42 (fun p48 q48 => ?_)
        refine sm_wJ hι qt30 q21 q48 (yJ_add q44 (yJ_mul q2 (yJ_i2l q47))) (fun _ t49 qt49 => ?_)
        exact hk41 _ _ qt49
noncomputable def sX5_atItself_J1 (c25 : Nat) (c26 : Nat) (k27 : Nat → Nat → Option (Nat × Sy)) (c28 : Nat) : Nat → Option (Nat × Sy) :=
  fun (c29 : Nat) => syf (Nat.add c25 (Nat.mul c28 c29)) (fun c30 => syf (Nat.add c26 1) (fun c31 => k27 c30 c31))
noncomputable def sX5_atItself_J2 (e : Se) (a0 : Nat) (c3 : Nat) (t24 : Sy) (c25 : Nat) (c26 : Nat) (k27 : Nat → Nat → Option (Nat × Sy)) : Nat → Option (Nat × Sy) :=
  fun (c28 : Nat) => zjn (sX5_atItself_J1 c25 c26 k27 c28) (fun (k32 : Nat → Option (Nat × Sy)) =>
  syc (Nat.beq (Nat.mod c3 4294967296) (Nat.mod 2 4294967296)) (srR t24 a0 8 (fun c41 => srR t24 a0 1 (fun c42 => syr c42 (fun a43 => syi e a43 c26 (fun p44 => srI t24 a43 p44 (fun c45 => syr c41 (fun a46 => syi e a46 c45 (fun p47 => srJ t24 a46 p47 (fun c48 => k32 c48)))))))))
  (srR t24 a0 9 (fun c33 => srR t24 a0 1 (fun c34 => syr c34 (fun a35 => syi e a35 c26 (fun p36 => srI t24 a35 p36 (fun c37 => syr c33 (fun a38 => syi e a38 c37 (fun p39 => srJ t24 a38 p39 (fun c40 => k32 c40))))))))))
noncomputable def sX5_atItself_L3 (e : Se) (a0 : Nat) (c2 : Nat) (c3 : Nat) (t24 : Sy) : (Nat → Nat → Option (Nat × Sy)) → Nat → Nat → Option (Nat × Sy) :=
  fun (k27 : Nat → Nat → Option (Nat × Sy)) (c25 : Nat) (c26 : Nat) => syc (Nat.ble (syo32 c2) (syo32 c26)) (some (c25, t24))
  (zjn (sX5_atItself_J2 e a0 c3 t24 c25 c26 k27) (fun (k49 : Nat → Option (Nat × Sy)) =>
  syc (Nat.beq (Nat.mod c3 4294967296) (Nat.mod 4 4294967296)) (srR t24 a0 9 (fun c58 => srR t24 a0 1 (fun c59 => syr c59 (fun a60 => syi e a60 c26 (fun p61 => srI t24 a60 p61 (fun c62 => syr c58 (fun a63 => syi e a63 c62 (fun p64 => srJ t24 a63 p64 (fun c65 => k49 c65)))))))))
  (srR t24 a0 8 (fun c50 => srR t24 a0 1 (fun c51 => syr c51 (fun a52 => syi e a52 c26 (fun p53 => srI t24 a52 p53 (fun c54 => syr c50 (fun a55 => syi e a55 c54 (fun p56 => srJ t24 a55 p56 (fun c57 => k49 c57)))))))))))
noncomputable def sX5_atItself_J4 (e : Se) (a0 : Nat) (c2 : Nat) (c3 : Nat) : Sy → Option (Nat × Sy) :=
  fun (t24 : Sy) => syl (fun _ _ => (none : Option (Nat × Sy))) (sX5_atItself_L3 e a0 c2 c3 t24) zFU 0 0
noncomputable def sX5_atItself_J5 (c67 : Nat) (k69 : Nat → Sy → Option (Nat × Sy)) : Sy → Option (Nat × Sy) :=
  fun (t78 : Sy) => syf (Nat.add c67 1) (fun c79 => k69 c79 t78)
noncomputable def sX5_atItself_L6 (e : Se) (a0 : Nat) (c2 : Nat) (c3 : Nat) (k66 : Sy → Option (Nat × Sy)) : (Nat → Sy → Option (Nat × Sy)) → Nat → Sy → Option (Nat × Sy) :=
  fun (k69 : Nat → Sy → Option (Nat × Sy)) (c67 : Nat) (t68 : Sy) => syc (Nat.ble (syo32 c2) (syo32 c67)) (k66 t68)
  (syc (Nat.ble (syo32 c3) (syo32 2)) (k66 t68)
  (srR t68 a0 8 (fun c70 => srR t68 a0 1 (fun c71 => syr c71 (fun a72 => syi e a72 c67 (fun p73 => srI t68 a72 p73 (fun c74 => syr c70 (fun a75 => syi e a75 c74 (fun p76 => srJ t68 a75 p76 (fun c77 => zjn (sX5_atItself_J5 c67 k69) (fun (k80 : Sy → Option (Nat × Sy)) =>
  syc (Nat.beq (Nat.mod (sycmp c77 0) 4294967296) (Nat.mod 0 4294967296)) (k80 t68)
  (srR t68 a0 1 (fun c81 => syr c81 (fun a82 => syi e a82 c67 (fun p83 => srI t68 a82 p83 (fun c84 => srR t68 a0 8 (fun c85 => srR t68 a0 1 (fun c86 => syr c86 (fun a87 => syi e a87 c67 (fun p88 => srI t68 a87 p88 (fun c89 => syr c85 (fun a90 => syi e a90 c89 (fun p91 => srJ t68 a90 p91 (fun c92 => srR t68 a0 9 (fun c93 => sbV (sX5_spread e t68 a0 c84 c92 c93) (fun t94 => k80 t94))))))))))))))))))))))))))
noncomputable def sX5_atItself_J7 (e : Se) (a0 : Nat) (c1 : Nat) (c2 : Nat) (c3 : Nat) : Sy → Option (Nat × Sy) :=
  fun (t21 : Sy) => srR t21 a0 8 (fun c22 => sbV (sX5_spread e t21 a0 c1 1 c22) (fun t23 => zjn (sX5_atItself_J4 e a0 c2 c3) (fun (k66 : Sy → Option (Nat × Sy)) =>
  syl (fun _ _ => (none : Option (Nat × Sy))) (sX5_atItself_L6 e a0 c2 c3 k66) zFU 0 t23)))
noncomputable def sX5_atItself_L8 (e : Se) (a0 : Nat) (c2 : Nat) (k95 : Sy → Option (Nat × Sy)) : (Nat → Sy → Option (Nat × Sy)) → Nat → Sy → Option (Nat × Sy) :=
  fun (k98 : Nat → Sy → Option (Nat × Sy)) (c96 : Nat) (t97 : Sy) => syc (Nat.ble (syo32 c2) (syo32 c96)) (k95 t97)
  (srR t97 a0 8 (fun c99 => srR t97 a0 1 (fun c100 => syr c100 (fun a101 => syi e a101 c96 (fun p102 => srI t97 a101 p102 (fun c103 => syr c99 (fun a104 => syi e a104 c103 (fun p105 => swJ e t97 a104 p105 0 (fun t106 => srR t106 a0 9 (fun c107 => srR t106 a0 1 (fun c108 => syr c108 (fun a109 => syi e a109 c96 (fun p110 => srI t106 a109 p110 (fun c111 => syr c107 (fun a112 => syi e a112 c111 (fun p113 => swJ e t106 a112 p113 0 (fun t114 => syf (Nat.add c96 1) (fun c115 => k98 c115 t114))))))))))))))))))
noncomputable def sX5_atItself (e : Se) (t : Sy) (a0 : Nat) (c1 : Nat) (c2 : Nat) (c3 : Nat) : Option (Nat × Sy) :=
  zjn (sX5_atItself_J7 e a0 c1 c2 c3) (fun (k95 : Sy → Option (Nat × Sy)) =>
  syl (fun _ _ => (none : Option (Nat × Sy))) (sX5_atItself_L8 e a0 c2 k95) zFU 0 t)
theorem sX5_atItself_ok {ι : Nat → Nat} {e : Se} {h0 h : Zh} {t : Sy} (hι : ∀ a b, ι a = ι b → a = b) (qt : syR ι e h0 t h) {x0 : Nat} {a0 : Nat} {x1 : Int32} {c1 : Nat} {x2 : Int32} {c2 : Nat} {x3 : Int32} {c3 : Nat} (q0 : yA ι x0 a0) (q1 : yI x1 c1) (q2 : yI x2 c2) (q3 : yI x3 c3) : Sm (fun b a => yJ a.1 b.1 ∧ syR ι e h0 b.2 a.2) (sX5_atItself e t a0 c1 c2 c3) (gX5_atItself h x0 x1 x2 x3) := by
  unfold sX5_atItself gX5_atItself
  refine sm_jn (fun (k' : Sy → Option (Nat × Sy)) (k : Zh → Option (Int64 × Zh)) => ∀ (t21 : Sy) (h21 : Zh), syR ι e h0 t21 h21 → Sm (fun b a => yJ a.1 b.1 ∧ syR ι e h0 b.2 a.2) (k' t21) (k h21)) ?_ ?_
  · intro t21 h21 qt21
    unfold sX5_atItself_J7 gX5_atItself_J7
    refine sm_rR qt21 q0 rfl (fun _ c22 q22 => ?_)
    refine sm_bV (sX5_spread_ok hι qt21 q0 q1 (yJ_lit 1) q22) (fun _ t23 qt23 => ?_)
    refine sm_jn (fun (k' : Sy → Option (Nat × Sy)) (k : Zh → Option (Int64 × Zh)) => ∀ (t24 : Sy) (h24 : Zh), syR ι e h0 t24 h24 → Sm (fun b a => yJ a.1 b.1 ∧ syR ι e h0 b.2 a.2) (k' t24) (k h24)) ?_ ?_
    · intro t24 h24 qt24
      unfold sX5_atItself_J4 gX5_atItself_J4
      refine sm_lp (fun (k' : Nat → Nat → Option (Nat × Sy)) (k : Int64 → Int32 → Option (Int64 × Zh)) => ∀ (c25 : Nat) (x25 : Int64) (c26 : Nat) (x26 : Int32), yJ x25 c25 → yI x26 c26 → Sm (fun b a => yJ a.1 b.1 ∧ syR ι e h0 b.2 a.2) (k' c25 c26) (k x25 x26)) ?_ ?_ zFU _ _ _ _ (yJ_lit 0) (yI_lit 0)
      · exact fun _ _ _ _ _ _ => sm_none
      intro k27 gk27 hk27
      intro c25 x25 c26 x26 q25 q26
      unfold sX5_atItself_L3 gX5_atItself_L3
      refine sm_if (sy_le32 q2 q26) ?_ ?_
      · exact sm_some ⟨q25, qt24⟩
      · refine sm_jn (fun (k' : Nat → Option (Nat × Sy)) (k : Int64 → Option (Int64 × Zh)) => ∀ (c28 : Nat) (x28 : Int64), yJ x28 c28 → Sm (fun b a => yJ a.1 b.1 ∧ syR ι e h0 b.2 a.2) (k' c28) (k x28)) ?_ ?_
        · intro c28 x28 q28
          unfold sX5_atItself_J2 gX5_atItself_J2
          refine sm_jn (fun (k' : Nat → Option (Nat × Sy)) (k : Int64 → Option (Int64 × Zh)) => ∀ (c29 : Nat) (x29 : Int64), yJ x29 c29 → Sm (fun b a => yJ a.1 b.1 ∧ syR ι e h0 b.2 a.2) (k' c29) (k x29)) ?_ ?_
          · intro c29 x29 q29
            unfold sX5_atItself_J1 gX5_atItself_J1
            refine sm_ltj (yJ_add q25 (yJ_mul q28 q29)) (fun _ c30 q30 => ?_)
            refine sm_f ?_
            exact hk27 _ _ _ _ q30 (yI_add q26 (yI_lit 1))
          intro k32 gk32 hk32
          refine sm_if (sy_eq32 q3 (yI_lit 2)) ?_ ?_
          · refine sm_rR qt24 q0 rfl (fun _ c41 q41 => ?_)
            refine sm_rR qt24 q0 rfl (fun _ c42 q42 => ?_)
            refine sm_dr q42 (fun _ a43 q43 => ?_)
            refine sm_in qt24 q43 q26 (fun p44 q44 => ?_)
            refine sm_rI qt24 q43 q44 (fun c45 q45 => ?_)
            refine sm_dr q41 (fun _ a46 q46 => ?_)
            refine sm_in qt24 q46 q45 (fun p47 q47 => ?_)
            refine sm_rJ qt24 q46 q47 (fun c48 q48 => ?_)
            exact hk32 _ _ q48
          · refine sm_rR qt24 q0 rfl (fun _ c33 q33 => ?_)
            refine sm_rR qt24 q0 rfl (fun _ c34 q34 => ?_)
            refine sm_dr q34 (fun _ a35 q35 => ?_)
            refine sm_in qt24 q35 q26 (fun p36 q36 => ?_)
            refine sm_rI qt24 q35 q36 (fun c37 q37 => ?_)
            refine sm_dr q33 (fun _ a38 q38 => ?_)
            refine sm_in qt24 q38 q37 (fun p39 q39 => ?_)
            refine sm_rJ qt24 q38 q39 (fun c40 q40 => ?_)
            exact hk32 _ _ q40
        intro k49 gk49 hk49
        refine sm_if (sy_eq32 q3 (yI_lit 4)) ?_ ?_
        · refine sm_rR qt24 q0 rfl (fun _ c58 q58 => ?_)
          refine sm_rR qt24 q0 rfl (fun _ c59 q59 => ?_)
          refine sm_dr q59 (fun _ a60 q60 => ?_)
          refine sm_in qt24 q60 q26 (fun p61 q61 => ?_)
          refine sm_rI qt24 q60 q61 (fun c62 q62 => ?_)
          refine sm_dr q58 (fun _ a63 q63 => ?_)
          refine sm_in qt24 q63 q62 (fun p64 q64 => ?_)
          refine sm_rJ qt24 q63 q64 (fun c65 q65 => ?_)
          exact hk49 _ _ q65
        · refine sm_rR qt24 q0 rfl (fun _ c50 q50 => ?_)
          refine sm_rR qt24 q0 rfl (fun _ c51 q51 => ?_)
          refine sm_dr q51 (fun _ a52 q52 => ?_)
          refine sm_in qt24 q52 q26 (fun p53 q53 => ?_)
          refine sm_rI qt24 q52 q53 (fun c54 q54 => ?_)
          refine sm_dr q50 (fun _ a55 q55 => ?_)
          refine sm_in qt24 q55 q54 (fun p56 q56 => ?_)
          refine sm_rJ qt24 q55 q56 (fun c57 q57 => ?_)
          exact hk49 _ _ q57
    intro k66 gk66 hk66
    refine sm_lp (fun (k' : Nat → Sy → Option (Nat × Sy)) (k : Int32 → Zh → Option (Int64 × Zh)) => ∀ (c67 : Nat) (x67 : Int32) (t68 : Sy) (h68 : Zh), yI x67 c67 → syR ι e h0 t68 h68 → Sm (fun b a => yJ a.1 b.1 ∧ syR ι e h0 b.2 a.2) (k' c67 t68) (k x67 h68)) ?_ ?_ zFU _ _ _ _ (yI_lit 0) qt23
    · exact fun _ _ _ _ _ _ => sm_none
    intro k69 gk69 hk69
    intro c67 x67 t68 h68 q67 qt68
    unfold sX5_atItself_L6 gX5_atItself_L6
    refine sm_if (sy_le32 q2 q67) ?_ ?_
    · exact hk66 _ _ qt68
    · refine sm_if (sy_le32 q3 (yI_lit 2)) ?_ ?_
      · exact hk66 _ _ qt68
      · refine sm_rR qt68 q0 rfl (fun _ c70 q70 => ?_)
        refine sm_rR qt68 q0 rfl (fun _ c71 q71 => ?_)
        refine sm_dr q71 (fun _ a72 q72 => ?_)
        refine sm_in qt68 q72 q67 (fun p73 q73 => ?_)
        refine sm_rI qt68 q72 q73 (fun c74 q74 => ?_)
        refine sm_dr q70 (fun _ a75 q75 => ?_)
        refine sm_in qt68 q75 q74 (fun p76 q76 => ?_)
        refine sm_rJ qt68 q75 q76 (fun c77 q77 => ?_)
        refine sm_jn (fun (k' : Sy → Option (Nat × Sy)) (k : Zh → Option (Int64 × Zh)) => ∀ (t78 : Sy) (h78 : Zh), syR ι e h0 t78 h78 → Sm (fun b a => yJ a.1 b.1 ∧ syR ι e h0 b.2 a.2) (k' t78) (k h78)) ?_ ?_
        · intro t78 h78 qt78
          unfold sX5_atItself_J5 gX5_atItself_J5
          refine sm_f ?_
          exact hk69 _ _ _ _ (yI_add q67 (yI_lit 1)) qt78
        intro k80 gk80 hk80
        refine sm_if (sy_eq32 (yI_cmp q77 (yJ_lit 0)) (yI_lit 0)) ?_ ?_
        · exact hk80 _ _ qt68
        · refine sm_rR qt68 q0 rfl (fun _ c81 q81 => ?_)
          refine sm_dr q81 (fun _ a82 q82 => ?_)
          refine sm_in qt68 q82 q67 (fun p83 q83 => ?_)
          refine sm_rI qt68 q82 q83 (fun c84 q84 => ?_)
          refine sm_rR qt68 q0 rfl (fun _ c85 q85 => ?_)
          refine sm_rR qt68 q0 rfl (fun _ c86 q86 => ?_)
          refine sm_dr q86 (fun _ a87 q87 => ?_)
          refine sm_in qt68 q87 q67 (fun p88 q88 => ?_)
          refine sm_rI qt68 q87 q88 (fun c89 q89 => ?_)
          refine sm_dr q85 (fun _ a90 q90 => ?_)
          refine sm_in qt68 q90 q89 (fun p91 q91 => ?_)
          refine sm_rJ qt68 q90 q91 (fun c92 q92 => ?_)
          refine sm_rR qt68 q0 rfl (fun _ c93 q93 => ?_)
          refine sm_bV (sX5_spread_ok hι qt68 q0 q84 q92 q93) (fun _ t94 qt94 => ?_)
          exact hk80 _ _ qt94
  intro k95 gk95 hk95
  refine sm_lp (fun (k' : Nat → Sy → Option (Nat × Sy)) (k : Int32 → Zh → Option (Int64 × Zh)) => ∀ (c96 : Nat) (x96 : Int32) (t97 : Sy) (h97 : Zh), yI x96 c96 → syR ι e h0 t97 h97 → Sm (fun b a => yJ a.1 b.1 ∧ syR ι e h0 b.2 a.2) (k' c96 t97) (k x96 h97)) ?_ ?_ zFU _ _ _ _ (yI_lit 0) qt
  · exact fun _ _ _ _ _ _ => sm_none
  intro k98 gk98 hk98
  intro c96 x96 t97 h97 q96 qt97
  unfold sX5_atItself_L8 gX5_atItself_L8
  refine sm_if (sy_le32 q2 q96) ?_ ?_
  · exact hk95 _ _ qt97
  · refine sm_rR qt97 q0 rfl (fun _ c99 q99 => ?_)
    refine sm_rR qt97 q0 rfl (fun _ c100 q100 => ?_)
    refine sm_dr q100 (fun _ a101 q101 => ?_)
    refine sm_in qt97 q101 q96 (fun p102 q102 => ?_)
    refine sm_rI qt97 q101 q102 (fun c103 q103 => ?_)
    refine sm_dr q99 (fun _ a104 q104 => ?_)
    refine sm_in qt97 q104 q103 (fun p105 q105 => ?_)
    refine sm_wJ hι qt97 q104 q105 (yJ_lit 0) (fun _ t106 qt106 => ?_)
    refine sm_rR qt106 q0 rfl (fun _ c107 q107 => ?_)
    refine sm_rR qt106 q0 rfl (fun _ c108 q108 => ?_)
    refine sm_dr q108 (fun _ a109 q109 => ?_)
    refine sm_in qt106 q109 q96 (fun p110 q110 => ?_)
    refine sm_rI qt106 q109 q110 (fun c111 q111 => ?_)
    refine sm_dr q107 (fun _ a112 q112 => ?_)
    refine sm_in qt106 q112 q111 (fun p113 q113 => ?_)
    refine sm_wJ hι qt106 q112 q113 (yJ_lit 0) (fun _ t114 qt114 => ?_)
    refine sm_f ?_
    exact hk98 _ _ _ _ (yI_add q96 (yI_lit 1)) qt114
noncomputable def sJ9_abs_067f4 (c0 : Nat) : Option (Nat) :=
  syc (Nat.ble (syo32 0) (syo32 (sycmp c0 0))) (some c0)
  (some (syn64 c0))
theorem sJ9_abs_067f4_ok {x0 : Int64} {c0 : Nat} (q0 : yJ x0 c0) : Sm (fun b a => yJ a b) (sJ9_abs_067f4 c0) (gJ9_abs_067f4 x0) := by
  unfold sJ9_abs_067f4 gJ9_abs_067f4
  refine sm_if (sy_le32 (yI_lit 0) (yI_cmp q0 (yJ_lit 0))) ?_ ?_
  · exact sm_some q0
  · exact sm_some (yJ_neg q0)
noncomputable def sX5_reduceShares_J1 (c24 : Nat) (k26 : Nat → Nat → Nat → Sy → Option (Nat × Sy)) (c28 : Nat) (t29 : Sy) : Nat → Option (Nat × Sy) :=
  fun (c35 : Nat) => syf (Nat.add c24 1) (fun c36 => k26 c35 c28 c36 t29)
noncomputable def sX5_reduceShares_J2 (e : Se) (a0 : Nat) (c24 : Nat) (k26 : Nat → Nat → Nat → Sy → Option (Nat × Sy)) (c28 : Nat) : Sy → Option (Nat × Sy) :=
  fun (t29 : Sy) => srR t29 a0 5 (fun c30 => syr c30 (fun a31 => syi e a31 c24 (fun p32 => srJ t29 a31 p32 (fun c33 => sbj (sJ9_abs_067f4 c33) (fun c34 => zjn (sX5_reduceShares_J1 c24 k26 c28 t29) (fun (k37 : Nat → Option (Nat × Sy)) =>
  syc (Nat.ble (Nat.succ (syo32 0)) (syo32 (sycmp c34 1000000))) (k37 0)
  (k37 1)))))))
noncomputable def sX5_reduceShares_J3 (e : Se) (a0 : Nat) (c24 : Nat) (t25 : Sy) (k26 : Nat → Nat → Nat → Sy → Option (Nat × Sy)) : Nat → Option (Nat × Sy) :=
  fun (c28 : Nat) => zjn (sX5_reduceShares_J2 e a0 c24 k26 c28) (fun (k38 : Sy → Option (Nat × Sy)) =>
  syc (Nat.beq (Nat.mod (sycmp c28 0) 4294967296) (Nat.mod 0 4294967296)) (k38 t25)
  (srR t25 a0 5 (fun c39 => syr c39 (fun a40 => syi e a40 c24 (fun p41 => srJ t25 a40 p41 (fun c42 => syc (Nat.beq (Nat.mod c28 18446744073709551616) (Nat.mod 0 18446744073709551616)) none (syi e a40 c24 (fun p43 => swJ e t25 a40 p43 (syd 18446744073709551616 (Nat.mod c42 18446744073709551616) (Nat.mod c28 18446744073709551616)) (fun t44 => k38 t44)))))))))
noncomputable def sX5_reduceShares_J4 (k45 : Nat → Option (Nat × Sy)) : Nat → Option (Nat × Sy) :=
  fun (c54 : Nat) => k45 c54
noncomputable def sX5_reduceShares_L5 (e : Se) (a0 : Nat) (c1 : Nat) : (Nat → Nat → Nat → Sy → Option (Nat × Sy)) → Nat → Nat → Nat → Sy → Option (Nat × Sy) :=
  fun (k26 : Nat → Nat → Nat → Sy → Option (Nat × Sy)) (c22 : Nat) (c23 : Nat) (c24 : Nat) (t25 : Sy) => srI t25 a0 13 (fun c27 => syc (Nat.ble (syo32 c27) (syo32 c24)) (syc (Nat.ble (Nat.mod c22 4294967296) 1) (some (c22, t25)) none)
  (syc (Nat.beq (Nat.mod c22 4294967296) (Nat.mod 0 4294967296)) (syc (Nat.ble (Nat.mod c22 4294967296) 1) (some (c22, t25)) none)
  (zjn (sX5_reduceShares_J3 e a0 c24 t25 k26) (fun (k45 : Nat → Option (Nat × Sy)) =>
  syc (Nat.beq (Nat.mod (sycmp c23 0) 4294967296) (Nat.mod 0 4294967296)) (srR t25 a0 5 (fun c46 => syr c46 (fun a47 => syi e a47 c24 (fun p48 => srJ t25 a47 p48 (fun c49 => syc (Nat.beq (Nat.mod (sycmp c49 0) 4294967296) (Nat.mod 0 4294967296)) (k45 c23)
  (srR t25 a0 5 (fun c50 => syr c50 (fun a51 => syi e a51 c24 (fun p52 => srJ t25 a51 p52 (fun c53 => zjn (sX5_reduceShares_J4 k45) (fun (k55 : Nat → Option (Nat × Sy)) =>
  syc (Nat.ble (syo32 (sycmp c53 0)) (syo32 0)) (syf (syn64 c1) (fun c56 => k55 c56))
  (k55 c1))))))))))))
  (k45 c23)))))
noncomputable def sX5_reduceShares_J6 (e : Se) (t : Sy) (a0 : Nat) (c1 : Nat) : Nat → Option (Nat × Sy) :=
  fun (c21 : Nat) => syl (fun _ _ _ _ => (none : Option (Nat × Sy))) (sX5_reduceShares_L5 e a0 c1) zFU c21 0 0 t
noncomputable def sX5_reduceShares (e : Se) (t : Sy) (a0 : Nat) (c1 : Nat) : Option (Nat × Sy) :=
  zjn (sX5_reduceShares_J6 e t a0 c1) (fun (k57 : Nat → Option (Nat × Sy)) =>
  syc (Nat.beq (Nat.mod (sycmp c1 0) 4294967296) (Nat.mod 0 4294967296)) (k57 0)
  (k57 1))
theorem sX5_reduceShares_ok {ι : Nat → Nat} {e : Se} {h0 h : Zh} {t : Sy} (hι : ∀ a b, ι a = ι b → a = b) (qt : syR ι e h0 t h) {x0 : Nat} {a0 : Nat} {x1 : Int64} {c1 : Nat} (q0 : yA ι x0 a0) (q1 : yJ x1 c1) : Sm (fun b a => yI a.1 b.1 ∧ syR ι e h0 b.2 a.2) (sX5_reduceShares e t a0 c1) (gX5_reduceShares h x0 x1) := by
  unfold sX5_reduceShares gX5_reduceShares
  refine sm_jn (fun (k' : Nat → Option (Nat × Sy)) (k : Int32 → Option (Int32 × Zh)) => ∀ (c21 : Nat) (x21 : Int32), yI x21 c21 → Sm (fun b a => yI a.1 b.1 ∧ syR ι e h0 b.2 a.2) (k' c21) (k x21)) ?_ ?_
  · intro c21 x21 q21
    unfold sX5_reduceShares_J6 gX5_reduceShares_J6
    refine sm_lp (fun (k' : Nat → Nat → Nat → Sy → Option (Nat × Sy)) (k : Int32 → Int64 → Int32 → Zh → Option (Int32 × Zh)) => ∀ (c22 : Nat) (x22 : Int32) (c23 : Nat) (x23 : Int64) (c24 : Nat) (x24 : Int32) (t25 : Sy) (h25 : Zh), yI x22 c22 → yJ x23 c23 → yI x24 c24 → syR ι e h0 t25 h25 → Sm (fun b a => yI a.1 b.1 ∧ syR ι e h0 b.2 a.2) (k' c22 c23 c24 t25) (k x22 x23 x24 h25)) ?_ ?_ zFU _ _ _ _ _ _ _ _ q21 (yJ_lit 0) (yI_lit 0) qt
    · exact fun _ _ _ _ _ _ _ _ _ _ _ _ => sm_none
    intro k26 gk26 hk26
    intro c22 x22 c23 x23 c24 x24 t25 h25 q22 q23 q24 qt25
    unfold sX5_reduceShares_L5 gX5_reduceShares_L5
    refine sm_rI qt25 q0 rfl (fun c27 q27 => ?_)
    refine sm_if (sy_le32 q27 q24) ?_ ?_
    · refine sm_zb q22 ?_
      exact sm_some ⟨q22, qt25⟩
    · refine sm_if (sy_eq32 q22 (yI_lit 0)) ?_ ?_
      · refine sm_zb q22 ?_
        exact sm_some ⟨q22, qt25⟩
      · refine sm_jn (fun (k' : Nat → Option (Nat × Sy)) (k : Int64 → Option (Int32 × Zh)) => ∀ (c28 : Nat) (x28 : Int64), yJ x28 c28 → Sm (fun b a => yI a.1 b.1 ∧ syR ι e h0 b.2 a.2) (k' c28) (k x28)) ?_ ?_
        · intro c28 x28 q28
          unfold sX5_reduceShares_J3 gX5_reduceShares_J3
          refine sm_jn (fun (k' : Sy → Option (Nat × Sy)) (k : Zh → Option (Int32 × Zh)) => ∀ (t29 : Sy) (h29 : Zh), syR ι e h0 t29 h29 → Sm (fun b a => yI a.1 b.1 ∧ syR ι e h0 b.2 a.2) (k' t29) (k h29)) ?_ ?_
          · intro t29 h29 qt29
            unfold sX5_reduceShares_J2 gX5_reduceShares_J2
            refine sm_rR qt29 q0 rfl (fun _ c30 q30 => ?_)
            refine sm_dr q30 (fun _ a31 q31 => ?_)
            refine sm_in qt29 q31 q24 (fun p32 q32 => ?_)
            refine sm_rJ qt29 q31 q32 (fun c33 q33 => ?_)
            refine sm_bj (sJ9_abs_067f4_ok q33) (fun _ c34 q34 => ?_)
            refine sm_jn (fun (k' : Nat → Option (Nat × Sy)) (k : Int32 → Option (Int32 × Zh)) => ∀ (c35 : Nat) (x35 : Int32), yI x35 c35 → Sm (fun b a => yI a.1 b.1 ∧ syR ι e h0 b.2 a.2) (k' c35) (k x35)) ?_ ?_
            · intro c35 x35 q35
              unfold sX5_reduceShares_J1 gX5_reduceShares_J1
              refine sm_f ?_
              exact hk26 _ _ _ _ _ _ _ _ q35 q28 (yI_add q24 (yI_lit 1)) qt29
            intro k37 gk37 hk37
            refine sm_if (sy_lt32 (yI_lit 0) (yI_cmp q34 (yJ_lit 1000000))) ?_ ?_
            · exact hk37 _ _ (yI_lit 0)
            · exact hk37 _ _ (yI_lit 1)
          intro k38 gk38 hk38
          refine sm_if (sy_eq32 (yI_cmp q28 (yJ_lit 0)) (yI_lit 0)) ?_ ?_
          · exact hk38 _ _ qt25
          · refine sm_rR qt25 q0 rfl (fun _ c39 q39 => ?_)
            refine sm_dr q39 (fun _ a40 q40 => ?_)
            refine sm_in qt25 q40 q24 (fun p41 q41 => ?_)
            refine sm_rJ qt25 q40 q41 (fun c42 q42 => ?_)
            refine sm_if (sy_eq64 q28 (yJ_lit 0)) sm_none ?_
            refine sm_in qt25 q40 q24 (fun p43 q43 => ?_)
            refine sm_wJ hι qt25 q40 q43 (yJ_div q42 q28) (fun _ t44 qt44 => ?_)
            exact hk38 _ _ qt44
        intro k45 gk45 hk45
        refine sm_if (sy_eq32 (yI_cmp q23 (yJ_lit 0)) (yI_lit 0)) ?_ ?_
        · refine sm_rR qt25 q0 rfl (fun _ c46 q46 => ?_)
          refine sm_dr q46 (fun _ a47 q47 => ?_)
          refine sm_in qt25 q47 q24 (fun p48 q48 => ?_)
          refine sm_rJ qt25 q47 q48 (fun c49 q49 => ?_)
          refine sm_if (sy_eq32 (yI_cmp q49 (yJ_lit 0)) (yI_lit 0)) ?_ ?_
          · exact hk45 _ _ q23
          · refine sm_rR qt25 q0 rfl (fun _ c50 q50 => ?_)
            refine sm_dr q50 (fun _ a51 q51 => ?_)
            refine sm_in qt25 q51 q24 (fun p52 q52 => ?_)
            refine sm_rJ qt25 q51 q52 (fun c53 q53 => ?_)
            refine sm_jn (fun (k' : Nat → Option (Nat × Sy)) (k : Int64 → Option (Int32 × Zh)) => ∀ (c54 : Nat) (x54 : Int64), yJ x54 c54 → Sm (fun b a => yI a.1 b.1 ∧ syR ι e h0 b.2 a.2) (k' c54) (k x54)) ?_ ?_
            · intro c54 x54 q54
              unfold sX5_reduceShares_J4 gX5_reduceShares_J4
              exact hk45 _ _ q54
            intro k55 gk55 hk55
            refine sm_if (sy_le32 (yI_cmp q53 (yJ_lit 0)) (yI_lit 0)) ?_ ?_
            · refine sm_f ?_
              exact hk55 _ _ (yJ_neg q1)
            · exact hk55 _ _ q1
        · exact hk45 _ _ q23
  intro k57 gk57 hk57
  refine sm_if (sy_eq32 (yI_cmp q1 (yJ_lit 0)) (yI_lit 0)) ?_ ?_
  · exact hk57 _ _ (yI_lit 0)
  · exact hk57 _ _ (yI_lit 1)
noncomputable def sX5_applyToUnit_J1 (e : Se) (a0 : Nat) (c1 : Nat) (c29 : Nat) (k31 : Nat → Sy → Option (Sy)) : Sy → Option (Sy) :=
  fun (t38 : Sy) => srR t38 a0 5 (fun c39 => syr c39 (fun a40 => syi e a40 c1 (fun p41 => srJ t38 a40 p41 (fun c42 => srR t38 a0 6 (fun c43 => syr c43 (fun a44 => syi e a44 c29 (fun p45 => srJ t38 a44 p45 (fun c46 => syi e a40 c1 (fun p47 => swJ e t38 a40 p47 (Nat.add c42 c46) (fun t48 => syf (Nat.add c29 4294967295) (fun c49 => k31 c49 t48)))))))))))
noncomputable def sX5_applyToUnit_L2 (e : Se) (a0 : Nat) (k50 : Sy → Option (Sy)) : (Nat → Sy → Option (Sy)) → Nat → Sy → Option (Sy) :=
  fun (k53 : Nat → Sy → Option (Sy)) (c51 : Nat) (t52 : Sy) => srI t52 a0 13 (fun c54 => syc (Nat.ble (syo32 c54) (syo32 c51)) (k50 t52)
  (srR t52 a0 5 (fun c55 => srI t52 a0 13 (fun c56 => srR t52 a0 7 (fun c57 => sbj (sX5_rowTimes e t52 a0 c51 c56 c57) (fun c58 => syr c55 (fun a59 => syi e a59 c51 (fun p60 => swJ e t52 a59 p60 c58 (fun t61 => syf (Nat.add c51 1) (fun c62 => k53 c62 t61))))))))))
noncomputable def sX5_applyToUnit_L3 (e : Se) (a0 : Nat) (c1 : Nat) : (Nat → Sy → Option (Sy)) → Nat → Sy → Option (Sy) :=
  fun (k31 : Nat → Sy → Option (Sy)) (c29 : Nat) (t30 : Sy) => syc (Nat.ble (Nat.succ (syo32 c29)) (syo32 0)) (some t30)
  (srR t30 a0 5 (fun c32 => srR t30 a0 7 (fun c33 => srI t30 a0 13 (fun c34 => syr c32 (fun a35 => syr c33 (fun a36 => scJ e t30 a35 0 a36 0 c34 (fun t37 => zjn (sX5_applyToUnit_J1 e a0 c1 c29 k31) (fun (k50 : Sy → Option (Sy)) =>
  syl (fun _ _ => (none : Option (Sy))) (sX5_applyToUnit_L2 e a0 k50) zFU 0 t37))))))))
noncomputable def sX5_applyToUnit (e : Se) (t : Sy) (a0 : Nat) (c1 : Nat) : Option (Sy) :=
  srR t a0 5 (fun c21 => sbV (sJ7_fill_d0a16 e t c21 0) (fun t22 => srR t22 a0 5 (fun c23 => syr c23 (fun a24 => syi e a24 c1 (fun p25 => swJ e t22 a24 p25 1 (fun t26 => srI t26 a0 13 (fun c27 => syf (Nat.add c27 (syn32 2)) (fun c28 => syl (fun _ _ => (none : Option (Sy))) (sX5_applyToUnit_L3 e a0 c1) zFU c28 t26))))))))
theorem sX5_applyToUnit_ok {ι : Nat → Nat} {e : Se} {h0 h : Zh} {t : Sy} (hι : ∀ a b, ι a = ι b → a = b) (qt : syR ι e h0 t h) {x0 : Nat} {a0 : Nat} {x1 : Int32} {c1 : Nat} (q0 : yA ι x0 a0) (q1 : yI x1 c1) : Sm (fun b a => syR ι e h0 b a) (sX5_applyToUnit e t a0 c1) (gX5_applyToUnit h x0 x1) := by
  unfold sX5_applyToUnit gX5_applyToUnit
  refine sm_rR qt q0 rfl (fun _ c21 q21 => ?_)
  refine sm_bV (sJ7_fill_d0a16_ok hι qt q21 (yJ_lit 0)) (fun _ t22 qt22 => ?_)
  refine sm_rR qt22 q0 rfl (fun _ c23 q23 => ?_)
  refine sm_dr q23 (fun _ a24 q24 => ?_)
  refine sm_in qt22 q24 q1 (fun p25 q25 => ?_)
  refine sm_wJ hι qt22 q24 q25 (yJ_lit 1) (fun _ t26 qt26 => ?_)
  refine sm_rI qt26 q0 rfl (fun c27 q27 => ?_)
  refine sm_lti (yI_sub q27 (yI_lit 2)) (fun _ c28 q28 => ?_)
  refine sm_lp (fun (k' : Nat → Sy → Option (Sy)) (k : Int32 → Zh → Option (Zh)) => ∀ (c29 : Nat) (x29 : Int32) (t30 : Sy) (h30 : Zh), yI x29 c29 → syR ι e h0 t30 h30 → Sm (fun b a => syR ι e h0 b a) (k' c29 t30) (k x29 h30)) ?_ ?_ zFU _ _ _ _ q28 qt26
  · exact fun _ _ _ _ _ _ => sm_none
  intro k31 gk31 hk31
  intro c29 x29 t30 h30 q29 qt30
  unfold sX5_applyToUnit_L3 gX5_applyToUnit_L3
  refine sm_if (sy_lt32 q29 (yI_lit 0)) ?_ ?_
  · exact sm_some qt30
  · refine sm_rR qt30 q0 rfl (fun _ c32 q32 => ?_)
    refine sm_rR qt30 q0 rfl (fun _ c33 q33 => ?_)
    refine sm_rI qt30 q0 rfl (fun c34 q34 => ?_)
    refine sm_dr q32 (fun _ a35 q35 => ?_)
    refine sm_dr q33 (fun _ a36 q36 => ?_)
    refine sm_cJ hι qt30 q35 (yI_lit 0) q36 (yI_lit 0) q34 (fun _ t37 qt37 => ?_)
    refine sm_jn (fun (k' : Sy → Option (Sy)) (k : Zh → Option (Zh)) => ∀ (t38 : Sy) (h38 : Zh), syR ι e h0 t38 h38 → Sm (fun b a => syR ι e h0 b a) (k' t38) (k h38)) ?_ ?_
    · intro t38 h38 qt38
      unfold sX5_applyToUnit_J1 gX5_applyToUnit_J1
      refine sm_rR qt38 q0 rfl (fun _ c39 q39 => ?_)
      refine sm_dr q39 (fun _ a40 q40 => ?_)
      refine sm_in qt38 q40 q1 (fun p41 q41 => ?_)
      refine sm_rJ qt38 q40 q41 (fun c42 q42 => ?_)
      refine sm_rR qt38 q0 rfl (fun _ c43 q43 => ?_)
      refine sm_dr q43 (fun _ a44 q44 => ?_)
      refine sm_in qt38 q44 q29 (fun p45 q45 => ?_)
      refine sm_rJ qt38 q44 q45 (fun c46 q46 => ?_)
      refine sm_in qt38 q40 q1 (fun p47 q47 => ?_)
      refine sm_wJ hι qt38 q40 q47 (yJ_add q42 q46) (fun _ t48 qt48 => ?_)
      refine sm_f ?_
      exact hk31 _ _ _ _ (yI_add q29 (show yI (-1) 4294967295 from by unfold yI; decide)) qt48
    intro k50 gk50 hk50
    refine sm_lp (fun (k' : Nat → Sy → Option (Sy)) (k : Int32 → Zh → Option (Zh)) => ∀ (c51 : Nat) (x51 : Int32) (t52 : Sy) (h52 : Zh), yI x51 c51 → syR ι e h0 t52 h52 → Sm (fun b a => syR ι e h0 b a) (k' c51 t52) (k x51 h52)) ?_ ?_ zFU _ _ _ _ (yI_lit 0) qt37
    · exact fun _ _ _ _ _ _ => sm_none
    intro k53 gk53 hk53
    intro c51 x51 t52 h52 q51 qt52
    unfold sX5_applyToUnit_L2 gX5_applyToUnit_L2
    refine sm_rI qt52 q0 rfl (fun c54 q54 => ?_)
    refine sm_if (sy_le32 q54 q51) ?_ ?_
    · exact hk50 _ _ qt52
    · refine sm_rR qt52 q0 rfl (fun _ c55 q55 => ?_)
      refine sm_rI qt52 q0 rfl (fun c56 q56 => ?_)
      refine sm_rR qt52 q0 rfl (fun _ c57 q57 => ?_)
      refine sm_bj (sX5_rowTimes_ok hι qt52 q0 q51 q56 q57) (fun _ c58 q58 => ?_)
      refine sm_dr q55 (fun _ a59 q59 => ?_)
      refine sm_in qt52 q59 q51 (fun p60 q60 => ?_)
      refine sm_wJ hι qt52 q59 q60 q58 (fun _ t61 qt61 => ?_)
      refine sm_f ?_
      exact hk53 _ _ _ _ (yI_add q51 (yI_lit 1)) qt61
noncomputable def sX5_commonDivisor_L1 : (Nat → Nat → Nat → Option (Nat)) → Nat → Nat → Nat → Option (Nat) :=
  fun (k26 : Nat → Nat → Nat → Option (Nat)) (c23 : Nat) (c24 : Nat) (c25 : Nat) => syc (Nat.ble (syo32 200) (syo32 c25)) (some c23)
  (syc (Nat.beq (Nat.mod (sycmp c24 0) 4294967296) (Nat.mod 0 4294967296)) (some c23)
  (syc (Nat.beq (Nat.mod c24 18446744073709551616) (Nat.mod 0 18446744073709551616)) none (syf (Nat.add c23 (syn64 (Nat.mul (syd 18446744073709551616 (Nat.mod c23 18446744073709551616) (Nat.mod c24 18446744073709551616)) c24))) (fun c27 => syf (Nat.add c25 1) (fun c28 => k26 c24 c27 c28)))))
noncomputable def sX5_commonDivisor (c0 : Nat) (c2 : Nat) : Option (Nat) :=
  sbj (sJ9_abs_067f4 c0) (fun c21 => sbj (sJ9_abs_067f4 c2) (fun c22 => syl (fun _ _ _ => (none : Option (Nat))) sX5_commonDivisor_L1 zFU c21 c22 0))
theorem sX5_commonDivisor_ok {x0 : Int64} {c0 : Nat} {x2 : Int64} {c2 : Nat} (q0 : yJ x0 c0) (q2 : yJ x2 c2) : Sm (fun b a => yJ a b) (sX5_commonDivisor c0 c2) (gX5_commonDivisor x0 x2) := by
  unfold sX5_commonDivisor gX5_commonDivisor
  refine sm_bj (sJ9_abs_067f4_ok q0) (fun _ c21 q21 => ?_)
  refine sm_bj (sJ9_abs_067f4_ok q2) (fun _ c22 q22 => ?_)
  refine sm_lp (fun (k' : Nat → Nat → Nat → Option (Nat)) (k : Int64 → Int64 → Int32 → Option (Int64)) => ∀ (c23 : Nat) (x23 : Int64) (c24 : Nat) (x24 : Int64) (c25 : Nat) (x25 : Int32), yJ x23 c23 → yJ x24 c24 → yI x25 c25 → Sm (fun b a => yJ a b) (k' c23 c24 c25) (k x23 x24 x25)) ?_ ?_ zFU _ _ _ _ _ _ q21 q22 (yI_lit 0)
  · exact fun _ _ _ _ _ _ _ _ _ => sm_none
  intro k26 gk26 hk26
  intro c23 x23 c24 x24 c25 x25 q23 q24 q25
  unfold sX5_commonDivisor_L1 gX5_commonDivisor_L1
  refine sm_if (sy_le32 (yI_lit 200) q25) ?_ ?_
  · exact sm_some q23
  · refine sm_if (sy_eq32 (yI_cmp q24 (yJ_lit 0)) (yI_lit 0)) ?_ ?_
    · exact sm_some q23
    · refine sm_if (sy_eq64 q24 (yJ_lit 0)) sm_none ?_
      refine sm_ltj (yJ_sub q23 (yJ_mul (yJ_div q23 q24) q24)) (fun _ c27 q27 => ?_)
      refine sm_f ?_
      exact hk26 _ _ _ _ _ _ q24 q27 (yI_add q25 (yI_lit 1))
noncomputable def sX5_findRest_J1 : Sy → Option (Nat × Sy) :=
  fun (t31 : Sy) => some (0, t31)
noncomputable def sX5_findRest_J2 (e : Se) (a0 : Nat) : Nat → Sy → Option (Nat × Sy) :=
  fun (c29 : Nat) (t30 : Sy) => zjn sX5_findRest_J1 (fun (k32 : Sy → Option (Nat × Sy)) =>
  syc (Nat.beq (Nat.mod (sycmp c29 0) 4294967296) (Nat.mod 0 4294967296)) (k32 t30)
  (sbI (sX5_reduceShares e t30 a0 c29) (fun c33 t33 => syc (Nat.beq (Nat.mod c33 4294967296) (Nat.mod 0 4294967296)) (k32 t33)
  (some (1, t33)))))
noncomputable def sX5_findRest_J3 (c36 : Nat) (k38 : Nat → Nat → Sy → Option (Nat × Sy)) (t40 : Sy) : Nat → Option (Nat × Sy) :=
  fun (c41 : Nat) => syf (Nat.add c36 1) (fun c42 => k38 c41 c42 t40)
noncomputable def sX5_findRest_L4 (e : Se) (a0 : Nat) (t40 : Sy) (k43 : Nat → Option (Nat × Sy)) : (Nat → Nat → Option (Nat × Sy)) → Nat → Nat → Option (Nat × Sy) :=
  fun (k46 : Nat → Nat → Option (Nat × Sy)) (c44 : Nat) (c45 : Nat) => srI t40 a0 13 (fun c47 => syc (Nat.ble (syo32 c47) (syo32 c45)) (k43 c44)
  (srR t40 a0 5 (fun c48 => syr c48 (fun a49 => syi e a49 c45 (fun p50 => srJ t40 a49 p50 (fun c51 => sbj (sX5_commonDivisor c44 c51) (fun c52 => syf (Nat.add c45 1) (fun c53 => k46 c52 c53))))))))
noncomputable def sX5_findRest_L5 (e : Se) (a0 : Nat) (k34 : Nat → Sy → Option (Nat × Sy)) : (Nat → Nat → Sy → Option (Nat × Sy)) → Nat → Nat → Sy → Option (Nat × Sy) :=
  fun (k38 : Nat → Nat → Sy → Option (Nat × Sy)) (c35 : Nat) (c36 : Nat) (t37 : Sy) => srI t37 a0 13 (fun c39 => syc (Nat.ble (syo32 c39) (syo32 c36)) (k34 c35 t37)
  (syc (Nat.beq (Nat.mod (sycmp c35 0) 4294967296) (Nat.mod 0 4294967296)) (sbV (sX5_applyToUnit e t37 a0 c36) (fun t40 => zjn (sX5_findRest_J3 c36 k38 t40) (fun (k43 : Nat → Option (Nat × Sy)) =>
  syl (fun _ _ => (none : Option (Nat × Sy))) (sX5_findRest_L4 e a0 t40 k43) zFU c35 0)))
  (k34 c35 t37)))
noncomputable def sX5_findRest_J6 (e : Se) (a0 : Nat) : Sy → Option (Nat × Sy) :=
  fun (t28 : Sy) => zjn (sX5_findRest_J2 e a0) (fun (k34 : Nat → Sy → Option (Nat × Sy)) =>
  syl (fun _ _ _ => (none : Option (Nat × Sy))) (sX5_findRest_L5 e a0 k34) zFU 0 0 t28)
noncomputable def sX5_findRest_L7 (e : Se) (a0 : Nat) (c1 : Nat) (k54 : Sy → Option (Nat × Sy)) : (Nat → Sy → Option (Nat × Sy)) → Nat → Sy → Option (Nat × Sy) :=
  fun (k57 : Nat → Sy → Option (Nat × Sy)) (c55 : Nat) (t56 : Sy) => syc (Nat.ble (syo32 c55) (syo32 0)) (k54 t56)
  (srR t56 a0 6 (fun c58 => srR t56 a0 3 (fun c59 => syr c59 (fun a60 => syi e a60 c55 (fun p61 => srJ t56 a60 p61 (fun c62 => srR t56 a0 6 (fun c63 => syr c63 (fun a64 => syi e a64 c55 (fun p65 => srJ t56 a64 p65 (fun c66 => syr c58 (fun a67 => syi e a67 (Nat.add c55 (syn32 1)) (fun p68 => swJ e t56 a67 p68 (Nat.add c62 (Nat.mul (sy2l c1) c66)) (fun t69 => syf (Nat.add c55 4294967295) (fun c70 => k57 c70 t69))))))))))))))
noncomputable def sX5_findRest (e : Se) (t : Sy) (a0 : Nat) (c1 : Nat) : Option (Nat × Sy) :=
  srR t a0 6 (fun c21 => srI t a0 13 (fun c22 => syr c21 (fun a23 => syi e a23 (Nat.add c22 (syn32 1)) (fun p24 => swJ e t a23 p24 1 (fun t25 => srI t25 a0 13 (fun c26 => syf (Nat.add c26 (syn32 1)) (fun c27 => zjn (sX5_findRest_J6 e a0) (fun (k54 : Sy → Option (Nat × Sy)) =>
  syl (fun _ _ => (none : Option (Nat × Sy))) (sX5_findRest_L7 e a0 c1 k54) zFU c27 t25))))))))
theorem sX5_findRest_ok {ι : Nat → Nat} {e : Se} {h0 h : Zh} {t : Sy} (hι : ∀ a b, ι a = ι b → a = b) (qt : syR ι e h0 t h) {x0 : Nat} {a0 : Nat} {x1 : Int32} {c1 : Nat} (q0 : yA ι x0 a0) (q1 : yI x1 c1) : Sm (fun b a => yI a.1 b.1 ∧ syR ι e h0 b.2 a.2) (sX5_findRest e t a0 c1) (gX5_findRest h x0 x1) := by
  unfold sX5_findRest gX5_findRest
  refine sm_rR qt q0 rfl (fun _ c21 q21 => ?_)
  refine sm_rI qt q0 rfl (fun c22 q22 => ?_)
  refine sm_dr q21 (fun _ a23 q23 => ?_)
  refine sm_in qt q23 (yI_sub q22 (yI_lit 1)) (fun p24 q24 => ?_)
  refine sm_wJ hι qt q23 q24 (yJ_lit 1) (fun _ t25 qt25 => ?_)
  refine sm_rI qt25 q0 rfl (fun c26 q26 => ?_)
  refine sm_lti (yI_sub q26 (yI_lit 1)) (fun _ c27 q27 => ?_)
  refine sm_jn (fun (k' : Sy → Option (Nat × Sy)) (k : Zh → Option (Int32 × Zh)) => ∀ (t28 : Sy) (h28 : Zh), syR ι e h0 t28 h28 → Sm (fun b a => yI a.1 b.1 ∧ syR ι e h0 b.2 a.2) (k' t28) (k h28)) ?_ ?_
  · intro t28 h28 qt28
    unfold sX5_findRest_J6 gX5_findRest_J6
    refine sm_jn (fun (k' : Nat → Sy → Option (Nat × Sy)) (k : Int64 → Zh → Option (Int32 × Zh)) => ∀ (c29 : Nat) (x29 : Int64) (t30 : Sy) (h30 : Zh), yJ x29 c29 → syR ι e h0 t30 h30 → Sm (fun b a => yI a.1 b.1 ∧ syR ι e h0 b.2 a.2) (k' c29 t30) (k x29 h30)) ?_ ?_
    · intro c29 x29 t30 h30 q29 qt30
      unfold sX5_findRest_J2 gX5_findRest_J2
      refine sm_jn (fun (k' : Sy → Option (Nat × Sy)) (k : Zh → Option (Int32 × Zh)) => ∀ (t31 : Sy) (h31 : Zh), syR ι e h0 t31 h31 → Sm (fun b a => yI a.1 b.1 ∧ syR ι e h0 b.2 a.2) (k' t31) (k h31)) ?_ ?_
      · intro t31 h31 qt31
        unfold sX5_findRest_J1 gX5_findRest_J1
        exact sm_some ⟨(yI_lit 0), qt31⟩
      intro k32 gk32 hk32
      refine sm_if (sy_eq32 (yI_cmp q29 (yJ_lit 0)) (yI_lit 0)) ?_ ?_
      · exact hk32 _ _ qt30
      · refine sm_bI (sX5_reduceShares_ok hι qt30 q0 q29) (fun _ c33 q33 _ t33 qt33 => ?_)
        refine sm_if (sy_eq32 q33 (yI_lit 0)) ?_ ?_
        · exact hk32 _ _ qt33
        · exact sm_some ⟨(yI_lit 1), qt33⟩
    intro k34 gk34 hk34
    refine sm_lp (fun (k' : Nat → Nat → Sy → Option (Nat × Sy)) (k : Int64 → Int32 → Zh → Option (Int32 × Zh)) => ∀ (c35 : Nat) (x35 : Int64) (c36 : Nat) (x36 : Int32) (t37 : Sy) (h37 : Zh), yJ x35 c35 → yI x36 c36 → syR ι e h0 t37 h37 → Sm (fun b a => yI a.1 b.1 ∧ syR ι e h0 b.2 a.2) (k' c35 c36 t37) (k x35 x36 h37)) ?_ ?_ zFU _ _ _ _ _ _ (yJ_lit 0) (yI_lit 0) qt28
    · exact fun _ _ _ _ _ _ _ _ _ => sm_none
    intro k38 gk38 hk38
    intro c35 x35 c36 x36 t37 h37 q35 q36 qt37
    unfold sX5_findRest_L5 gX5_findRest_L5
    refine sm_rI qt37 q0 rfl (fun c39 q39 => ?_)
    refine sm_if (sy_le32 q39 q36) ?_ ?_
    · exact hk34 _ _ _ _ q35 qt37
    · refine sm_if (sy_eq32 (yI_cmp q35 (yJ_lit 0)) (yI_lit 0)) ?_ ?_
      · refine sm_bV (sX5_applyToUnit_ok hι qt37 q0 q36) (fun _ t40 qt40 => ?_)
        refine sm_jn (fun (k' : Nat → Option (Nat × Sy)) (k : Int64 → Option (Int32 × Zh)) => ∀ (c41 : Nat) (x41 : Int64), yJ x41 c41 → Sm (fun b a => yI a.1 b.1 ∧ syR ι e h0 b.2 a.2) (k' c41) (k x41)) ?_ ?_
        · intro c41 x41 q41
          unfold sX5_findRest_J3 gX5_findRest_J3
          refine sm_f ?_
          exact hk38 _ _ _ _ _ _ q41 (yI_add q36 (yI_lit 1)) qt40
        intro k43 gk43 hk43
        refine sm_lp (fun (k' : Nat → Nat → Option (Nat × Sy)) (k : Int64 → Int32 → Option (Int32 × Zh)) => ∀ (c44 : Nat) (x44 : Int64) (c45 : Nat) (x45 : Int32), yJ x44 c44 → yI x45 c45 → Sm (fun b a => yI a.1 b.1 ∧ syR ι e h0 b.2 a.2) (k' c44 c45) (k x44 x45)) ?_ ?_ zFU _ _ _ _ q35 (yI_lit 0)
        · exact fun _ _ _ _ _ _ => sm_none
        intro k46 gk46 hk46
        intro c44 x44 c45 x45 q44 q45
        unfold sX5_findRest_L4 gX5_findRest_L4
        refine sm_rI qt40 q0 rfl (fun c47 q47 => ?_)
        refine sm_if (sy_le32 q47 q45) ?_ ?_
        · exact hk43 _ _ q44
        · refine sm_rR qt40 q0 rfl (fun _ c48 q48 => ?_)
          refine sm_dr q48 (fun _ a49 q49 => ?_)
          refine sm_in qt40 q49 q45 (fun p50 q50 => ?_)
          refine sm_rJ qt40 q49 q50 (fun c51 q51 => ?_)
          refine sm_bj (sX5_commonDivisor_ok q44 q51) (fun _ c52 q52 => ?_)
          refine sm_f ?_
          exact hk46 _ _ _ _ q52 (yI_add q45 (yI_lit 1))
      · exact hk34 _ _ _ _ q35 qt37
  intro k54 gk54 hk54
  refine sm_lp (fun (k' : Nat → Sy → Option (Nat × Sy)) (k : Int32 → Zh → Option (Int32 × Zh)) => ∀ (c55 : Nat) (x55 : Int32) (t56 : Sy) (h56 : Zh), yI x55 c55 → syR ι e h0 t56 h56 → Sm (fun b a => yI a.1 b.1 ∧ syR ι e h0 b.2 a.2) (k' c55 t56) (k x55 h56)) ?_ ?_ zFU _ _ _ _ q27 qt25
  · exact fun _ _ _ _ _ _ => sm_none
  intro k57 gk57 hk57
  intro c55 x55 t56 h56 q55 qt56
  unfold sX5_findRest_L7 gX5_findRest_L7
  refine sm_if (sy_le32 q55 (yI_lit 0)) ?_ ?_
  · exact hk54 _ _ qt56
  · refine sm_rR qt56 q0 rfl (fun _ c58 q58 => ?_)
    refine sm_rR qt56 q0 rfl (fun _ c59 q59 => ?_)
    refine sm_dr q59 (fun _ a60 q60 => ?_)
    refine sm_in qt56 q60 q55 (fun p61 q61 => ?_)
    refine sm_rJ qt56 q60 q61 (fun c62 q62 => ?_)
    refine sm_rR qt56 q0 rfl (fun _ c63 q63 => ?_)
    refine sm_dr q63 (fun _ a64 q64 => ?_)
    refine sm_in qt56 q64 q55 (fun p65 q65 => ?_)
    refine sm_rJ qt56 q64 q65 (fun c66 q66 => ?_)
    refine sm_dr q58 (fun _ a67 q67 => ?_)
    refine sm_in qt56 q67 (yI_sub q55 (yI_lit 1)) (fun p68 q68 => ?_)
    refine sm_wJ hι qt56 q67 q68 (yJ_add q62 (yJ_mul (yJ_i2l q1) q66)) (fun _ t69 qt69 => ?_)
    refine sm_f ?_
    exact hk57 _ _ _ _ (yI_add q55 (show yI (-1) 4294967295 from by unfold yI; decide)) qt69
noncomputable def sX5_restsAt_J1 (a0 : Nat) : Sy → Option (Nat × Sy) :=
  fun (t23 : Sy) => srI t23 a0 16 (fun c24 => syc (Nat.ble (Nat.mod c24 4294967296) 1) (some (c24, t23)) none)
noncomputable def sX5_restsAt_J2 (e : Se) (a0 : Nat) (k25 : Sy → Option (Nat × Sy)) : Nat → Sy → Option (Nat × Sy) :=
  fun (c29 : Nat) (t30 : Sy) => syc (Nat.ble (Nat.mod c29 4294967296) 1) (swI e t30 a0 16 c29 (fun t31 => k25 t31)) none
noncomputable def sX5_restsAt_J3 (k32 : Nat → Sy → Option (Nat × Sy)) : Sy → Option (Nat × Sy) :=
  fun (t33 : Sy) => k32 0 t33
noncomputable def sX5_restsAt_J4 (e : Se) (a0 : Nat) (c1 : Nat) (t21 : Sy) (k25 : Sy → Option (Nat × Sy)) : Option (Nat × Sy) :=
  swI e t21 a0 15 1 (fun t26 => swI e t26 a0 17 c1 (fun t27 => sbI (sX5_rootsAt e t27 a0 c1) (fun c28 t28 => zjn (sX5_restsAt_J2 e a0 k25) (fun (k32 : Nat → Sy → Option (Nat × Sy)) =>
  zjn (sX5_restsAt_J3 k32) (fun (k34 : Sy → Option (Nat × Sy)) =>
  syc (Nat.beq (Nat.mod c28 4294967296) (Nat.mod 1 4294967296)) (sbI (sX5_findRest e t28 a0 c1) (fun c35 t35 => syc (Nat.beq (Nat.mod c35 4294967296) (Nat.mod 0 4294967296)) (k34 t35)
  (k32 1 t35)))
  (k34 t28))))))
noncomputable def sX5_restsAt (e : Se) (t : Sy) (a0 : Nat) (c1 : Nat) : Option (Nat × Sy) :=
  sbI (sX5_solve e t a0) (fun c21 t21 => syc (Nat.beq (Nat.mod c21 4294967296) (Nat.mod 0 4294967296)) (some (0, t21))
  (srI t21 a0 15 (fun c22 => zjn (sX5_restsAt_J1 a0) (fun (k25 : Sy → Option (Nat × Sy)) =>
  zjn (sX5_restsAt_J4 e a0 c1 t21 k25) (fun (k36 : Option (Nat × Sy)) =>
  syc (Nat.beq (Nat.mod c22 4294967296) (Nat.mod 0 4294967296)) (k36)
  (srI t21 a0 17 (fun c37 => syc (Nat.beq (Nat.mod c37 4294967296) (Nat.mod c1 4294967296)) (k25 t21)
  (k36))))))))
theorem sX5_restsAt_ok {ι : Nat → Nat} {e : Se} {h0 h : Zh} {t : Sy} (hι : ∀ a b, ι a = ι b → a = b) (qt : syR ι e h0 t h) {x0 : Nat} {a0 : Nat} {x1 : Int32} {c1 : Nat} (q0 : yA ι x0 a0) (q1 : yI x1 c1) : Sm (fun b a => yI a.1 b.1 ∧ syR ι e h0 b.2 a.2) (sX5_restsAt e t a0 c1) (gX5_restsAt h x0 x1) := by
  unfold sX5_restsAt gX5_restsAt
  refine sm_bI (sX5_solve_ok hι qt q0) (fun _ c21 q21 _ t21 qt21 => ?_)
  refine sm_if (sy_eq32 q21 (yI_lit 0)) ?_ ?_
  · exact sm_some ⟨(yI_lit 0), qt21⟩
  · refine sm_rI qt21 q0 rfl (fun c22 q22 => ?_)
    refine sm_jn (fun (k' : Sy → Option (Nat × Sy)) (k : Zh → Option (Int32 × Zh)) => ∀ (t23 : Sy) (h23 : Zh), syR ι e h0 t23 h23 → Sm (fun b a => yI a.1 b.1 ∧ syR ι e h0 b.2 a.2) (k' t23) (k h23)) ?_ ?_
    · intro t23 h23 qt23
      unfold sX5_restsAt_J1 gX5_restsAt_J1
      refine sm_rI qt23 q0 rfl (fun c24 q24 => ?_)
      refine sm_zb q24 ?_
      exact sm_some ⟨q24, qt23⟩
    intro k25 gk25 hk25
    refine sm_jn (fun (k' : Option (Nat × Sy)) (k : Option (Int32 × Zh)) => Sm (fun b a => yI a.1 b.1 ∧ syR ι e h0 b.2 a.2) k' k) ?_ ?_
    · skip
      unfold sX5_restsAt_J4 gX5_restsAt_J4
      refine sm_wI hι qt21 q0 rfl (yI_lit 1) (fun _ t26 qt26 => ?_)
      refine sm_wI hι qt26 q0 rfl q1 (fun _ t27 qt27 => ?_)
      refine sm_bI (sX5_rootsAt_ok hι qt27 q0 q1) (fun _ c28 q28 _ t28 qt28 => ?_)
      refine sm_jn (fun (k' : Nat → Sy → Option (Nat × Sy)) (k : Int32 → Zh → Option (Int32 × Zh)) => ∀ (c29 : Nat) (x29 : Int32) (t30 : Sy) (h30 : Zh), yI x29 c29 → syR ι e h0 t30 h30 → Sm (fun b a => yI a.1 b.1 ∧ syR ι e h0 b.2 a.2) (k' c29 t30) (k x29 h30)) ?_ ?_
      · intro c29 x29 t30 h30 q29 qt30
        unfold sX5_restsAt_J2 gX5_restsAt_J2
        refine sm_zb q29 ?_
        refine sm_wI hι qt30 q0 rfl q29 (fun _ t31 qt31 => ?_)
        exact hk25 _ _ qt31
      intro k32 gk32 hk32
      refine sm_jn (fun (k' : Sy → Option (Nat × Sy)) (k : Zh → Option (Int32 × Zh)) => ∀ (t33 : Sy) (h33 : Zh), syR ι e h0 t33 h33 → Sm (fun b a => yI a.1 b.1 ∧ syR ι e h0 b.2 a.2) (k' t33) (k h33)) ?_ ?_
      · intro t33 h33 qt33
        unfold sX5_restsAt_J3 gX5_restsAt_J3
        exact hk32 _ _ _ _ (yI_lit 0) qt33
      intro k34 gk34 hk34
      refine sm_if (sy_eq32 q28 (yI_lit 1)) ?_ ?_
      · refine sm_bI (sX5_findRest_ok hι qt28 q0 q1) (fun _ c35 q35 _ t35 qt35 => ?_)
        refine sm_if (sy_eq32 q35 (yI_lit 0)) ?_ ?_
        · exact hk34 _ _ qt35
        · exact hk32 _ _ _ _ (yI_lit 1) qt35
      · exact hk34 _ _ qt28
    intro k36 gk36 hk36
    refine sm_if (sy_eq32 q22 (yI_lit 0)) ?_ ?_
    · exact hk36
    · refine sm_rI qt21 q0 rfl (fun c37 q37 => ?_)
      refine sm_if (sy_eq32 q37 q1) ?_ ?_
      · exact hk25 _ _ qt21
      · exact hk36
noncomputable def sX5_seenAt_J1 (c23 : Nat) : Nat → Option (Nat) :=
  fun (c24 : Nat) => syc (Nat.beq (Nat.mod c23 18446744073709551616) (Nat.mod 0 18446744073709551616)) none (some (syd 18446744073709551616 (Nat.mod c24 18446744073709551616) (Nat.mod c23 18446744073709551616)))
noncomputable def sX5_seenAt_J2 (c3 : Nat) : Nat → Nat → Option (Nat) :=
  fun (c21 : Nat) (c22 : Nat) => sbj (sX5_commonDivisor c21 c22) (fun c23 => syc (Nat.beq (Nat.mod (sycmp c23 0) 4294967296) (Nat.mod 0 4294967296)) (some 9223372036854775808)
  (zjn (sX5_seenAt_J1 c23) (fun (k25 : Nat → Option (Nat)) =>
  syc (Nat.beq (Nat.mod c3 4294967296) (Nat.mod 0 4294967296)) (k25 c22)
  (k25 c21))))
noncomputable def sX5_seenAt_J3 (c29 : Nat) (k30 : Nat → Nat → Nat → Option (Nat)) : Nat → Nat → Option (Nat) :=
  fun (c47 : Nat) (c48 : Nat) => syf (Nat.add c29 1) (fun c49 => k30 c47 c48 c49)
noncomputable def sX5_seenAt_J4 (e : Se) (t : Sy) (a0 : Nat) (c40 : Nat) (c51 : Nat) (c52 : Nat) (c53 : Nat) (c54 : Nat) (k55 : Nat → Nat → Nat → Nat → Option (Nat)) : Nat → Option (Nat) :=
  fun (c57 : Nat) => syf (Nat.add c51 c57) (fun c58 => syf (Nat.add c52 c40) (fun c59 => srR t a0 10 (fun c60 => syr c60 (fun a61 => sbi (sX0_turn e t a61 c53) (fun c62 => syf (Nat.add c54 1) (fun c63 => k55 c58 c59 c62 c63))))))
noncomputable def sX5_seenAt_J5 (e : Se) (t : Sy) (a0 : Nat) (c40 : Nat) (c51 : Nat) (c52 : Nat) (c53 : Nat) (c54 : Nat) (k55 : Nat → Nat → Nat → Nat → Option (Nat)) : Nat → Option (Nat) :=
  fun (c56 : Nat) => zjn (sX5_seenAt_J4 e t a0 c40 c51 c52 c53 c54 k55) (fun (k64 : Nat → Option (Nat)) =>
  syc (Nat.beq (Nat.mod c56 4294967296) (Nat.mod 0 4294967296)) (syf (syn64 c40) (fun c65 => k64 c65))
  (k64 c40))
noncomputable def sX5_seenAt_L6 (e : Se) (t : Sy) (a0 : Nat) (c1 : Nat) (c2 : Nat) (c40 : Nat) (c46 : Nat) (k50 : Nat → Nat → Option (Nat)) : (Nat → Nat → Nat → Nat → Option (Nat)) → Nat → Nat → Nat → Nat → Option (Nat) :=
  fun (k55 : Nat → Nat → Nat → Nat → Option (Nat)) (c51 : Nat) (c52 : Nat) (c53 : Nat) (c54 : Nat) => syc (Nat.ble (syo32 c46) (syo32 c54)) (k50 c51 c52)
  (zjn (sX5_seenAt_J5 e t a0 c40 c51 c52 c53 c54 k55) (fun (k66 : Nat → Option (Nat)) =>
  syc (Nat.beq (Nat.mod (Nat.land (sysr c53 c1) 1) 4294967296) (Nat.mod (Nat.land (sysr c53 c2) 1) 4294967296)) (k66 1)
  (k66 0)))
noncomputable def sX5_seenAt_L7 (e : Se) (t : Sy) (a0 : Nat) (c1 : Nat) (c2 : Nat) (k26 : Nat → Nat → Option (Nat)) : (Nat → Nat → Nat → Option (Nat)) → Nat → Nat → Nat → Option (Nat) :=
  fun (k30 : Nat → Nat → Nat → Option (Nat)) (c27 : Nat) (c28 : Nat) (c29 : Nat) => srI t a0 13 (fun c31 => syc (Nat.ble (syo32 c31) (syo32 c29)) (k26 c27 c28)
  (srR t a0 5 (fun c32 => syr c32 (fun a33 => syi e a33 c29 (fun p34 => srJ t a33 p34 (fun c35 => srR t a0 5 (fun c36 => syr c36 (fun a37 => syi e a37 c29 (fun p38 => srJ t a37 p38 (fun c39 => syf (Nat.mul c35 c39) (fun c40 => srR t a0 0 (fun c41 => syr c41 (fun a42 => syi e a42 c29 (fun p43 => srI t a42 p43 (fun c44 => sbi (sX5_orbitLength e t a0 c44) (fun c46 => zjn (sX5_seenAt_J3 c29 k30) (fun (k50 : Nat → Nat → Option (Nat)) =>
  syl (fun _ _ _ _ => (none : Option (Nat))) (sX5_seenAt_L6 e t a0 c1 c2 c40 c46 k50) zFU c27 c28 c44 0)))))))))))))))))
noncomputable def sX5_seenAt (e : Se) (t : Sy) (a0 : Nat) (c1 : Nat) (c2 : Nat) (c3 : Nat) : Option (Nat) :=
  zjn (sX5_seenAt_J2 c3) (fun (k26 : Nat → Nat → Option (Nat)) =>
  syl (fun _ _ _ => (none : Option (Nat))) (sX5_seenAt_L7 e t a0 c1 c2 k26) zFU 0 0 0)
theorem sX5_seenAt_ok {ι : Nat → Nat} {e : Se} {h0 h : Zh} {t : Sy} (hι : ∀ a b, ι a = ι b → a = b) (qt : syR ι e h0 t h) {x0 : Nat} {a0 : Nat} {x1 : Int32} {c1 : Nat} {x2 : Int32} {c2 : Nat} {x3 : Int32} {c3 : Nat} (q0 : yA ι x0 a0) (q1 : yI x1 c1) (q2 : yI x2 c2) (q3 : yI x3 c3) : Sm (fun b a => yJ a b) (sX5_seenAt e t a0 c1 c2 c3) (gX5_seenAt h x0 x1 x2 x3) := by
  unfold sX5_seenAt gX5_seenAt
  refine sm_jn (fun (k' : Nat → Nat → Option (Nat)) (k : Int64 → Int64 → Option (Int64)) => ∀ (c21 : Nat) (x21 : Int64) (c22 : Nat) (x22 : Int64), yJ x21 c21 → yJ x22 c22 → Sm (fun b a => yJ a b) (k' c21 c22) (k x21 x22)) ?_ ?_
  · intro c21 x21 c22 x22 q21 q22
    unfold sX5_seenAt_J2 gX5_seenAt_J2
    refine sm_bj (sX5_commonDivisor_ok q21 q22) (fun _ c23 q23 => ?_)
    refine sm_if (sy_eq32 (yI_cmp q23 (yJ_lit 0)) (yI_lit 0)) ?_ ?_
    · exact sm_some (show yJ (-9223372036854775808) 9223372036854775808 from by unfold yJ; decide)
    · refine sm_jn (fun (k' : Nat → Option (Nat)) (k : Int64 → Option (Int64)) => ∀ (c24 : Nat) (x24 : Int64), yJ x24 c24 → Sm (fun b a => yJ a b) (k' c24) (k x24)) ?_ ?_
      · intro c24 x24 q24
        unfold sX5_seenAt_J1 gX5_seenAt_J1
        refine sm_if (sy_eq64 q23 (yJ_lit 0)) sm_none ?_
        exact sm_some (yJ_div q24 q23)
      intro k25 gk25 hk25
      refine sm_if (sy_eq32 q3 (yI_lit 0)) ?_ ?_
      · exact hk25 _ _ q22
      · exact hk25 _ _ q21
  intro k26 gk26 hk26
  refine sm_lp (fun (k' : Nat → Nat → Nat → Option (Nat)) (k : Int64 → Int64 → Int32 → Option (Int64)) => ∀ (c27 : Nat) (x27 : Int64) (c28 : Nat) (x28 : Int64) (c29 : Nat) (x29 : Int32), yJ x27 c27 → yJ x28 c28 → yI x29 c29 → Sm (fun b a => yJ a b) (k' c27 c28 c29) (k x27 x28 x29)) ?_ ?_ zFU _ _ _ _ _ _ (yJ_lit 0) (yJ_lit 0) (yI_lit 0)
  · exact fun _ _ _ _ _ _ _ _ _ => sm_none
  intro k30 gk30 hk30
  intro c27 x27 c28 x28 c29 x29 q27 q28 q29
  unfold sX5_seenAt_L7 gX5_seenAt_L7
  refine sm_rI qt q0 rfl (fun c31 q31 => ?_)
  refine sm_if (sy_le32 q31 q29) ?_ ?_
  · exact hk26 _ _ _ _ q27 q28
  · refine sm_rR qt q0 rfl (fun _ c32 q32 => ?_)
    refine sm_dr q32 (fun _ a33 q33 => ?_)
    refine sm_in qt q33 q29 (fun p34 q34 => ?_)
    refine sm_rJ qt q33 q34 (fun c35 q35 => ?_)
    refine sm_rR qt q0 rfl (fun _ c36 q36 => ?_)
    refine sm_dr q36 (fun _ a37 q37 => ?_)
    refine sm_in qt q37 q29 (fun p38 q38 => ?_)
    refine sm_rJ qt q37 q38 (fun c39 q39 => ?_)
    refine sm_ltj (yJ_mul q35 q39) (fun _ c40 q40 => ?_)
    refine sm_rR qt q0 rfl (fun _ c41 q41 => ?_)
    refine sm_dr q41 (fun _ a42 q42 => ?_)
    refine sm_in qt q42 q29 (fun p43 q43 => ?_)
    refine sm_rI qt q42 q43 (fun c44 q44 => ?_)
    refine sm_lt0i q44 (fun _ q45 => ?_)
    refine sm_bi (sX5_orbitLength_ok hι qt q0 q45) (fun _ c46 q46 => ?_)
    refine sm_jn (fun (k' : Nat → Nat → Option (Nat)) (k : Int64 → Int64 → Option (Int64)) => ∀ (c47 : Nat) (x47 : Int64) (c48 : Nat) (x48 : Int64), yJ x47 c47 → yJ x48 c48 → Sm (fun b a => yJ a b) (k' c47 c48) (k x47 x48)) ?_ ?_
    · intro c47 x47 c48 x48 q47 q48
      unfold sX5_seenAt_J3 gX5_seenAt_J3
      refine sm_f ?_
      exact hk30 _ _ _ _ _ _ q47 q48 (yI_add q29 (yI_lit 1))
    intro k50 gk50 hk50
    refine sm_lp (fun (k' : Nat → Nat → Nat → Nat → Option (Nat)) (k : Int64 → Int64 → Int32 → Int32 → Option (Int64)) => ∀ (c51 : Nat) (x51 : Int64) (c52 : Nat) (x52 : Int64) (c53 : Nat) (x53 : Int32) (c54 : Nat) (x54 : Int32), yJ x51 c51 → yJ x52 c52 → yI x53 c53 → yI x54 c54 → Sm (fun b a => yJ a b) (k' c51 c52 c53 c54) (k x51 x52 x53 x54)) ?_ ?_ zFU _ _ _ _ _ _ _ _ q27 q28 q45 (yI_lit 0)
    · exact fun _ _ _ _ _ _ _ _ _ _ _ _ => sm_none
    intro k55 gk55 hk55
    intro c51 x51 c52 x52 c53 x53 c54 x54 q51 q52 q53 q54
    unfold sX5_seenAt_L6 gX5_seenAt_L6
    refine sm_if (sy_le32 q46 q54) ?_ ?_
    · exact hk50 _ _ _ _ q51 q52
    · refine sm_jn (fun (k' : Nat → Option (Nat)) (k : Int32 → Option (Int64)) => ∀ (c56 : Nat) (x56 : Int32), yI x56 c56 → Sm (fun b a => yJ a b) (k' c56) (k x56)) ?_ ?_
      · intro c56 x56 q56
        unfold sX5_seenAt_J5 gX5_seenAt_J5
        refine sm_jn (fun (k' : Nat → Option (Nat)) (k : Int64 → Option (Int64)) => ∀ (c57 : Nat) (x57 : Int64), yJ x57 c57 → Sm (fun b a => yJ a b) (k' c57) (k x57)) ?_ ?_
        · intro c57 x57 q57
          unfold sX5_seenAt_J4 gX5_seenAt_J4
          refine sm_ltj (yJ_add q51 q57) (fun _ c58 q58 => ?_)
          refine sm_ltj (yJ_add q52 q40) (fun _ c59 q59 => ?_)
          refine sm_rR qt q0 rfl (fun _ c60 q60 => ?_)
          refine sm_dr q60 (fun _ a61 q61 => ?_)
          refine sm_bi (sX0_turn_ok hι qt q61 q53) (fun _ c62 q62 => ?_)
          refine sm_f ?_
          exact hk55 _ _ _ _ _ _ _ _ q58 q59 q62 (yI_add q54 (yI_lit 1))
        intro k64 gk64 hk64
        refine sm_if (sy_eq32 q56 (yI_lit 0)) ?_ ?_
        · refine sm_f ?_
          exact hk64 _ _ (yJ_neg q40)
        · exact hk64 _ _ q40
      intro k66 gk66 hk66
      refine sm_if (sy_eq32 (yI_and (yI_shr q53 q1) (yI_lit 1)) (yI_and (yI_shr q53 q2) (yI_lit 1))) ?_ ?_
      · exact hk66 _ _ (yI_lit 1)
      · exact hk66 _ _ (yI_lit 0)
