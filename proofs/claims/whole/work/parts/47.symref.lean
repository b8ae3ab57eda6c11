noncomputable def sX12_in_J1 : Option (Nat) :=
  some 0
noncomputable def sX12_in (c0 : Nat) (c2 : Nat) (c4 : Nat) : Option (Nat) :=
  zjn sX12_in_J1 (fun (k21 : Option (Nat)) =>
  syc (Nat.ble (Nat.succ (syo32 (sycmp c0 c2))) (syo32 0)) (k21)
  (syc (Nat.ble (Nat.succ (syo32 0)) (syo32 (sycmp c0 c4))) (k21)
  (some 1)))
theorem sX12_in_ok {x0 : Int64} {c0 : Nat} {x2 : Int64} {c2 : Nat} {x4 : Int64} {c4 : Nat} (q0 : yJ x0 c0) (q2 : yJ x2 c2) (q4 : yJ x4 c4) : Sm (fun b a => yI a b) (sX12_in c0 c2 c4) (gX12_in x0 x2 x4) := by
  unfold sX12_in gX12_in
  refine sm_jn (fun (k' : Option (Nat)) (k : Option (Int32)) => Sm (fun b a => yI a b) k' k) ?_ ?_
  · skip
    unfold sX12_in_J1 gX12_in_J1
    exact sm_some (yI_lit 0)
  intro k21 gk21 hk21
  refine sm_if (sy_lt32 (yI_cmp q0 q2) (yI_lit 0)) ?_ ?_
  · exact hk21
  · refine sm_if (sy_lt32 (yI_lit 0) (yI_cmp q0 q4)) ?_ ?_
    · exact hk21
    · exact sm_some (yI_lit 1)
noncomputable def sX12_lost  : Option (Nat) :=
  some 9223372036854775808
theorem sX12_lost_ok  : Sm (fun b a => yJ a b) (sX12_lost ) (gX12_lost ) := by
  unfold sX12_lost gX12_lost
  exact sm_some (show yJ (-9223372036854775808) 9223372036854775808 from by unfold yJ; decide)
noncomputable def sX12_hasBit (c0 : Nat) (c1 : Nat) : Option (Nat) :=
  syc (Nat.beq (Nat.mod (Nat.land (sysr c0 c1) 1) 4294967296) (Nat.mod 1 4294967296)) (some 1)
  (some 0)
theorem sX12_hasBit_ok {x0 : Int32} {c0 : Nat} {x1 : Int32} {c1 : Nat} (q0 : yI x0 c0) (q1 : yI x1 c1) : Sm (fun b a => yI a b) (sX12_hasBit c0 c1) (gX12_hasBit x0 x1) := by
  unfold sX12_hasBit gX12_hasBit
  refine sm_if (sy_eq32 (yI_and (yI_shr q0 q1) (yI_lit 1)) (yI_lit 1)) ?_ ?_
  · exact sm_some (yI_lit 1)
  · exact sm_some (yI_lit 0)
noncomputable def sX12_sizeOf (c0 : Nat) : Option (Nat) :=
  syc (Nat.ble (syo32 0) (syo32 (sycmp c0 0))) (some c0)
  (some (syn64 c0))
theorem sX12_sizeOf_ok {x0 : Int64} {c0 : Nat} (q0 : yJ x0 c0) : Sm (fun b a => yJ a b) (sX12_sizeOf c0) (gX12_sizeOf x0) := by
  unfold sX12_sizeOf gX12_sizeOf
  refine sm_if (sy_le32 (yI_lit 0) (yI_cmp q0 (yJ_lit 0))) ?_ ?_
  · exact sm_some q0
  · exact sm_some (yJ_neg q0)
noncomputable def sX12_common_L1 : (Nat → Nat → Option (Nat)) → Nat → Nat → Option (Nat) :=
  fun (k25 : Nat → Nat → Option (Nat)) (c23 : Nat) (c24 : Nat) => syc (Nat.beq (Nat.mod (sycmp c24 0) 4294967296) (Nat.mod 0 4294967296)) (some c23)
  (syc (Nat.beq (Nat.mod c24 18446744073709551616) (Nat.mod 0 18446744073709551616)) none (syf (Nat.add c23 (syn64 (Nat.mul (syd 18446744073709551616 (Nat.mod c23 18446744073709551616) (Nat.mod c24 18446744073709551616)) c24))) (fun c26 => k25 c24 c26)))
noncomputable def sX12_common (c0 : Nat) (c2 : Nat) : Option (Nat) :=
  sbj (sX12_sizeOf c0) (fun c21 => sbj (sX12_sizeOf c2) (fun c22 => syl (fun _ _ => (none : Option (Nat))) sX12_common_L1 zFU c21 c22))
theorem sX12_common_ok {x0 : Int64} {c0 : Nat} {x2 : Int64} {c2 : Nat} (q0 : yJ x0 c0) (q2 : yJ x2 c2) : Sm (fun b a => yJ a b) (sX12_common c0 c2) (gX12_common x0 x2) := by
  unfold sX12_common gX12_common
  refine sm_bj (sX12_sizeOf_ok q0) (fun _ c21 q21 => ?_)
  refine sm_bj (sX12_sizeOf_ok q2) (fun _ c22 q22 => ?_)
  refine sm_lp (fun (k' : Nat → Nat → Option (Nat)) (k : Int64 → Int64 → Option (Int64)) => ∀ (c23 : Nat) (x23 : Int64) (c24 : Nat) (x24 : Int64), yJ x23 c23 → yJ x24 c24 → Sm (fun b a => yJ a b) (k' c23 c24) (k x23 x24)) ?_ ?_ zFU _ _ _ _ q21 q22
  · exact fun _ _ _ _ _ _ => sm_none
  intro k25 gk25 hk25
  intro c23 x23 c24 x24 q23 q24
  unfold sX12_common_L1 gX12_common_L1
  refine sm_if (sy_eq32 (yI_cmp q24 (yJ_lit 0)) (yI_lit 0)) ?_ ?_
  · exact sm_some q23
  · refine sm_if (sy_eq64 q24 (yJ_lit 0)) sm_none ?_
    refine sm_ltj (yJ_sub q23 (yJ_mul (yJ_div q23 q24) q24)) (fun _ c26 q26 => ?_)
    exact hk25 _ _ _ _ q24 q26
noncomputable def sX12_refused (e : Se) (t : Sy) (a0 : Nat) (c1 : Nat) : Option (Nat × Sy) :=
  swI e t a0 0 0 (fun t21 => some (c1, t21))
theorem sX12_refused_ok {ι : Nat → Nat} {e : Se} {h0 h : Zh} {t : Sy} (hι : ∀ a b, ι a = ι b → a = b) (qt : syR ι e h0 t h) {x0 : Nat} {a0 : Nat} {x1 : Int32} {c1 : Nat} (q0 : yA ι x0 a0) (q1 : yI x1 c1) : Sm (fun b a => yI a.1 b.1 ∧ syR ι e h0 b.2 a.2) (sX12_refused e t a0 c1) (gX12_refused h x0 x1) := by
  unfold sX12_refused gX12_refused
  refine sm_wI hι qt q0 rfl (yI_lit 0) (fun _ t21 qt21 => ?_)
  exact sm_some ⟨q1, qt21⟩
noncomputable def sX12_failed (e : Se) (t : Sy) (a0 : Nat) (c1 : Nat) : Option (Nat × Sy) :=
  swI e t a0 0 c1 (fun t21 => some ((Nat.add 4294967286 (syn32 c1)), t21))
theorem sX12_failed_ok {ι : Nat → Nat} {e : Se} {h0 h : Zh} {t : Sy} (hι : ∀ a b, ι a = ι b → a = b) (qt : syR ι e h0 t h) {x0 : Nat} {a0 : Nat} {x1 : Int32} {c1 : Nat} (q0 : yA ι x0 a0) (q1 : yI x1 c1) : Sm (fun b a => yI a.1 b.1 ∧ syR ι e h0 b.2 a.2) (sX12_failed e t a0 c1) (gX12_failed h x0 x1) := by
  unfold sX12_failed gX12_failed
  refine sm_wI hι qt q0 rfl q1 (fun _ t21 qt21 => ?_)
  exact sm_some ⟨(yI_sub (show yI (-10) 4294967286 from by unfold yI; decide) q1), qt21⟩
noncomputable def sX12_failedLong (e : Se) (t : Sy) (a0 : Nat) (c1 : Nat) : Option (Nat × Sy) :=
  swI e t a0 0 c1 (fun t21 => sbj (sX12_lost ) (fun c22 => some (c22, t21)))
theorem sX12_failedLong_ok {ι : Nat → Nat} {e : Se} {h0 h : Zh} {t : Sy} (hι : ∀ a b, ι a = ι b → a = b) (qt : syR ι e h0 t h) {x0 : Nat} {a0 : Nat} {x1 : Int32} {c1 : Nat} (q0 : yA ι x0 a0) (q1 : yI x1 c1) : Sm (fun b a => yJ a.1 b.1 ∧ syR ι e h0 b.2 a.2) (sX12_failedLong e t a0 c1) (gX12_failedLong h x0 x1) := by
  unfold sX12_failedLong gX12_failedLong
  refine sm_wI hι qt q0 rfl q1 (fun _ t21 qt21 => ?_)
  refine sm_bj (sX12_lost_ok ) (fun _ c22 q22 => ?_)
  exact sm_some ⟨q22, qt21⟩
noncomputable def sX12_pairMany (e : Se) (t : Sy) (a0 : Nat) : Option (Nat) :=
  srI t a0 2 (fun c21 => syc (Nat.beq (Nat.mod c21 4294967296) (Nat.mod 0 4294967296)) (srI t a0 1 (fun c22 => some (Nat.add c22 (syn32 1))))
  (srI t a0 1 (fun c23 => some c23)))
theorem sX12_pairMany_ok {ι : Nat → Nat} {e : Se} {h0 h : Zh} {t : Sy} (hι : ∀ a b, ι a = ι b → a = b) (qt : syR ι e h0 t h) {x0 : Nat} {a0 : Nat} (q0 : yA ι x0 a0) : Sm (fun b a => yI a b) (sX12_pairMany e t a0) (gX12_pairMany h x0) := by
  unfold sX12_pairMany gX12_pairMany
  refine sm_rI qt q0 rfl (fun c21 q21 => ?_)
  refine sm_if (sy_eq32 q21 (yI_lit 0)) ?_ ?_
  · refine sm_rI qt q0 rfl (fun c22 q22 => ?_)
    exact sm_some (yI_sub q22 (yI_lit 1))
  · refine sm_rI qt q0 rfl (fun c23 q23 => ?_)
    exact sm_some q23
noncomputable def sX12_stateMany (e : Se) (t : Sy) (a0 : Nat) : Option (Nat) :=
  srI t a0 1 (fun c21 => some (Nat.shiftLeft 1 (Nat.mod c21 32)))
theorem sX12_stateMany_ok {ι : Nat → Nat} {e : Se} {h0 h : Zh} {t : Sy} (hι : ∀ a b, ι a = ι b → a = b) (qt : syR ι e h0 t h) {x0 : Nat} {a0 : Nat} (q0 : yA ι x0 a0) : Sm (fun b a => yI a b) (sX12_stateMany e t a0) (gX12_stateMany h x0) := by
  unfold sX12_stateMany gX12_stateMany
  refine sm_rI qt q0 rfl (fun c21 q21 => ?_)
  exact sm_some (yI_shl (yI_lit 1) q21)
noncomputable def sX12_keepSnap_J1 (e : Se) (a0 : Nat) : Sy → Option (Sy) :=
  fun (t44 : Sy) => srI t44 a0 37 (fun c45 => swI e t44 a0 36 (Nat.add c45 1) (fun t46 => some t46))
noncomputable def sX12_keepSnap_J2 (c48 : Nat) (k50 : Nat → Sy → Option (Sy)) : Sy → Option (Sy) :=
  fun (t59 : Sy) => syf (Nat.add c48 1) (fun c60 => k50 c60 t59)
noncomputable def sX12_keepSnap_L3 (e : Se) (a0 : Nat) (c22 : Nat) (c48 : Nat) (k61 : Sy → Option (Sy)) : (Nat → Sy → Option (Sy)) → Nat → Sy → Option (Sy) :=
  fun (k64 : Nat → Sy → Option (Sy)) (c62 : Nat) (t63 : Sy) => syc (Nat.ble (syo32 60) (syo32 c62)) (k61 t63)
  (syf (Nat.add (Nat.add (Nat.add c22 8) (Nat.mul 180 c48)) (Nat.mul 3 c62)) (fun c65 => srR t63 a0 35 (fun c66 => srR t63 a0 30 (fun c67 => syr c67 (fun a68 => syi e a68 (Nat.add (Nat.mul 60 c48) c62) (fun p69 => srI t63 a68 p69 (fun c70 => syr c66 (fun a71 => syi e a71 c65 (fun p72 => swI e t63 a71 p72 c70 (fun t73 => srR t73 a0 35 (fun c74 => srR t73 a0 31 (fun c75 => syr c75 (fun a76 => syi e a76 (Nat.add (Nat.mul 60 c48) c62) (fun p77 => srI t73 a76 p77 (fun c78 => syr c74 (fun a79 => syi e a79 (Nat.add c65 1) (fun p80 => swI e t73 a79 p80 c78 (fun t81 => srR t81 a0 35 (fun c82 => srR t81 a0 32 (fun c83 => syr c83 (fun a84 => syi e a84 (Nat.add (Nat.mul 60 c48) c62) (fun p85 => srI t81 a84 p85 (fun c86 => syr c82 (fun a87 => syi e a87 (Nat.add c65 2) (fun p88 => swI e t81 a87 p88 c86 (fun t89 => syf (Nat.add c62 1) (fun c90 => k64 c90 t89)))))))))))))))))))))))))))
noncomputable def sX12_keepSnap_L4 (e : Se) (a0 : Nat) (c22 : Nat) (k47 : Sy → Option (Sy)) : (Nat → Sy → Option (Sy)) → Nat → Sy → Option (Sy) :=
  fun (k50 : Nat → Sy → Option (Sy)) (c48 : Nat) (t49 : Sy) => syc (Nat.ble (syo32 4) (syo32 c48)) (k47 t49)
  (srR t49 a0 35 (fun c51 => srR t49 a0 29 (fun c52 => syr c52 (fun a53 => syi e a53 c48 (fun p54 => srI t49 a53 p54 (fun c55 => syr c51 (fun a56 => syi e a56 (Nat.add (Nat.add c22 4) c48) (fun p57 => swI e t49 a56 p57 c55 (fun t58 => zjn (sX12_keepSnap_J2 c48 k50) (fun (k61 : Sy → Option (Sy)) =>
  syl (fun _ _ => (none : Option (Sy))) (sX12_keepSnap_L3 e a0 c22 c48 k61) zFU 0 t58))))))))))
noncomputable def sX12_keepSnap_J5 (e : Se) (a0 : Nat) (c22 : Nat) (t27 : Sy) (c28 : Nat) : Nat → Option (Sy) :=
  fun (c30 : Nat) => syr c28 (fun a31 => syi e a31 (Nat.add c22 1) (fun p32 => swI e t27 a31 p32 c30 (fun t33 => srR t33 a0 35 (fun c34 => srI t33 a0 3 (fun c35 => syr c34 (fun a36 => syi e a36 (Nat.add c22 2) (fun p37 => swI e t33 a36 p37 c35 (fun t38 => srR t38 a0 35 (fun c39 => srI t38 a0 4 (fun c40 => syr c39 (fun a41 => syi e a41 (Nat.add c22 3) (fun p42 => swI e t38 a41 p42 c40 (fun t43 => zjn (sX12_keepSnap_J1 e a0) (fun (k47 : Sy → Option (Sy)) =>
  syl (fun _ _ => (none : Option (Sy))) (sX12_keepSnap_L4 e a0 c22 k47) zFU 0 t43))))))))))))))
noncomputable def sX12_keepSnap (e : Se) (t : Sy) (a0 : Nat) : Option (Sy) :=
  srI t a0 37 (fun c21 => syf (Nat.mul 728 c21) (fun c22 => srR t a0 35 (fun c23 => srI t a0 1 (fun c24 => syr c23 (fun a25 => syi e a25 c22 (fun p26 => swI e t a25 p26 c24 (fun t27 => srR t27 a0 35 (fun c28 => srI t27 a0 2 (fun c29 => zjn (sX12_keepSnap_J5 e a0 c22 t27 c28) (fun (k91 : Nat → Option (Sy)) =>
  syc (Nat.beq (Nat.mod c29 4294967296) (Nat.mod 0 4294967296)) (k91 0)
  (k91 1)))))))))))
theorem sX12_keepSnap_ok {ι : Nat → Nat} {e : Se} {h0 h : Zh} {t : Sy} (hι : ∀ a b, ι a = ι b → a = b) (qt : syR ι e h0 t h) {x0 : Nat} {a0 : Nat} (q0 : yA ι x0 a0) : Sm (fun b a => syR ι e h0 b a) (sX12_keepSnap e t a0) (gX12_keepSnap h x0) := by
  unfold sX12_keepSnap gX12_keepSnap
  refine sm_rI qt q0 rfl (fun c21 q21 => ?_)
  refine sm_lti (yI_mul (yI_lit 728) q21) (fun _ c22 q22 => ?_)
  refine sm_rR qt q0 rfl (fun _ c23 q23 => ?_)
  refine sm_rI qt q0 rfl (fun c24 q24 => ?_)
  refine sm_dr q23 (fun _ a25 q25 => ?_)
  refine sm_in qt q25 q22 (fun p26 q26 => ?_)
  refine sm_wI hι qt q25 q26 q24 (fun _ t27 qt27 => ?_)
  refine sm_rR qt27 q0 rfl (fun _ c28 q28 => ?_)
  refine sm_rI qt27 q0 rfl (fun c29 q29 => ?_)
  refine sm_jn (fun (k' : Nat → Option (Sy)) (k : Int32 → Option (Zh)) => ∀ (c30 : Nat) (x30 : Int32), yI x30 c30 → Sm (fun b a => syR ι e h0 b a) (k' c30) (k x30)) ?_ ?_
  · intro c30 x30 q30
    unfold sX12_keepSnap_J5 gX12_keepSnap_J5
    refine sm_dr q28 (fun _ a31 q31 => ?_)
    refine sm_in qt27 q31 (yI_add q22 (yI_lit 1)) (fun p32 q32 => ?_)
    refine sm_wI hι qt27 q31 q32 q30 (fun _ t33 qt33 => ?_)
    refine sm_rR qt33 q0 rfl (fun _ c34 q34 => ?_)
    refine sm_rI qt33 q0 rfl (fun c35 q35 => ?_)
    refine sm_dr q34 (fun _ a36 q36 => ?_)
    refine sm_in qt33 q36 (yI_add q22 (yI_lit 2)) (fun p37 q37 => ?_)
    refine sm_wI hι qt33 q36 q37 q35 (fun _ t38 qt38 => ?_)
    refine sm_rR qt38 q0 rfl (fun _ c39 q39 => ?_)
    refine sm_rI qt38 q0 rfl (fun c40 q40 => ?_)
    refine sm_dr q39 (fun _ a41 q41 => ?_)
    refine sm_in qt38 q41 (yI_add q22 (yI_lit 3)) (fun p42 q42 => ?_)
    refine sm_wI hι qt38 q41 q42 q40 (fun _ t43 qt43 => ?_)
    refine sm_jn (fun (k' : Sy → Option (Sy)) (k : Zh → Option (Zh)) => ∀ (t44 : Sy) (h44 : Zh), syR ι e h0 t44 h44 → Sm (fun b a => syR ι e h0 b a) (k' t44) (k h44)) ?_ ?_
    · intro t44 h44 qt44
      unfold sX12_keepSnap_J1 gX12_keepSnap_J1
      refine sm_rI qt44 q0 rfl (fun c45 q45 => ?_)
      refine sm_wI hι qt44 q0 rfl (yI_add q45 (yI_lit 1)) (fun _ t46 qt46 => ?_)
      exact sm_some qt46
    intro k47 gk47 hk47
    refine sm_lp (fun (k' : Nat → Sy → Option (Sy)) (k : Int32 → Zh → Option (Zh)) => ∀ (c48 : Nat) (x48 : Int32) (t49 : Sy) (h49 : Zh), yI x48 c48 → syR ι e h0 t49 h49 → Sm (fun b a => syR ι e h0 b a) (k' c48 t49) (k x48 h49)) ?_ ?_ zFU _ _ _ _ (yI_lit 0) qt43
    · exact fun _ _ _ _ _ _ => sm_none
    intro k50 gk50 hk50
    intro c48 x48 t49 h49 q48 qt49
    unfold sX12_keepSnap_L4 gX12_keepSnap_L4
    refine sm_if (sy_le32 (yI_lit 4) q48) ?_ ?_
    · exact hk47 _ _ qt49
    · refine sm_rR qt49 q0 rfl (fun _ c51 q51 => ?_)
      refine sm_rR qt49 q0 rfl (fun _ c52 q52 => ?_)
      refine sm_dr q52 (fun _ a53 q53 => ?_)
      refine sm_in qt49 q53 q48 (fun p54 q54 => ?_)
      refine sm_rI qt49 q53 q54 (fun c55 q55 => ?_)
      refine sm_dr q51 (fun _ a56 q56 => ?_)
      refine sm_in qt49 q56 (yI_add (yI_add q22 (yI_lit 4)) q48) (fun p57 q57 => ?_)
      refine sm_wI hι qt49 q56 q57 q55 (fun _ t58 qt58 => ?_)
      refine sm_jn (fun (k' : Sy → Option (Sy)) (k : Zh → Option (Zh)) => ∀ (t59 : Sy) (h59 : Zh), syR ι e h0 t59 h59 → Sm (fun b a => syR ι e h0 b a) (k' t59) (k h59)) ?_ ?_
      · intro t59 h59 qt59
        unfold sX12_keepSnap_J2 gX12_keepSnap_J2
        refine sm_f ?_
        exact hk50 _ _ _ _ (yI_add q48 (yI_lit 1)) qt59
      intro k61 gk61 hk61
      refine sm_lp (fun (k' : Nat → Sy → Option (Sy)) (k : Int32 → Zh → Option (Zh)) => ∀ (c62 : Nat) (x62 : Int32) (t63 : Sy) (h63 : Zh), yI x62 c62 → syR ι e h0 t63 h63 → Sm (fun b a => syR ι e h0 b a) (k' c62 t63) (k x62 h63)) ?_ ?_ zFU _ _ _ _ (yI_lit 0) qt58
      · exact fun _ _ _ _ _ _ => sm_none
      intro k64 gk64 hk64
      intro c62 x62 t63 h63 q62 qt63
      unfold sX12_keepSnap_L3 gX12_keepSnap_L3
      refine sm_if (sy_le32 (yI_lit 60) q62) ?_ ?_
      · exact hk61 _ _ qt63
      · refine sm_lti (yI_add (yI_add (yI_add q22 (yI_lit 8)) (yI_mul (yI_lit 180) q48)) (yI_mul (yI_lit 3) q62)) (fun _ c65 q65 => ?_)
        refine sm_rR qt63 q0 rfl (fun _ c66 q66 => ?_)
        refine sm_rR qt63 q0 rfl (fun _ c67 q67 => ?_)
        refine sm_dr q67 (fun _ a68 q68 => ?_)
        refine sm_in qt63 q68 (yI_add (yI_mul (yI_lit 60) q48) q62) (fun p69 q69 => ?_)
        refine sm_rI qt63 q68 q69 (fun c70 q70 => ?_)
        refine sm_dr q66 (fun _ a71 q71 => ?_)
        refine sm_in qt63 q71 q65 (fun p72 q72 => ?_)
        refine sm_wI hι qt63 q71 q72 q70 (fun _ t73 qt73 => ?_)
        refine sm_rR qt73 q0 rfl (fun _ c74 q74 => ?_)
        refine sm_rR qt73 q0 rfl (fun _ c75 q75 => ?_)
        refine sm_dr q75 (fun _ a76 q76 => ?_)
        refine sm_in qt73 q76 (yI_add (yI_mul (yI_lit 60) q48) q62) (fun p77 q77 => ?_)
        refine sm_rI qt73 q76 q77 (fun c78 q78 => ?_)
        refine sm_dr q74 (fun _ a79 q79 => ?_)
        refine sm_in qt73 q79 (yI_add q65 (yI_lit 1)) (fun p80 q80 => ?_)
        refine sm_wI hι qt73 q79 q80 q78 (fun _ t81 qt81 => ?_)
        refine sm_rR qt81 q0 rfl (fun _ c82 q82 => ?_)
        refine sm_rR qt81 q0 rfl (fun _ c83 q83 => ?_)
        refine sm_dr q83 (fun _ a84 q84 => ?_)
        refine sm_in qt81 q84 (yI_add (yI_mul (yI_lit 60) q48) q62) (fun p85 q85 => ?_)
        refine sm_rI qt81 q84 q85 (fun c86 q86 => ?_)
        refine sm_dr q82 (fun _ a87 q87 => ?_)
        refine sm_in qt81 q87 (yI_add q65 (yI_lit 2)) (fun p88 q88 => ?_)
        refine sm_wI hι qt81 q87 q88 q86 (fun _ t89 qt89 => ?_)
        refine sm_f ?_
        exact hk64 _ _ _ _ (yI_add q62 (yI_lit 1)) qt89
  intro k91 gk91 hk91
  refine sm_if (sy_eq32 q29 (yI_lit 0)) ?_ ?_
  · exact hk91 _ _ (yI_lit 0)
  · exact hk91 _ _ (yI_lit 1)
noncomputable def sX12_acted_J1 (e : Se) (a0 : Nat) : Sy → Option (Sy) :=
  fun (t22 : Sy) => sbV (sX12_keepSnap e t22 a0) (fun t23 => some t23)
noncomputable def sX12_acted_J2 (k24 : Sy → Option (Sy)) : Sy → Option (Sy) :=
  fun (t27 : Sy) => k24 t27
noncomputable def sX12_acted_L3 (e : Se) (a0 : Nat) (k28 : Sy → Option (Sy)) : (Nat → Sy → Option (Sy)) → Nat → Sy → Option (Sy) :=
  fun (k31 : Nat → Sy → Option (Sy)) (c29 : Nat) (t30 : Sy) => syc (Nat.ble (syo32 14560) (syo32 c29)) (k28 t30)
  (srR t30 a0 35 (fun c32 => srR t30 a0 35 (fun c33 => syr c33 (fun a34 => syi e a34 (Nat.add c29 728) (fun p35 => srI t30 a34 p35 (fun c36 => syr c32 (fun a37 => syi e a37 c29 (fun p38 => swI e t30 a37 p38 c36 (fun t39 => syf (Nat.add c29 1) (fun c40 => k31 c40 t39))))))))))
noncomputable def sX12_acted (e : Se) (t : Sy) (a0 : Nat) : Option (Sy) :=
  srI t a0 37 (fun c21 => zjn (sX12_acted_J1 e a0) (fun (k24 : Sy → Option (Sy)) =>
  syc (Nat.beq (Nat.mod c21 4294967296) (Nat.mod 20 4294967296)) (zjn (sX12_acted_J2 k24) (fun (k28 : Sy → Option (Sy)) =>
  syl (fun _ _ => (none : Option (Sy))) (sX12_acted_L3 e a0 k28) zFU 0 t))
  (srI t a0 37 (fun c25 => swI e t a0 37 (Nat.add c25 1) (fun t26 => k24 t26)))))
theorem sX12_acted_ok {ι : Nat → Nat} {e : Se} {h0 h : Zh} {t : Sy} (hι : ∀ a b, ι a = ι b → a = b) (qt : syR ι e h0 t h) {x0 : Nat} {a0 : Nat} (q0 : yA ι x0 a0) : Sm (fun b a => syR ι e h0 b a) (sX12_acted e t a0) (gX12_acted h x0) := by
  unfold sX12_acted gX12_acted
  refine sm_rI qt q0 rfl (fun c21 q21 => ?_)
  refine sm_jn (fun (k' : Sy → Option (Sy)) (k : Zh → Option (Zh)) => ∀ (t22 : Sy) (h22 : Zh), syR ι e h0 t22 h22 → Sm (fun b a => syR ι e h0 b a) (k' t22) (k h22)) ?_ ?_
  · intro t22 h22 qt22
    unfold sX12_acted_J1 gX12_acted_J1
    refine sm_bV (sX12_keepSnap_ok hι qt22 q0) (fun _ t23 qt23 => ?_)
    exact sm_some qt23
  intro k24 gk24 hk24
  refine sm_if (sy_eq32 q21 (yI_lit 20)) ?_ ?_
  · refine sm_jn (fun (k' : Sy → Option (Sy)) (k : Zh → Option (Zh)) => ∀ (t27 : Sy) (h27 : Zh), syR ι e h0 t27 h27 → Sm (fun b a => syR ι e h0 b a) (k' t27) (k h27)) ?_ ?_
    · intro t27 h27 qt27
      unfold sX12_acted_J2 gX12_acted_J2
      exact hk24 _ _ qt27
    intro k28 gk28 hk28
    refine sm_lp (fun (k' : Nat → Sy → Option (Sy)) (k : Int32 → Zh → Option (Zh)) => ∀ (c29 : Nat) (x29 : Int32) (t30 : Sy) (h30 : Zh), yI x29 c29 → syR ι e h0 t30 h30 → Sm (fun b a => syR ι e h0 b a) (k' c29 t30) (k x29 h30)) ?_ ?_ zFU _ _ _ _ (yI_lit 0) qt
    · exact fun _ _ _ _ _ _ => sm_none
    intro k31 gk31 hk31
    intro c29 x29 t30 h30 q29 qt30
    unfold sX12_acted_L3 gX12_acted_L3
    refine sm_if (sy_le32 (yI_lit 14560) q29) ?_ ?_
    · exact hk28 _ _ qt30
    · refine sm_rR qt30 q0 rfl (fun _ c32 q32 => ?_)
      refine sm_rR qt30 q0 rfl (fun _ c33 q33 => ?_)
      refine sm_dr q33 (fun _ a34 q34 => ?_)
      refine sm_in qt30 q34 (yI_add q29 (yI_lit 728)) (fun p35 q35 => ?_)
      refine sm_rI qt30 q34 q35 (fun c36 q36 => ?_)
      refine sm_dr q32 (fun _ a37 q37 => ?_)
      refine sm_in qt30 q37 q29 (fun p38 q38 => ?_)
      refine sm_wI hι qt30 q37 q38 q36 (fun _ t39 qt39 => ?_)
      refine sm_f ?_
      exact hk31 _ _ _ _ (yI_add q29 (yI_lit 1)) qt39
  · refine sm_rI qt q0 rfl (fun c25 q25 => ?_)
    refine sm_wI hι qt q0 rfl (yI_add q25 (yI_lit 1)) (fun _ t26 qt26 => ?_)
    exact hk24 _ _ qt26
noncomputable def sX12_chain (e : Se) (t : Sy) (a0 : Nat) (c1 : Nat) (c2 : Nat) (c3 : Nat) (c4 : Nat) : Option (Nat × Sy) :=
  sbi (sX12_in (sy2l c1) 2 8) (fun c21 => syc (Nat.beq (Nat.mod c21 4294967296) (Nat.mod 0 4294967296)) (some (4294967294, t))
  (sbi (sX12_in (sy2l c3) 1 4) (fun c22 => syc (Nat.beq (Nat.mod c22 4294967296) (Nat.mod 0 4294967296)) (some (4294967294, t))
  (sbi (sX12_in (sy2l c4) 18446744073709551614 2) (fun c23 => syc (Nat.beq (Nat.mod c23 4294967296) (Nat.mod 0 4294967296)) (some (4294967294, t))
  (swI e t a0 1 c1 (fun t24 => syc (Nat.ble (Nat.mod c2 4294967296) 1) (swI e t24 a0 2 c2 (fun t25 => swI e t25 a0 3 c3 (fun t26 => swI e t26 a0 4 c4 (fun t27 => sbV (sX12_acted e t27 a0) (fun t28 => sbi (sX12_stateMany e t28 a0) (fun c29 => some (c29, t28))))))) none)))))))
theorem sX12_chain_ok {ι : Nat → Nat} {e : Se} {h0 h : Zh} {t : Sy} (hι : ∀ a b, ι a = ι b → a = b) (qt : syR ι e h0 t h) {x0 : Nat} {a0 : Nat} {x1 : Int32} {c1 : Nat} {x2 : Int32} {c2 : Nat} {x3 : Int32} {c3 : Nat} {x4 : Int32} {c4 : Nat} (q0 : yA ι x0 a0) (q1 : yI x1 c1) (q2 : yI x2 c2) (q3 : yI x3 c3) (q4 : yI x4 c4) : Sm (fun b a => yI a.1 b.1 ∧ syR ι e h0 b.2 a.2) (sX12_chain e t a0 c1 c2 c3 c4) (gX12_chain h x0 x1 x2 x3 x4) := by
  unfold sX12_chain gX12_chain
  refine sm_bi (sX12_in_ok (yJ_i2l q1) (yJ_lit 2) (yJ_lit 8)) (fun _ c21 q21 => ?_)
  refine sm_if (sy_eq32 q21 (yI_lit 0)) ?_ ?_
  · exact sm_some ⟨(show yI (-2) 4294967294 from by unfold yI; decide), qt⟩
  · refine sm_bi (sX12_in_ok (yJ_i2l q3) (yJ_lit 1) (yJ_lit 4)) (fun _ c22 q22 => ?_)
    refine sm_if (sy_eq32 q22 (yI_lit 0)) ?_ ?_
    · exact sm_some ⟨(show yI (-2) 4294967294 from by unfold yI; decide), qt⟩
    · refine sm_bi (sX12_in_ok (yJ_i2l q4) (show yJ (-2) 18446744073709551614 from by unfold yJ; decide) (yJ_lit 2)) (fun _ c23 q23 => ?_)
      refine sm_if (sy_eq32 q23 (yI_lit 0)) ?_ ?_
      · exact sm_some ⟨(show yI (-2) 4294967294 from by unfold yI; decide), qt⟩
      · refine sm_wI hι qt q0 rfl q1 (fun _ t24 qt24 => ?_)
        refine sm_zb q2 ?_
        refine sm_wI hι qt24 q0 rfl q2 (fun _ t25 qt25 => ?_)
        refine sm_wI hι qt25 q0 rfl q3 (fun _ t26 qt26 => ?_)
        refine sm_wI hι qt26 q0 rfl q4 (fun _ t27 qt27 => ?_)
        refine sm_bV (sX12_acted_ok hι qt27 q0) (fun _ t28 qt28 => ?_)
        refine sm_bi (sX12_stateMany_ok hι qt28 q0) (fun _ c29 q29 => ?_)
        exact sm_some ⟨q29, qt28⟩
noncomputable def sX12_noState (e : Se) (t : Sy) (a0 : Nat) (c1 : Nat) : Option (Nat) :=
  sbi (sX12_stateMany e t a0) (fun c21 => sbi (sX12_in (sy2l c1) 0 (Nat.add (sy2l c21) (syn64 1))) (fun c22 => syc (Nat.beq (Nat.mod c22 4294967296) (Nat.mod 0 4294967296)) (some 1)
  (some 0)))
theorem sX12_noState_ok {ι : Nat → Nat} {e : Se} {h0 h : Zh} {t : Sy} (hι : ∀ a b, ι a = ι b → a = b) (qt : syR ι e h0 t h) {x0 : Nat} {a0 : Nat} {x1 : Int32} {c1 : Nat} (q0 : yA ι x0 a0) (q1 : yI x1 c1) : Sm (fun b a => yI a b) (sX12_noState e t a0 c1) (gX12_noState h x0 x1) := by
  unfold sX12_noState gX12_noState
  refine sm_bi (sX12_stateMany_ok hι qt q0) (fun _ c21 q21 => ?_)
  refine sm_bi (sX12_in_ok (yJ_i2l q1) (yJ_lit 0) (yJ_sub (yJ_i2l q21) (yJ_lit 1))) (fun _ c22 q22 => ?_)
  refine sm_if (sy_eq32 q22 (yI_lit 0)) ?_ ?_
  · exact sm_some (yI_lit 1)
  · exact sm_some (yI_lit 0)
noncomputable def sX12_areAlike (a0 : Nat) (c1 : Nat) (c2 : Nat) (c3 : Nat) : Option (Nat) :=
  syc (Nat.beq (Nat.mod (Nat.land (sysr c1 c2) 1) 4294967296) (Nat.mod (Nat.land (sysr c1 c3) 1) 4294967296)) (some 1)
  (some 0)
theorem sX12_areAlike_ok {ι : Nat → Nat} {x0 : Nat} {a0 : Nat} {x1 : Int32} {c1 : Nat} {x2 : Int32} {c2 : Nat} {x3 : Int32} {c3 : Nat} (q0 : yA ι x0 a0) (q1 : yI x1 c1) (q2 : yI x2 c2) (q3 : yI x3 c3) : Sm (fun b a => yI a b) (sX12_areAlike a0 c1 c2 c3) (gX12_areAlike x0 x1 x2 x3) := by
  unfold sX12_areAlike gX12_areAlike
  refine sm_if (sy_eq32 (yI_and (yI_shr q1 q2) (yI_lit 1)) (yI_and (yI_shr q1 q3) (yI_lit 1))) ?_ ?_
  · exact sm_some (yI_lit 1)
  · exact sm_some (yI_lit 0)
noncomputable def sX12_acts_J1 (c22 : Nat) (k23 : Nat → Nat → Option (Nat)) : Nat → Option (Nat) :=
  fun (c28 : Nat) => syf (Nat.add c22 1) (fun c29 => k23 c28 c29)
noncomputable def sX12_acts_J2 (c21 : Nat) (k30 : Nat → Option (Nat)) : Nat → Option (Nat) :=
  fun (c31 : Nat) => syf (Nat.add c21 c31) (fun c32 => k30 c32)
noncomputable def sX12_acts_J3 (c21 : Nat) (k30 : Nat → Option (Nat)) : Nat → Option (Nat) :=
  fun (c37 : Nat) => syf (Nat.add c21 c37) (fun c38 => k30 c38)
noncomputable def sX12_acts_L4 (e : Se) (t : Sy) (a0 : Nat) (c1 : Nat) (c2 : Nat) : (Nat → Nat → Option (Nat)) → Nat → Nat → Option (Nat) :=
  fun (k23 : Nat → Nat → Option (Nat)) (c21 : Nat) (c22 : Nat) => sbi (sX12_pairMany e t a0) (fun c24 => syc (Nat.ble (syo32 c24) (syo32 c22)) (some c21)
  (srI t a0 1 (fun c25 => syc (Nat.beq (Nat.mod c25 4294967296) (Nat.mod 0 4294967296)) none (syf (Nat.add (Nat.add c22 1) (syn32 (Nat.mul (syd 4294967296 (Nat.mod (Nat.add c22 1) 4294967296) (Nat.mod c25 4294967296)) c25))) (fun c26 => sbi (sX12_areAlike a0 c1 c22 c26) (fun c27 => zjn (sX12_acts_J1 c22 k23) (fun (k30 : Nat → Option (Nat)) =>
  syc (Nat.beq (Nat.mod c27 4294967296) (Nat.mod 0 4294967296)) (zjn (sX12_acts_J2 c21 k30) (fun (k33 : Nat → Option (Nat)) =>
  syc (Nat.beq (Nat.mod c1 4294967296) (Nat.mod c2 4294967296)) (srI t a0 4 (fun c35 => syf (syn32 c35) (fun c36 => k33 c36)))
  (syc (Nat.beq (Nat.mod (Nat.xor (Nat.xor c1 (Nat.shiftLeft 1 (Nat.mod c22 32))) (Nat.shiftLeft 1 (Nat.mod c26 32))) 4294967296) (Nat.mod c2 4294967296)) (srI t a0 3 (fun c34 => k33 c34))
  (k33 0))))
  (zjn (sX12_acts_J3 c21 k30) (fun (k39 : Nat → Option (Nat)) =>
  syc (Nat.beq (Nat.mod c1 4294967296) (Nat.mod c2 4294967296)) (srI t a0 4 (fun c40 => k39 c40))
  (k39 0))))))))))
noncomputable def sX12_acts (e : Se) (t : Sy) (a0 : Nat) (c1 : Nat) (c2 : Nat) : Option (Nat) :=
  syl (fun _ _ => (none : Option (Nat))) (sX12_acts_L4 e t a0 c1 c2) zFU 0 0
theorem sX12_acts_ok {ι : Nat → Nat} {e : Se} {h0 h : Zh} {t : Sy} (hι : ∀ a b, ι a = ι b → a = b) (qt : syR ι e h0 t h) {x0 : Nat} {a0 : Nat} {x1 : Int32} {c1 : Nat} {x2 : Int32} {c2 : Nat} (q0 : yA ι x0 a0) (q1 : yI x1 c1) (q2 : yI x2 c2) : Sm (fun b a => yI a b) (sX12_acts e t a0 c1 c2) (gX12_acts h x0 x1 x2) := by
  unfold sX12_acts gX12_acts
  refine sm_lp (fun (k' : Nat → Nat → Option (Nat)) (k : Int32 → Int32 → Option (Int32)) => ∀ (c21 : Nat) (x21 : Int32) (c22 : Nat) (x22 : Int32), yI x21 c21 → yI x22 c22 → Sm (fun b a => yI a b) (k' c21 c22) (k x21 x22)) ?_ ?_ zFU _ _ _ _ (yI_lit 0) (yI_lit 0)
  · exact fun _ _ _ _ _ _ => sm_none
  intro k23 gk23 hk23
  intro c21 x21 c22 x22 q21 q22
  unfold sX12_acts_L4 gX12_acts_L4
  refine sm_bi (sX12_pairMany_ok hι qt q0) (fun _ c24 q24 => ?_)
  refine sm_if (sy_le32 q24 q22) ?_ ?_
  · exact sm_some q21
  · refine sm_rI qt q0 rfl (fun c25 q25 => ?_)
    refine sm_if (sy_eq32 q25 (yI_lit 0)) sm_none ?_
    refine sm_lti (yI_sub (yI_add q22 (yI_lit 1)) (yI_mul (yI_div (yI_add q22 (yI_lit 1)) q25) q25)) (fun _ c26 q26 => ?_)
    refine sm_bi (sX12_areAlike_ok q0 q1 q22 q26) (fun _ c27 q27 => ?_)
    refine sm_jn (fun (k' : Nat → Option (Nat)) (k : Int32 → Option (Int32)) => ∀ (c28 : Nat) (x28 : Int32), yI x28 c28 → Sm (fun b a => yI a b) (k' c28) (k x28)) ?_ ?_
    · intro c28 x28 q28
      unfold sX12_acts_J1 gX12_acts_J1
      refine sm_f ?_
      exact hk23 _ _ _ _ q28 (yI_add q22 (yI_lit 1))
    intro k30 gk30 hk30
    refine sm_if (sy_eq32 q27 (yI_lit 0)) ?_ ?_
    · refine sm_jn (fun (k' : Nat → Option (Nat)) (k : Int32 → Option (Int32)) => ∀ (c31 : Nat) (x31 : Int32), yI x31 c31 → Sm (fun b a => yI a b) (k' c31) (k x31)) ?_ ?_
      · intro c31 x31 q31
        unfold sX12_acts_J2 gX12_acts_J2
        refine sm_lti (yI_add q21 q31) (fun _ c32 q32 => ?_)
        exact hk30 _ _ q32
      intro k33 gk33 hk33
      refine sm_if (sy_eq32 q1 q2) ?_ ?_
      · refine sm_rI qt q0 rfl (fun c35 q35 => ?_)
        refine sm_f ?_
        exact hk33 _ _ (yI_neg q35)
      · refine sm_if (sy_eq32 (yI_xor (yI_xor q1 (yI_shl (yI_lit 1) q22)) (yI_shl (yI_lit 1) q26)) q2) ?_ ?_
        · refine sm_rI qt q0 rfl (fun c34 q34 => ?_)
          exact hk33 _ _ q34
        · exact hk33 _ _ (yI_lit 0)
    · refine sm_jn (fun (k' : Nat → Option (Nat)) (k : Int32 → Option (Int32)) => ∀ (c37 : Nat) (x37 : Int32), yI x37 c37 → Sm (fun b a => yI a b) (k' c37) (k x37)) ?_ ?_
      · intro c37 x37 q37
        unfold sX12_acts_J3 gX12_acts_J3
        refine sm_lti (yI_add q21 q37) (fun _ c38 q38 => ?_)
        exact hk30 _ _ q38
      intro k39 gk39 hk39
      refine sm_if (sy_eq32 q1 q2) ?_ ?_
      · refine sm_rI qt q0 rfl (fun c40 q40 => ?_)
        exact hk39 _ _ q40
      · exact hk39 _ _ (yI_lit 0)
noncomputable def sX12_act_J1 : Option (Nat) :=
  sbj (sX12_lost ) (fun c22 => some c22)
noncomputable def sX12_act (e : Se) (t : Sy) (a0 : Nat) (c1 : Nat) (c2 : Nat) : Option (Nat) :=
  sbi (sX12_noState e t a0 c1) (fun c21 => zjn sX12_act_J1 (fun (k23 : Option (Nat)) =>
  syc (Nat.beq (Nat.mod c21 4294967296) (Nat.mod 0 4294967296)) (sbi (sX12_noState e t a0 c2) (fun c24 => syc (Nat.beq (Nat.mod c24 4294967296) (Nat.mod 0 4294967296)) (sbi (sX12_acts e t a0 c1 c2) (fun c25 => some (sy2l c25)))
  (k23)))
  (k23)))
theorem sX12_act_ok {ι : Nat → Nat} {e : Se} {h0 h : Zh} {t : Sy} (hι : ∀ a b, ι a = ι b → a = b) (qt : syR ι e h0 t h) {x0 : Nat} {a0 : Nat} {x1 : Int32} {c1 : Nat} {x2 : Int32} {c2 : Nat} (q0 : yA ι x0 a0) (q1 : yI x1 c1) (q2 : yI x2 c2) : Sm (fun b a => yJ a b) (sX12_act e t a0 c1 c2) (gX12_act h x0 x1 x2) := by
  unfold sX12_act gX12_act
  refine sm_bi (sX12_noState_ok hι qt q0 q1) (fun _ c21 q21 => ?_)
  refine sm_jn (fun (k' : Option (Nat)) (k : Option (Int64)) => Sm (fun b a => yJ a b) k' k) ?_ ?_
  · skip
    unfold sX12_act_J1 gX12_act_J1
    refine sm_bj (sX12_lost_ok ) (fun _ c22 q22 => ?_)
    exact sm_some q22
  intro k23 gk23 hk23
  refine sm_if (sy_eq32 q21 (yI_lit 0)) ?_ ?_
  · refine sm_bi (sX12_noState_ok hι qt q0 q2) (fun _ c24 q24 => ?_)
    refine sm_if (sy_eq32 q24 (yI_lit 0)) ?_ ?_
    · refine sm_bi (sX12_acts_ok hι qt q0 q1 q2) (fun _ c25 q25 => ?_)
      exact sm_some (yJ_i2l q25)
    · exact hk23
  · exact hk23
noncomputable def sX12_turnOf_J1 (c21 : Nat) (c22 : Nat) (k23 : Nat → Nat → Option (Nat)) : Nat → Option (Nat) :=
  fun (c26 : Nat) => syf (Nat.lor c21 c26) (fun c27 => syf (Nat.add c22 1) (fun c28 => k23 c27 c28))
noncomputable def sX12_turnOf_J2 (k29 : Nat → Option (Nat)) : Nat → Option (Nat) :=
  fun (c31 : Nat) => syf (Nat.shiftLeft 1 (Nat.mod c31 32)) (fun c32 => k29 c32)
noncomputable def sX12_turnOf_L3 (t : Sy) (a0 : Nat) (c1 : Nat) : (Nat → Nat → Option (Nat)) → Nat → Nat → Option (Nat) :=
  fun (k23 : Nat → Nat → Option (Nat)) (c21 : Nat) (c22 : Nat) => srI t a0 1 (fun c24 => syc (Nat.ble (syo32 c24) (syo32 c22)) (some c21)
  (sbi (sX12_hasBit c1 c22) (fun c25 => zjn (sX12_turnOf_J1 c21 c22 k23) (fun (k29 : Nat → Option (Nat)) =>
  syc (Nat.beq (Nat.mod c25 4294967296) (Nat.mod 0 4294967296)) (k29 0)
  (srI t a0 2 (fun c30 => zjn (sX12_turnOf_J2 k29) (fun (k33 : Nat → Option (Nat)) =>
  syc (Nat.beq (Nat.mod c30 4294967296) (Nat.mod 0 4294967296)) (srI t a0 1 (fun c34 => syf (Nat.add (Nat.add c34 (syn32 1)) (syn32 c22)) (fun c35 => k33 c35)))
  (srI t a0 1 (fun c36 => syc (Nat.beq (Nat.mod c36 4294967296) (Nat.mod 0 4294967296)) none (syf (Nat.add (Nat.add c22 1) (syn32 (Nat.mul (syd 4294967296 (Nat.mod (Nat.add c22 1) 4294967296) (Nat.mod c36 4294967296)) c36))) (fun c37 => k33 c37)))))))))))
noncomputable def sX12_turnOf (e : Se) (t : Sy) (a0 : Nat) (c1 : Nat) : Option (Nat) :=
  syl (fun _ _ => (none : Option (Nat))) (sX12_turnOf_L3 t a0 c1) zFU 0 0
theorem sX12_turnOf_ok {ι : Nat → Nat} {e : Se} {h0 h : Zh} {t : Sy} (hι : ∀ a b, ι a = ι b → a = b) (qt : syR ι e h0 t h) {x0 : Nat} {a0 : Nat} {x1 : Int32} {c1 : Nat} (q0 : yA ι x0 a0) (q1 : yI x1 c1) : Sm (fun b a => yI a b) (sX12_turnOf e t a0 c1) (gX12_turnOf h x0 x1) := by
  unfold sX12_turnOf gX12_turnOf
  refine sm_lp (fun (k' : Nat → Nat → Option (Nat)) (k : Int32 → Int32 → Option (Int32)) => ∀ (c21 : Nat) (x21 : Int32) (c22 : Nat) (x22 : Int32), yI x21 c21 → yI x22 c22 → Sm (fun b a => yI a b) (k' c21 c22) (k x21 x22)) ?_ ?_ zFU _ _ _ _ (yI_lit 0) (yI_lit 0)
  · exact fun _ _ _ _ _ _ => sm_none
  intro k23 gk23 hk23
  intro c21 x21 c22 x22 q21 q22
  unfold sX12_turnOf_L3 gX12_turnOf_L3
  refine sm_rI qt q0 rfl (fun c24 q24 => ?_)
  refine sm_if (sy_le32 q24 q22) ?_ ?_
  · exact sm_some q21
  · refine sm_bi (sX12_hasBit_ok q1 q22) (fun _ c25 q25 => ?_)
    refine sm_jn (fun (k' : Nat → Option (Nat)) (k : Int32 → Option (Int32)) => ∀ (c26 : Nat) (x26 : Int32), yI x26 c26 → Sm (fun b a => yI a b) (k' c26) (k x26)) ?_ ?_
    · intro c26 x26 q26
      unfold sX12_turnOf_J1 gX12_turnOf_J1
      refine sm_lti (yI_or q21 q26) (fun _ c27 q27 => ?_)
      refine sm_f ?_
      exact hk23 _ _ _ _ q27 (yI_add q22 (yI_lit 1))
    intro k29 gk29 hk29
    refine sm_if (sy_eq32 q25 (yI_lit 0)) ?_ ?_
    · exact hk29 _ _ (yI_lit 0)
    · refine sm_rI qt q0 rfl (fun c30 q30 => ?_)
      refine sm_jn (fun (k' : Nat → Option (Nat)) (k : Int32 → Option (Int32)) => ∀ (c31 : Nat) (x31 : Int32), yI x31 c31 → Sm (fun b a => yI a b) (k' c31) (k x31)) ?_ ?_
      · intro c31 x31 q31
        unfold sX12_turnOf_J2 gX12_turnOf_J2
        refine sm_f ?_
        exact hk29 _ _ (yI_shl (yI_lit 1) q31)
      intro k33 gk33 hk33
      refine sm_if (sy_eq32 q30 (yI_lit 0)) ?_ ?_
      · refine sm_rI qt q0 rfl (fun c34 q34 => ?_)
        refine sm_f ?_
        exact hk33 _ _ (yI_sub (yI_sub q34 (yI_lit 1)) q22)
      · refine sm_rI qt q0 rfl (fun c36 q36 => ?_)
        refine sm_if (sy_eq32 q36 (yI_lit 0)) sm_none ?_
        refine sm_f ?_
        exact hk33 _ _ (yI_sub (yI_add q22 (yI_lit 1)) (yI_mul (yI_div (yI_add q22 (yI_lit 1)) q36) q36))
noncomputable def sX12_turned (e : Se) (t : Sy) (a0 : Nat) (c1 : Nat) : Option (Nat) :=
  sbi (sX12_noState e t a0 c1) (fun c21 => syc (Nat.beq (Nat.mod c21 4294967296) (Nat.mod 0 4294967296)) (sbi (sX12_turnOf e t a0 c1) (fun c22 => some c22))
  (some 4294967294))
theorem sX12_turned_ok {ι : Nat → Nat} {e : Se} {h0 h : Zh} {t : Sy} (hι : ∀ a b, ι a = ι b → a = b) (qt : syR ι e h0 t h) {x0 : Nat} {a0 : Nat} {x1 : Int32} {c1 : Nat} (q0 : yA ι x0 a0) (q1 : yI x1 c1) : Sm (fun b a => yI a b) (sX12_turned e t a0 c1) (gX12_turned h x0 x1) := by
  unfold sX12_turned gX12_turned
  refine sm_bi (sX12_noState_ok hι qt q0 q1) (fun _ c21 q21 => ?_)
  refine sm_if (sy_eq32 q21 (yI_lit 0)) ?_ ?_
  · refine sm_bi (sX12_turnOf_ok hι qt q0 q1) (fun _ c22 q22 => ?_)
    exact sm_some q22
  · exact sm_some (show yI (-2) 4294967294 from by unfold yI; decide)
noncomputable def sX12_layOrbits_J1 (c23 : Nat) (k25 : Nat → Sy → Option (Sy)) : Sy → Option (Sy) :=
  fun (t28 : Sy) => syf (Nat.add c23 1) (fun c29 => k25 c29 t28)
noncomputable def sX12_layOrbits_J2 (e : Se) (a0 : Nat) (c23 : Nat) (k30 : Sy → Option (Sy)) (c36 : Nat) (c37 : Nat) : Sy → Option (Sy) :=
  fun (t38 : Sy) => syc (Nat.beq (Nat.mod c37 4294967296) (Nat.mod 0 4294967296)) (k30 t38)
  (srR t38 a0 6 (fun c39 => srI t38 a0 5 (fun c40 => syr c39 (fun a41 => syi e a41 c40 (fun p42 => swI e t38 a41 p42 c23 (fun t43 => srR t43 a0 9 (fun c44 => srI t43 a0 5 (fun c45 => syr c44 (fun a46 => syi e a46 c45 (fun p47 => swI e t43 a46 p47 c36 (fun t48 => srI t48 a0 5 (fun c49 => swI e t48 a0 5 (Nat.add c49 1) (fun t50 => k30 t50)))))))))))))
noncomputable def sX12_layOrbits_J3 (e : Se) (a0 : Nat) (c2 : Nat) (c52 : Nat) (c53 : Nat) (c54 : Nat) (t55 : Sy) (k56 : Nat → Nat → Nat → Sy → Option (Sy)) (c57 : Nat) : Nat → Option (Sy) :=
  fun (c58 : Nat) => syr c57 (fun a59 => syi e a59 c52 (fun p60 => swI e t55 a59 p60 c58 (fun t61 => srR t61 a0 8 (fun c62 => syr c62 (fun a63 => syi e a63 c52 (fun p64 => swI e t61 a63 p64 c53 (fun t65 => syf (Nat.mul c53 c2) (fun c66 => sbi (sX12_turnOf e t65 a0 c52) (fun c67 => syf (Nat.add c54 1) (fun c68 => k56 c67 c66 c68 t65))))))))))
noncomputable def sX12_layOrbits_L4 (e : Se) (a0 : Nat) (c2 : Nat) (c36 : Nat) (c37 : Nat) (k51 : Sy → Option (Sy)) : (Nat → Nat → Nat → Sy → Option (Sy)) → Nat → Nat → Nat → Sy → Option (Sy) :=
  fun (k56 : Nat → Nat → Nat → Sy → Option (Sy)) (c52 : Nat) (c53 : Nat) (c54 : Nat) (t55 : Sy) => syc (Nat.ble (syo32 c36) (syo32 c54)) (k51 t55)
  (srR t55 a0 7 (fun c57 => zjn (sX12_layOrbits_J3 e a0 c2 c52 c53 c54 t55 k56 c57) (fun (k69 : Nat → Option (Sy)) =>
  syc (Nat.beq (Nat.mod c37 4294967296) (Nat.mod 0 4294967296)) (k69 4294967287)
  (srI t55 a0 5 (fun c70 => k69 c70)))))
noncomputable def sX12_layOrbits_J5 (e : Se) (a0 : Nat) (c2 : Nat) (c23 : Nat) (t24 : Sy) (k30 : Sy → Option (Sy)) (c36 : Nat) : Nat → Option (Sy) :=
  fun (c37 : Nat) => zjn (sX12_layOrbits_J2 e a0 c23 k30 c36 c37) (fun (k51 : Sy → Option (Sy)) =>
  syl (fun _ _ _ _ => (none : Option (Sy))) (sX12_layOrbits_L4 e a0 c2 c36 c37 k51) zFU c23 1 0 t24)
noncomputable def sX12_layOrbits_J6 (k71 : Nat → Option (Sy)) : Option (Sy) :=
  k71 1
noncomputable def sX12_layOrbits_J7 (e : Se) (a0 : Nat) (c2 : Nat) (c23 : Nat) (t24 : Sy) (k30 : Sy → Option (Sy)) : Nat → Option (Sy) :=
  fun (c36 : Nat) => zjn (sX12_layOrbits_J5 e a0 c2 c23 t24 k30 c36) (fun (k71 : Nat → Option (Sy)) =>
  zjn (sX12_layOrbits_J6 k71) (fun (k72 : Option (Sy)) =>
  syc (Nat.beq (Nat.mod c2 4294967296) (Nat.mod 1 4294967296)) (k72)
  (syc (Nat.beq (Nat.mod 2 4294967296) (Nat.mod 0 4294967296)) none (syc (Nat.beq (Nat.mod (Nat.add c36 (syn32 (Nat.mul (syd 4294967296 (Nat.mod c36 4294967296) (Nat.mod 2 4294967296)) 2))) 4294967296) (Nat.mod 0 4294967296)) (k72)
  (k71 0)))))
noncomputable def sX12_layOrbits_L8 (e : Se) (a0 : Nat) (c23 : Nat) (t24 : Sy) (k73 : Nat → Option (Sy)) : (Nat → Nat → Option (Sy)) → Nat → Nat → Option (Sy) :=
  fun (k76 : Nat → Nat → Option (Sy)) (c74 : Nat) (c75 : Nat) => syc (Nat.beq (Nat.mod c75 4294967296) (Nat.mod c23 4294967296)) (k73 c74)
  (sbi (sX12_turnOf e t24 a0 c75) (fun c77 => syf (Nat.add c74 1) (fun c78 => k76 c78 c77)))
noncomputable def sX12_layOrbits_L9 (e : Se) (a0 : Nat) (c1 : Nat) (c2 : Nat) : (Nat → Sy → Option (Sy)) → Nat → Sy → Option (Sy) :=
  fun (k25 : Nat → Sy → Option (Sy)) (c23 : Nat) (t24 : Sy) => sbi (sX12_stateMany e t24 a0) (fun c26 => syc (Nat.ble (syo32 c26) (syo32 c23)) (some t24)
  (sbi (sX12_count c23) (fun c27 => zjn (sX12_layOrbits_J1 c23 k25) (fun (k30 : Sy → Option (Sy)) =>
  syc (Nat.beq (Nat.mod c27 4294967296) (Nat.mod c1 4294967296)) (srR t24 a0 7 (fun c31 => syr c31 (fun a32 => syi e a32 c23 (fun p33 => srI t24 a32 p33 (fun c34 => syc (Nat.beq (Nat.mod c34 4294967296) (Nat.mod 4294967295 4294967296)) (sbi (sX12_turnOf e t24 a0 c23) (fun c35 => zjn (sX12_layOrbits_J7 e a0 c2 c23 t24 k30) (fun (k73 : Nat → Option (Sy)) =>
  syl (fun _ _ => (none : Option (Sy))) (sX12_layOrbits_L8 e a0 c23 t24 k73) zFU 1 c35)))
  (k30 t24))))))
  (k30 t24)))))
noncomputable def sX12_layOrbits_J10 (e : Se) (a0 : Nat) (c1 : Nat) (c2 : Nat) : Sy → Option (Sy) :=
  fun (t22 : Sy) => syl (fun _ _ => (none : Option (Sy))) (sX12_layOrbits_L9 e a0 c1 c2) zFU 0 t22
noncomputable def sX12_layOrbits_L11 (e : Se) (a0 : Nat) (k79 : Sy → Option (Sy)) : (Nat → Sy → Option (Sy)) → Nat → Sy → Option (Sy) :=
  fun (k82 : Nat → Sy → Option (Sy)) (c80 : Nat) (t81 : Sy) => sbi (sX12_stateMany e t81 a0) (fun c83 => syc (Nat.ble (syo32 c83) (syo32 c80)) (k79 t81)
  (srR t81 a0 7 (fun c84 => syr c84 (fun a85 => syi e a85 c80 (fun p86 => swI e t81 a85 p86 4294967295 (fun t87 => syf (Nat.add c80 1) (fun c88 => k82 c88 t87)))))))
noncomputable def sX12_layOrbits (e : Se) (t : Sy) (a0 : Nat) (c1 : Nat) (c2 : Nat) : Option (Sy) :=
  swI e t a0 5 0 (fun t21 => zjn (sX12_layOrbits_J10 e a0 c1 c2) (fun (k79 : Sy → Option (Sy)) =>
  syl (fun _ _ => (none : Option (Sy))) (sX12_layOrbits_L11 e a0 k79) zFU 0 t21))
theorem sX12_layOrbits_ok {ι : Nat → Nat} {e : Se} {h0 h : Zh} {t : Sy} (hι : ∀ a b, ι a = ι b → a = b) (qt : syR ι e h0 t h) {x0 : Nat} {a0 : Nat} {x1 : Int32} {c1 : Nat} {x2 : Int32} {c2 : Nat} (q0 : yA ι x0 a0) (q1 : yI x1 c1) (q2 : yI x2 c2) : Sm (fun b a => syR ι e h0 b a) (sX12_layOrbits e t a0 c1 c2) (gX12_layOrbits h x0 x1 x2) := by
  unfold sX12_layOrbits gX12_layOrbits
  refine sm_wI hι qt q0 rfl (yI_lit 0) (fun _ t21 qt21 => ?_)
  refine sm_jn (fun (k' : Sy → Option (Sy)) (k : Zh → Option (Zh)) => ∀ (t22 : Sy) (h22 : Zh), syR ι e h0 t22 h22 → Sm (fun b a => syR ι e h0 b a) (k' t22) (k h22)) ?_ ?_
  · intro t22 h22 qt22
    unfold sX12_layOrbits_J10 gX12_layOrbits_J10
    refine sm_lp (fun (k' : Nat → Sy → Option (Sy)) (k : Int32 → Zh → Option (Zh)) => ∀ (c23 : Nat) (x23 : Int32) (t24 : Sy) (h24 : Zh), yI x23 c23 → syR ι e h0 t24 h24 → Sm (fun b a => syR ι e h0 b a) (k' c23 t24) (k x23 h24)) ?_ ?_ zFU _ _ _ _ (yI_lit 0) qt22
    · exact fun _ _ _ _ _ _ => sm_none
    intro k25 gk25 hk25
    intro c23 x23 t24 h24 q23 qt24
    unfold sX12_layOrbits_L9 gX12_layOrbits_L9
    refine sm_bi (sX12_stateMany_ok hι qt24 q0) (fun _ c26 q26 => ?_)
    refine sm_if (sy_le32 q26 q23) ?_ ?_
    · exact sm_some qt24
    · refine sm_bi (sX12_count_ok q23) (fun _ c27 q27 => ?_)
      refine sm_jn (fun (k' : Sy → Option (Sy)) (k : Zh → Option (Zh)) => ∀ (t28 : Sy) (h28 : Zh), syR ι e h0 t28 h28 → Sm (fun b a => syR ι e h0 b a) (k' t28) (k h28)) ?_ ?_
      · intro t28 h28 qt28
        unfold sX12_layOrbits_J1 gX12_layOrbits_J1
        refine sm_f ?_
        exact hk25 _ _ _ _ (yI_add q23 (yI_lit 1)) qt28
      intro k30 gk30 hk30
      refine sm_if (sy_eq32 q27 q1) ?_ ?_
      · refine sm_rR qt24 q0 rfl (fun _ c31 q31 => ?_)
        refine sm_dr q31 (fun _ a32 q32 => ?_)
        refine sm_in qt24 q32 q23 (fun p33 q33 => ?_)
        refine sm_rI qt24 q32 q33 (fun c34 q34 => ?_)
        refine sm_if (sy_eq32 q34 (show yI (-1) 4294967295 from by unfold yI; decide)) ?_ ?_
        · refine sm_bi (sX12_turnOf_ok hι qt24 q0 q23) (fun _ c35 q35 => ?_)
          refine sm_jn (fun (k' : Nat → Option (Sy)) (k : Int32 → Option (Zh)) => ∀ (c36 : Nat) (x36 : Int32), yI x36 c36 → Sm (fun b a => syR ι e h0 b a) (k' c36) (k x36)) ?_ ?_
          · intro c36 x36 q36
            unfold sX12_layOrbits_J7 gX12_layOrbits_J7
            refine sm_jn (fun (k' : Nat → Option (Sy)) (k : Int32 → Option (Zh)) => ∀ (c37 : Nat) (x37 : Int32), yI x37 c37 → Sm (fun b a => syR ι e h0 b a) (k' c37) (k x37)) ?_ ?_
            · intro c37 x37 q37
              unfold sX12_layOrbits_J5 gX12_layOrbits_J5
              refine sm_jn (fun (k' : Sy → Option (Sy)) (k : Zh → Option (Zh)) => ∀ (t38 : Sy) (h38 : Zh), syR ι e h0 t38 h38 → Sm (fun b a => syR ι e h0 b a) (k' t38) (k h38)) ?_ ?_
              · intro t38 h38 qt38
                unfold sX12_layOrbits_J2 gX12_layOrbits_J2
                refine sm_if (sy_eq32 q37 (yI_lit 0)) ?_ ?_
                · exact hk30 _ _ qt38
                · refine sm_rR qt38 q0 rfl (fun _ c39 q39 => ?_)
                  refine sm_rI qt38 q0 rfl (fun c40 q40 => ?_)
                  refine sm_dr q39 (fun _ a41 q41 => ?_)
                  refine sm_in qt38 q41 q40 (fun p42 q42 => ?_)
                  refine sm_wI hι qt38 q41 q42 q23 (fun _ t43 qt43 => ?_)
                  refine sm_rR qt43 q0 rfl (fun _ c44 q44 => ?_)
                  refine sm_rI qt43 q0 rfl (fun c45 q45 => ?_)
                  refine sm_dr q44 (fun _ a46 q46 => ?_)
                  refine sm_in qt43 q46 q45 (fun p47 q47 => ?_)
                  refine sm_wI hι qt43 q46 q47 q36 (fun _ t48 qt48 => ?_)
                  refine sm_rI qt48 q0 rfl (fun c49 q49 => ?_)
                  refine sm_wI hι qt48 q0 rfl (yI_add q49 (yI_lit 1)) (fun _ t50 qt50 => ?_)
                  exact hk30 _ _ qt50
              intro k51 gk51 hk51
              refine sm_lp (fun (k' : Nat → Nat → Nat → Sy → Option (Sy)) (k : Int32 → Int32 → Int32 → Zh → Option (Zh)) => ∀ (c52 : Nat) (x52 : Int32) (c53 : Nat) (x53 : Int32) (c54 : Nat) (x54 : Int32) (t55 : Sy) (h55 : Zh), yI x52 c52 → yI x53 c53 → yI x54 c54 → syR ι e h0 t55 h55 → Sm (fun b a => syR ι e h0 b a) (k' c52 c53 c54 t55) (k x52 x53 x54 h55)) ?_ ?_ zFU _ _ _ _ _ _ _ _ q23 (yI_lit 1) (yI_lit 0) qt24
              · exact fun _ _ _ _ _ _ _ _ _ _ _ _ => sm_none
              intro k56 gk56 hk56
              intro c52 x52 c53 x53 c54 x54 t55 h55 q52 q53 q54 qt55
              unfold sX12_layOrbits_L4 gX12_layOrbits_L4
              refine sm_if (sy_le32 q36 q54) ?_ ?_
              · exact hk51 _ _ qt55
              · refine sm_rR qt55 q0 rfl (fun _ c57 q57 => ?_)
                refine sm_jn (fun (k' : Nat → Option (Sy)) (k : Int32 → Option (Zh)) => ∀ (c58 : Nat) (x58 : Int32), yI x58 c58 → Sm (fun b a => syR ι e h0 b a) (k' c58) (k x58)) ?_ ?_
                · intro c58 x58 q58
                  unfold sX12_layOrbits_J3 gX12_layOrbits_J3
                  refine sm_dr q57 (fun _ a59 q59 => ?_)
                  refine sm_in qt55 q59 q52 (fun p60 q60 => ?_)
                  refine sm_wI hι qt55 q59 q60 q58 (fun _ t61 qt61 => ?_)
                  refine sm_rR qt61 q0 rfl (fun _ c62 q62 => ?_)
                  refine sm_dr q62 (fun _ a63 q63 => ?_)
                  refine sm_in qt61 q63 q52 (fun p64 q64 => ?_)
                  refine sm_wI hι qt61 q63 q64 q53 (fun _ t65 qt65 => ?_)
                  refine sm_lti (yI_mul q53 q2) (fun _ c66 q66 => ?_)
                  refine sm_bi (sX12_turnOf_ok hι qt65 q0 q52) (fun _ c67 q67 => ?_)
                  refine sm_f ?_
                  exact hk56 _ _ _ _ _ _ _ _ q67 q66 (yI_add q54 (yI_lit 1)) qt65
                intro k69 gk69 hk69
                refine sm_if (sy_eq32 q37 (yI_lit 0)) ?_ ?_
                · exact hk69 _ _ (show yI (-9) 4294967287 from by unfold yI; decide)
                · refine sm_rI qt55 q0 rfl (fun c70 q70 => ?_)
                  exact hk69 _ _ q70
            intro k71 gk71 hk71
            refine sm_jn (fun (k' : Option (Sy)) (k : Option (Zh)) => Sm (fun b a => syR ι e h0 b a) k' k) ?_ ?_
            · skip
              unfold sX12_layOrbits_J6 gX12_layOrbits_J6
              exact hk71 _ _ (yI_lit 1)
            intro k72 gk72 hk72
            refine sm_if (sy_eq32 q2 (yI_lit 1)) ?_ ?_
            · exact hk72
            · refine sm_if (sy_eq32 (yI_lit 2) (yI_lit 0)) sm_none ?_
              refine sm_if (sy_eq32 (yI_sub q36 (yI_mul (yI_div q36 (yI_lit 2)) (yI_lit 2))) (yI_lit 0)) ?_ ?_
              · exact hk72
              · exact hk71 _ _ (yI_lit 0)
          intro k73 gk73 hk73
          refine sm_lp (fun (k' : Nat → Nat → Option (Sy)) (k : Int32 → Int32 → Option (Zh)) => ∀ (c74 : Nat) (x74 : Int32) (c75 : Nat) (x75 : Int32), yI x74 c74 → yI x75 c75 → Sm (fun b a => syR ι e h0 b a) (k' c74 c75) (k x74 x75)) ?_ ?_ zFU _ _ _ _ (yI_lit 1) q35
          · exact fun _ _ _ _ _ _ => sm_none
          intro k76 gk76 hk76
          intro c74 x74 c75 x75 q74 q75
          unfold sX12_layOrbits_L8 gX12_layOrbits_L8
          refine sm_if (sy_eq32 q75 q23) ?_ ?_
          · exact hk73 _ _ q74
          · refine sm_bi (sX12_turnOf_ok hι qt24 q0 q75) (fun _ c77 q77 => ?_)
            refine sm_f ?_
            exact hk76 _ _ _ _ (yI_add q74 (yI_lit 1)) q77
        · exact hk30 _ _ qt24
      · exact hk30 _ _ qt24
  intro k79 gk79 hk79
  refine sm_lp (fun (k' : Nat → Sy → Option (Sy)) (k : Int32 → Zh → Option (Zh)) => ∀ (c80 : Nat) (x80 : Int32) (t81 : Sy) (h81 : Zh), yI x80 c80 → syR ι e h0 t81 h81 → Sm (fun b a => syR ι e h0 b a) (k' c80 t81) (k x80 h81)) ?_ ?_ zFU _ _ _ _ (yI_lit 0) qt21
  · exact fun _ _ _ _ _ _ => sm_none
  intro k82 gk82 hk82
  intro c80 x80 t81 h81 q80 qt81
  unfold sX12_layOrbits_L11 gX12_layOrbits_L11
  refine sm_bi (sX12_stateMany_ok hι qt81 q0) (fun _ c83 q83 => ?_)
  refine sm_if (sy_le32 q83 q80) ?_ ?_
  · exact hk79 _ _ qt81
  · refine sm_rR qt81 q0 rfl (fun _ c84 q84 => ?_)
    refine sm_dr q84 (fun _ a85 q85 => ?_)
    refine sm_in qt81 q85 q80 (fun p86 q86 => ?_)
    refine sm_wI hι qt81 q85 q86 (show yI (-1) 4294967295 from by unfold yI; decide) (fun _ t87 qt87 => ?_)
    refine sm_f ?_
    exact hk82 _ _ _ _ (yI_add q80 (yI_lit 1)) qt87
noncomputable def sX12_noSector_J1 : Option (Nat) :=
  some 1
noncomputable def sX12_noSector_J2 : Option (Nat) :=
  some 0
noncomputable def sX12_noSector (e : Se) (t : Sy) (a0 : Nat) (c1 : Nat) (c2 : Nat) : Option (Nat) :=
  srI t a0 1 (fun c21 => sbi (sX12_in (sy2l c1) 0 (sy2l c21)) (fun c22 => zjn sX12_noSector_J1 (fun (k23 : Option (Nat)) =>
  syc (Nat.beq (Nat.mod c22 4294967296) (Nat.mod 0 4294967296)) (k23)
  (zjn sX12_noSector_J2 (fun (k24 : Option (Nat)) =>
  syc (Nat.beq (Nat.mod c2 4294967296) (Nat.mod 1 4294967296)) (k24)
  (syc (Nat.beq (Nat.mod c2 4294967296) (Nat.mod 4294967295 4294967296)) (k24)
  (k23)))))))
theorem sX12_noSector_ok {ι : Nat → Nat} {e : Se} {h0 h : Zh} {t : Sy} (hι : ∀ a b, ι a = ι b → a = b) (qt : syR ι e h0 t h) {x0 : Nat} {a0 : Nat} {x1 : Int32} {c1 : Nat} {x2 : Int32} {c2 : Nat} (q0 : yA ι x0 a0) (q1 : yI x1 c1) (q2 : yI x2 c2) : Sm (fun b a => yI a b) (sX12_noSector e t a0 c1 c2) (gX12_noSector h x0 x1 x2) := by
  unfold sX12_noSector gX12_noSector
  refine sm_rI qt q0 rfl (fun c21 q21 => ?_)
  refine sm_bi (sX12_in_ok (yJ_i2l q1) (yJ_lit 0) (yJ_i2l q21)) (fun _ c22 q22 => ?_)
  refine sm_jn (fun (k' : Option (Nat)) (k : Option (Int32)) => Sm (fun b a => yI a b) k' k) ?_ ?_
  · skip
    unfold sX12_noSector_J1 gX12_noSector_J1
    exact sm_some (yI_lit 1)
  intro k23 gk23 hk23
  refine sm_if (sy_eq32 q22 (yI_lit 0)) ?_ ?_
  · exact hk23
  · refine sm_jn (fun (k' : Option (Nat)) (k : Option (Int32)) => Sm (fun b a => yI a b) k' k) ?_ ?_
    · skip
      unfold sX12_noSector_J2 gX12_noSector_J2
      exact sm_some (yI_lit 0)
    intro k24 gk24 hk24
    refine sm_if (sy_eq32 q2 (yI_lit 1)) ?_ ?_
    · exact hk24
    · refine sm_if (sy_eq32 q2 (show yI (-1) 4294967295 from by unfold yI; decide)) ?_ ?_
      · exact hk24
      · exact hk23
noncomputable def sX12_size (e : Se) (t : Sy) (a0 : Nat) (c1 : Nat) (c2 : Nat) : Option (Nat × Sy) :=
  sbi (sX12_noSector e t a0 c1 c2) (fun c21 => syc (Nat.beq (Nat.mod c21 4294967296) (Nat.mod 0 4294967296)) (sbV (sX12_layOrbits e t a0 c1 c2) (fun t22 => srI t22 a0 5 (fun c23 => some (c23, t22))))
  (some (4294967294, t)))
theorem sX12_size_ok {ι : Nat → Nat} {e : Se} {h0 h : Zh} {t : Sy} (hι : ∀ a b, ι a = ι b → a = b) (qt : syR ι e h0 t h) {x0 : Nat} {a0 : Nat} {x1 : Int32} {c1 : Nat} {x2 : Int32} {c2 : Nat} (q0 : yA ι x0 a0) (q1 : yI x1 c1) (q2 : yI x2 c2) : Sm (fun b a => yI a.1 b.1 ∧ syR ι e h0 b.2 a.2) (sX12_size e t a0 c1 c2) (gX12_size h x0 x1 x2) := by
  unfold sX12_size gX12_size
  refine sm_bi (sX12_noSector_ok hι qt q0 q1 q2) (fun _ c21 q21 => ?_)
  refine sm_if (sy_eq32 q21 (yI_lit 0)) ?_ ?_
  · refine sm_bV (sX12_layOrbits_ok hι qt q0 q1 q2) (fun _ t22 qt22 => ?_)
    refine sm_rI qt22 q0 rfl (fun c23 q23 => ?_)
    exact sm_some ⟨q23, qt22⟩
  · exact sm_some ⟨(show yI (-2) 4294967294 from by unfold yI; decide), qt⟩
noncomputable def sX12_head (e : Se) (t : Sy) (a0 : Nat) (c1 : Nat) (c2 : Nat) (c3 : Nat) : Option (Nat × Sy) :=
  sbi (sX12_noSector e t a0 c1 c2) (fun c21 => syc (Nat.beq (Nat.mod c21 4294967296) (Nat.mod 0 4294967296)) (sbV (sX12_layOrbits e t a0 c1 c2) (fun t22 => srI t22 a0 5 (fun c23 => sbi (sX12_in (sy2l c3) 0 (Nat.add (sy2l c23) (syn64 1))) (fun c24 => syc (Nat.beq (Nat.mod c24 4294967296) (Nat.mod 0 4294967296)) (some (4294967295, t22))
  (srR t22 a0 6 (fun c25 => syr c25 (fun a26 => syi e a26 c3 (fun p27 => srI t22 a26 p27 (fun c28 => some (c28, t22))))))))))
  (some (4294967294, t)))
theorem sX12_head_ok {ι : Nat → Nat} {e : Se} {h0 h : Zh} {t : Sy} (hι : ∀ a b, ι a = ι b → a = b) (qt : syR ι e h0 t h) {x0 : Nat} {a0 : Nat} {x1 : Int32} {c1 : Nat} {x2 : Int32} {c2 : Nat} {x3 : Int32} {c3 : Nat} (q0 : yA ι x0 a0) (q1 : yI x1 c1) (q2 : yI x2 c2) (q3 : yI x3 c3) : Sm (fun b a => yI a.1 b.1 ∧ syR ι e h0 b.2 a.2) (sX12_head e t a0 c1 c2 c3) (gX12_head h x0 x1 x2 x3) := by
  unfold sX12_head gX12_head
  refine sm_bi (sX12_noSector_ok hι qt q0 q1 q2) (fun _ c21 q21 => ?_)
  refine sm_if (sy_eq32 q21 (yI_lit 0)) ?_ ?_
  · refine sm_bV (sX12_layOrbits_ok hι qt q0 q1 q2) (fun _ t22 qt22 => ?_)
    refine sm_rI qt22 q0 rfl (fun c23 q23 => ?_)
    refine sm_bi (sX12_in_ok (yJ_i2l q3) (yJ_lit 0) (yJ_sub (yJ_i2l q23) (yJ_lit 1))) (fun _ c24 q24 => ?_)
    refine sm_if (sy_eq32 q24 (yI_lit 0)) ?_ ?_
    · exact sm_some ⟨(show yI (-1) 4294967295 from by unfold yI; decide), qt22⟩
    · refine sm_rR qt22 q0 rfl (fun _ c25 q25 => ?_)
      refine sm_dr q25 (fun _ a26 q26 => ?_)
      refine sm_in qt22 q26 q3 (fun p27 q27 => ?_)
      refine sm_rI qt22 q26 q27 (fun c28 q28 => ?_)
      exact sm_some ⟨q28, qt22⟩
  · exact sm_some ⟨(show yI (-2) 4294967294 from by unfold yI; decide), qt⟩
noncomputable def sX12_layTable_J1 (c22 : Nat) (k24 : Nat → Sy → Option (Sy)) : Sy → Option (Sy) :=
  fun (t26 : Sy) => syf (Nat.add c22 1) (fun c27 => k24 c27 t26)
noncomputable def sX12_layTable_L2 (e : Se) (a0 : Nat) (c22 : Nat) (k28 : Sy → Option (Sy)) : (Nat → Sy → Option (Sy)) → Nat → Sy → Option (Sy) :=
  fun (k31 : Nat → Sy → Option (Sy)) (c29 : Nat) (t30 : Sy) => srI t30 a0 5 (fun c32 => syc (Nat.ble (syo32 c32) (syo32 c29)) (k28 t30)
  (srR t30 a0 7 (fun c33 => syr c33 (fun a34 => syi e a34 c22 (fun p35 => srI t30 a34 p35 (fun c36 => syc (Nat.ble (Nat.succ (syo32 c36)) (syo32 0)) (k28 t30)
  (srR t30 a0 10 (fun c37 => srR t30 a0 7 (fun c38 => syr c38 (fun a39 => syi e a39 c22 (fun p40 => srI t30 a39 p40 (fun c41 => syf (Nat.add (Nat.mul 10 c29) c41) (fun c42 => syr c37 (fun a43 => syi e a43 c42 (fun p44 => srJ t30 a43 p44 (fun c45 => srR t30 a0 8 (fun c46 => syr c46 (fun a47 => syi e a47 c22 (fun p48 => srI t30 a47 p48 (fun c49 => srR t30 a0 6 (fun c50 => syr c50 (fun a51 => syi e a51 c29 (fun p52 => srI t30 a51 p52 (fun c53 => sbi (sX12_acts e t30 a0 c22 c53) (fun c54 => syi e a43 c42 (fun p55 => swJ e t30 a43 p55 (Nat.add c45 (sy2l (Nat.mul c49 c54))) (fun t56 => syf (Nat.add c29 1) (fun c57 => k31 c57 t56))))))))))))))))))))))))))))
noncomputable def sX12_layTable_L3 (e : Se) (a0 : Nat) : (Nat → Sy → Option (Sy)) → Nat → Sy → Option (Sy) :=
  fun (k24 : Nat → Sy → Option (Sy)) (c22 : Nat) (t23 : Sy) => sbi (sX12_stateMany e t23 a0) (fun c25 => syc (Nat.ble (syo32 c25) (syo32 c22)) (some t23)
  (zjn (sX12_layTable_J1 c22 k24) (fun (k28 : Sy → Option (Sy)) =>
  syl (fun _ _ => (none : Option (Sy))) (sX12_layTable_L2 e a0 c22 k28) zFU 0 t23)))
noncomputable def sX12_layTable_J4 (e : Se) (a0 : Nat) : Sy → Option (Sy) :=
  fun (t21 : Sy) => syl (fun _ _ => (none : Option (Sy))) (sX12_layTable_L3 e a0) zFU 0 t21
noncomputable def sX12_layTable_L5 (e : Se) (a0 : Nat) (k58 : Sy → Option (Sy)) : (Nat → Sy → Option (Sy)) → Nat → Sy → Option (Sy) :=
  fun (k61 : Nat → Sy → Option (Sy)) (c59 : Nat) (t60 : Sy) => syc (Nat.ble (syo32 100) (syo32 c59)) (k58 t60)
  (srR t60 a0 10 (fun c62 => syr c62 (fun a63 => syi e a63 c59 (fun p64 => swJ e t60 a63 p64 0 (fun t65 => syf (Nat.add c59 1) (fun c66 => k61 c66 t65))))))
noncomputable def sX12_layTable (e : Se) (t : Sy) (a0 : Nat) : Option (Sy) :=
  zjn (sX12_layTable_J4 e a0) (fun (k58 : Sy → Option (Sy)) =>
  syl (fun _ _ => (none : Option (Sy))) (sX12_layTable_L5 e a0 k58) zFU 0 t)
theorem sX12_layTable_ok {ι : Nat → Nat} {e : Se} {h0 h : Zh} {t : Sy} (hι : ∀ a b, ι a = ι b → a = b) (qt : syR ι e h0 t h) {x0 : Nat} {a0 : Nat} (q0 : yA ι x0 a0) : Sm (fun b a => syR ι e h0 b a) (sX12_layTable e t a0) (gX12_layTable h x0) := by
  unfold sX12_layTable gX12_layTable
  refine sm_jn (fun (k' : Sy → Option (Sy)) (k : Zh → Option (Zh)) => ∀ (t21 : Sy) (h21 : Zh), syR ι e h0 t21 h21 → Sm (fun b a => syR ι e h0 b a) (k' t21) (k h21)) ?_ ?_
  · intro t21 h21 qt21
    unfold sX12_layTable_J4 gX12_layTable_J4
    refine sm_lp (fun (k' : Nat → Sy → Option (Sy)) (k : Int32 → Zh → Option (Zh)) => ∀ (c22 : Nat) (x22 : Int32) (t23 : Sy) (h23 : Zh), yI x22 c22 → syR ι e h0 t23 h23 → Sm (fun b a => syR ι e h0 b a) (k' c22 t23) (k x22 h23)) ?_ ?_ zFU _ _ _ _ (yI_lit 0) qt21
    · exact fun _ _ _ _ _ _ => sm_none
    intro k24 gk24 hk24
    intro c22 x22 t23 h23 q22 qt23
    unfold sX12_layTable_L3 gX12_layTable_L3
    refine sm_bi (sX12_stateMany_ok hι qt23 q0) (fun _ c25 q25 => ?_)
    refine sm_if (sy_le32 q25 q22) ?_ ?_
    · exact sm_some qt23
    · refine sm_jn (fun (k' : Sy → Option (Sy)) (k : Zh → Option (Zh)) => ∀ (t26 : Sy) (h26 : Zh), syR ι e h0 t26 h26 → Sm (fun b a => syR ι e h0 b a) (k' t26) (k h26)) ?_ ?_
      · intro t26 h26 qt26
        unfold sX12_layTable_J1 gX12_layTable_J1
        refine sm_f ?_
        exact hk24 _ _ _ _ (yI_add q22 (yI_lit 1)) qt26
      intro k28 gk28 hk28
      refine sm_lp (fun (k' : Nat → Sy → Option (Sy)) (k : Int32 → Zh → Option (Zh)) => ∀ (c29 : Nat) (x29 : Int32) (t30 : Sy) (h30 : Zh), yI x29 c29 → syR ι e h0 t30 h30 → Sm (fun b a => syR ι e h0 b a) (k' c29 t30) (k x29 h30)) ?_ ?_ zFU _ _ _ _ (yI_lit 0) qt23
      · exact fun _ _ _ _ _ _ => sm_none
      intro k31 gk31 hk31
      intro c29 x29 t30 h30 q29 qt30
      unfold sX12_layTable_L2 gX12_layTable_L2
      refine sm_rI qt30 q0 rfl (fun c32 q32 => ?_)
      refine sm_if (sy_le32 q32 q29) ?_ ?_
      · exact hk28 _ _ qt30
      · refine sm_rR qt30 q0 rfl (fun _ c33 q33 => ?_)
        refine sm_dr q33 (fun _ a34 q34 => ?_)
        refine sm_in qt30 q34 q22 (fun p35 q35 => ?_)
        refine sm_rI qt30 q34 q35 (fun c36 q36 => ?_)
        refine sm_if (sy_lt32 q36 (yI_lit 0)) ?_ ?_
        · exact hk28 _ _ qt30
        · refine sm_rR qt30 q0 rfl (fun _ c37 q37 => ?_)
          refine sm_rR qt30 q0 rfl (fun _ c38 q38 => ?_)
          refine sm_dr q38 (fun _ a39 q39 => ?_)
          refine sm_in qt30 q39 q22 (fun p40 q40 => ?_)
          refine sm_rI qt30 q39 q40 (fun c41 q41 => ?_)
          refine sm_lti (yI_add (yI_mul (yI_lit 10) q29) q41) (fun _ c42 q42 => ?_)
          refine sm_dr q37 (fun _ a43 q43 => ?_)
          refine sm_in qt30 q43 q42 (fun p44 q44 => ?_)
          refine sm_rJ qt30 q43 q44 (fun c45 q45 => ?_)
          refine sm_rR qt30 q0 rfl (fun _ c46 q46 => ?_)
          refine sm_dr q46 (fun _ a47 q47 => ?_)
          refine sm_in qt30 q47 q22 (fun p48 q48 => ?_)
          refine sm_rI qt30 q47 q48 (fun c49 q49 => ?_)
          refine sm_rR qt30 q0 rfl (fun _ c50 q50 => ?_)
          refine sm_dr q50 (fun _ a51 q51 => ?_)
          refine sm_in qt30 q51 q29 (fun p52 q52 => ?_)
          refine sm_rI qt30 q51 q52 (fun c53 q53 => ?_)
          refine sm_bi (sX12_acts_ok hι qt30 q0 q22 q53) (fun _ c54 q54 => ?_)
          refine sm_in qt30 q43 q42 (fun p55 q55 => ?_)
          refine sm_wJ hι qt30 q43 q55 (yJ_add q45 (yJ_i2l (yI_mul q49 q54))) (fun _ t56 qt56 => ?_)
          refine sm_f ?_
          exact hk31 _ _ _ _ (yI_add q29 (yI_lit 1)) qt56
  intro k58 gk58 hk58
  refine sm_lp (fun (k' : Nat → Sy → Option (Sy)) (k : Int32 → Zh → Option (Zh)) => ∀ (c59 : Nat) (x59 : Int32) (t60 : Sy) (h60 : Zh), yI x59 c59 → syR ι e h0 t60 h60 → Sm (fun b a => syR ι e h0 b a) (k' c59 t60) (k x59 h60)) ?_ ?_ zFU _ _ _ _ (yI_lit 0) qt
  · exact fun _ _ _ _ _ _ => sm_none
  intro k61 gk61 hk61
  intro c59 x59 t60 h60 q59 qt60
  unfold sX12_layTable_L5 gX12_layTable_L5
  refine sm_if (sy_le32 (yI_lit 100) q59) ?_ ?_
  · exact hk58 _ _ qt60
  · refine sm_rR qt60 q0 rfl (fun _ c62 q62 => ?_)
    refine sm_dr q62 (fun _ a63 q63 => ?_)
    refine sm_in qt60 q63 q59 (fun p64 q64 => ?_)
    refine sm_wJ hι qt60 q63 q64 (yJ_lit 0) (fun _ t65 qt65 => ?_)
    refine sm_f ?_
    exact hk61 _ _ _ _ (yI_add q59 (yI_lit 1)) qt65
noncomputable def sX12_timesTable_L1 (e : Se) (a0 : Nat) : (Nat → Sy → Option (Sy)) → Nat → Sy → Option (Sy) :=
  fun (k24 : Nat → Sy → Option (Sy)) (c22 : Nat) (t23 : Sy) => syc (Nat.ble (syo32 100) (syo32 c22)) (some t23)
  (srR t23 a0 12 (fun c25 => srR t23 a0 13 (fun c26 => syr c26 (fun a27 => syi e a27 c22 (fun p28 => srJ t23 a27 p28 (fun c29 => syr c25 (fun a30 => syi e a30 c22 (fun p31 => swJ e t23 a30 p31 c29 (fun t32 => syf (Nat.add c22 1) (fun c33 => k24 c33 t32))))))))))
noncomputable def sX12_timesTable_J2 (e : Se) (a0 : Nat) : Sy → Option (Sy) :=
  fun (t21 : Sy) => syl (fun _ _ => (none : Option (Sy))) (sX12_timesTable_L1 e a0) zFU 0 t21
noncomputable def sX12_timesTable_J3 (c35 : Nat) (k37 : Nat → Sy → Option (Sy)) : Sy → Option (Sy) :=
  fun (t39 : Sy) => syf (Nat.add c35 1) (fun c40 => k37 c40 t39)
noncomputable def sX12_timesTable_J4 (e : Se) (a0 : Nat) (c35 : Nat) (c42 : Nat) (t43 : Sy) (k44 : Nat → Sy → Option (Sy)) : Nat → Option (Sy) :=
  fun (c46 : Nat) => srR t43 a0 13 (fun c47 => syr c47 (fun a48 => syi e a48 (Nat.add (Nat.mul 10 c35) c42) (fun p49 => swJ e t43 a48 p49 c46 (fun t50 => syf (Nat.add c42 1) (fun c51 => k44 c51 t50)))))
noncomputable def sX12_timesTable_L5 (e : Se) (a0 : Nat) (c35 : Nat) (c42 : Nat) (t43 : Sy) (k52 : Nat → Option (Sy)) : (Nat → Nat → Option (Sy)) → Nat → Nat → Option (Sy) :=
  fun (k55 : Nat → Nat → Option (Sy)) (c53 : Nat) (c54 : Nat) => srI t43 a0 5 (fun c56 => syc (Nat.ble (syo32 c56) (syo32 c54)) (k52 c53)
  (srR t43 a0 10 (fun c57 => syr c57 (fun a58 => syi e a58 (Nat.add (Nat.mul 10 c35) c54) (fun p59 => srJ t43 a58 p59 (fun c60 => srR t43 a0 12 (fun c61 => syr c61 (fun a62 => syi e a62 (Nat.add (Nat.mul 10 c54) c42) (fun p63 => srJ t43 a62 p63 (fun c64 => syf (Nat.add c53 (Nat.mul c60 c64)) (fun c65 => syf (Nat.add c54 1) (fun c66 => k55 c65 c66))))))))))))
noncomputable def sX12_timesTable_L6 (e : Se) (a0 : Nat) (c35 : Nat) (k41 : Sy → Option (Sy)) : (Nat → Sy → Option (Sy)) → Nat → Sy → Option (Sy) :=
  fun (k44 : Nat → Sy → Option (Sy)) (c42 : Nat) (t43 : Sy) => srI t43 a0 5 (fun c45 => syc (Nat.ble (syo32 c45) (syo32 c42)) (k41 t43)
  (zjn (sX12_timesTable_J4 e a0 c35 c42 t43 k44) (fun (k52 : Nat → Option (Sy)) =>
  syl (fun _ _ => (none : Option (Sy))) (sX12_timesTable_L5 e a0 c35 c42 t43 k52) zFU 0 0)))
noncomputable def sX12_timesTable_L7 (e : Se) (a0 : Nat) (k34 : Sy → Option (Sy)) : (Nat → Sy → Option (Sy)) → Nat → Sy → Option (Sy) :=
  fun (k37 : Nat → Sy → Option (Sy)) (c35 : Nat) (t36 : Sy) => srI t36 a0 5 (fun c38 => syc (Nat.ble (syo32 c38) (syo32 c35)) (k34 t36)
  (zjn (sX12_timesTable_J3 c35 k37) (fun (k41 : Sy → Option (Sy)) =>
  syl (fun _ _ => (none : Option (Sy))) (sX12_timesTable_L6 e a0 c35 k41) zFU 0 t36)))
noncomputable def sX12_timesTable (e : Se) (t : Sy) (a0 : Nat) : Option (Sy) :=
  zjn (sX12_timesTable_J2 e a0) (fun (k34 : Sy → Option (Sy)) =>
  syl (fun _ _ => (none : Option (Sy))) (sX12_timesTable_L7 e a0 k34) zFU 0 t)
theorem sX12_timesTable_ok {ι : Nat → Nat} {e : Se} {h0 h : Zh} {t : Sy} (hι : ∀ a b, ι a = ι b → a = b) (qt : syR ι e h0 t h) {x0 : Nat} {a0 : Nat} (q0 : yA ι x0 a0) : Sm (fun b a => syR ι e h0 b a) (sX12_timesTable e t a0) (gX12_timesTable h x0) := by
  unfold sX12_timesTable gX12_timesTable
  refine sm_jn (fun (k' : Sy → Option (Sy)) (k : Zh → Option (Zh)) => ∀ (t21 : Sy) (h21 : Zh), syR ι e h0 t21 h21 → Sm (fun b a => syR ι e h0 b a) (k' t21) (k h21)) ?_ ?_
  · intro t21 h21 qt21
    unfold sX12_timesTable_J2 gX12_timesTable_J2
    refine sm_lp (fun (k' : Nat → Sy → Option (Sy)) (k : Int32 → Zh → Option (Zh)) => ∀ (c22 : Nat) (x22 : Int32) (t23 : Sy) (h23 : Zh), yI x22 c22 → syR ι e h0 t23 h23 → Sm (fun b a => syR ι e h0 b a) (k' c22 t23) (k x22 h23)) ?_ ?_ zFU _ _ _ _ (yI_lit 0) qt21
    · exact fun _ _ _ _ _ _ => sm_none
    intro k24 gk24 hk24
    intro c22 x22 t23 h23 q22 qt23
    unfold sX12_timesTable_L1 gX12_timesTable_L1
    refine sm_if (sy_le32 (yI_lit 100) q22) ?_ ?_
    · exact sm_some qt23
    · refine sm_rR qt23 q0 rfl (fun _ c25 q25 => ?_)
      refine sm_rR qt23 q0 rfl (fun _ c26 q26 => ?_)
      refine sm_dr q26 (fun _ a27 q27 => ?_)
      refine sm_in qt23 q27 q22 (fun p28 q28 => ?_)
      refine sm_rJ qt23 q27 q28 (fun c29 q29 => ?_)
      refine sm_dr q25 (fun _ a30 q30 => ?_)
      refine sm_in qt23 q30 q22 (fun p31 q31 => ?_)
      refine sm_wJ hι qt23 q30 q31 q29 (fun _ t32 qt32 => ?_)
      refine sm_f ?_
      exact hk24 _ _ _ _ (yI_add q22 (yI_lit 1)) qt32
  intro k34 gk34 hk34
  refine sm_lp (fun (k' : Nat → Sy → Option (Sy)) (k : Int32 → Zh → Option (Zh)) => ∀ (c35 : Nat) (x35 : Int32) (t36 : Sy) (h36 : Zh), yI x35 c35 → syR ι e h0 t36 h36 → Sm (fun b a => syR ι e h0 b a) (k' c35 t36) (k x35 h36)) ?_ ?_ zFU _ _ _ _ (yI_lit 0) qt
  · exact fun _ _ _ _ _ _ => sm_none
  intro k37 gk37 hk37
  intro c35 x35 t36 h36 q35 qt36
  unfold sX12_timesTable_L7 gX12_timesTable_L7
  refine sm_rI qt36 q0 rfl (fun c38 q38 => ?_)
  refine sm_if (sy_le32 q38 q35) ?_ ?_
  · exact hk34 _ _ qt36
  · refine sm_jn (fun (k' : Sy → Option (Sy)) (k : Zh → Option (Zh)) => ∀ (t39 : Sy) (h39 : Zh), syR ι e h0 t39 h39 → Sm (fun b a => syR ι e h0 b a) (k' t39) (k h39)) ?_ ?_
    · intro t39 h39 qt39
      unfold sX12_timesTable_J3 gX12_timesTable_J3
      refine sm_f ?_
      exact hk37 _ _ _ _ (yI_add q35 (yI_lit 1)) qt39
    intro k41 gk41 hk41
    refine sm_lp (fun (k' : Nat → Sy → Option (Sy)) (k : Int32 → Zh → Option (Zh)) => ∀ (c42 : Nat) (x42 : Int32) (t43 : Sy) (h43 : Zh), yI x42 c42 → syR ι e h0 t43 h43 → Sm (fun b a => syR ι e h0 b a) (k' c42 t43) (k x42 h43)) ?_ ?_ zFU _ _ _ _ (yI_lit 0) qt36
    · exact fun _ _ _ _ _ _ => sm_none
    intro k44 gk44 hk44
    intro c42 x42 t43 h43 q42 qt43
    unfold sX12_timesTable_L6 gX12_timesTable_L6
    refine sm_rI qt43 q0 rfl (fun c45 q45 => ?_)
    refine sm_if (sy_le32 q45 q42) ?_ ?_
    · exact hk41 _ _ qt43
    · refine sm_jn (fun (k' : Nat → Option (Sy)) (k : Int64 → Option (Zh)) => ∀ (c46 : Nat) (x46 : Int64), yJ x46 c46 → Sm (fun b a => syR ι e h0 b a) (k' c46) (k x46)) ?_ ?_
      · intro c46 x46 q46
        unfold sX12_timesTable_J4 gX12_timesTable_J4
        refine sm_rR qt43 q0 rfl (fun _ c47 q47 => ?_)
        refine sm_dr q47 (fun _ a48 q48 => ?_)
        refine sm_in qt43 q48 (yI_add (yI_mul (yI_lit 10) q35) q42) (fun p49 q49 => ?_)
        refine sm_wJ hι qt43 q48 q49 q46 (fun _ t50 qt50 => ?_)
        refine sm_f ?_
        exact hk44 _ _ _ _ (yI_add q42 (yI_lit 1)) qt50
      intro k52 gk52 hk52
      refine sm_lp (fun (k' : Nat → Nat → Option (Sy)) (k : Int64 → Int32 → Option (Zh)) => ∀ (c53 : Nat) (x53 : Int64) (c54 : Nat) (x54 : Int32), yJ x53 c53 → yI x54 c54 → Sm (fun b a => syR ι e h0 b a) (k' c53 c54) (k x53 x54)) ?_ ?_ zFU _ _ _ _ (yJ_lit 0) (yI_lit 0)
      · exact fun _ _ _ _ _ _ => sm_none
      intro k55 gk55 hk55
      intro c53 x53 c54 x54 q53 q54
      unfold sX12_timesTable_L5 gX12_timesTable_L5
      refine sm_rI qt43 q0 rfl (fun c56 q56 => ?_)
      refine sm_if (sy_le32 q56 q54) ?_ ?_
      · exact hk52 _ _ q53
      · refine sm_rR qt43 q0 rfl (fun _ c57 q57 => ?_)
        refine sm_dr q57 (fun _ a58 q58 => ?_)
        refine sm_in qt43 q58 (yI_add (yI_mul (yI_lit 10) q35) q54) (fun p59 q59 => ?_)
        refine sm_rJ qt43 q58 q59 (fun c60 q60 => ?_)
        refine sm_rR qt43 q0 rfl (fun _ c61 q61 => ?_)
        refine sm_dr q61 (fun _ a62 q62 => ?_)
        refine sm_in qt43 q62 (yI_add (yI_mul (yI_lit 10) q54) q42) (fun p63 q63 => ?_)
        refine sm_rJ qt43 q62 q63 (fun c64 q64 => ?_)
        refine sm_ltj (yJ_add q53 (yJ_mul q60 q64)) (fun _ c65 q65 => ?_)
        refine sm_f ?_
        exact hk55 _ _ _ _ q65 (yI_add q54 (yI_lit 1))
noncomputable def sX12_unitPower_J1 (e : Se) (c21 : Nat) (t22 : Sy) (k23 : Nat → Sy → Option (Sy)) (c24 : Nat) : Nat → Option (Sy) :=
  fun (c25 : Nat) => syr c24 (fun a26 => syi e a26 c21 (fun p27 => swJ e t22 a26 p27 c25 (fun t28 => syf (Nat.add c21 1) (fun c29 => k23 c29 t28))))
noncomputable def sX12_unitPower_L2 (e : Se) (a0 : Nat) : (Nat → Sy → Option (Sy)) → Nat → Sy → Option (Sy) :=
  fun (k23 : Nat → Sy → Option (Sy)) (c21 : Nat) (t22 : Sy) => syc (Nat.ble (syo32 100) (syo32 c21)) (some t22)
  (srR t22 a0 12 (fun c24 => syc (Nat.beq (Nat.mod 11 4294967296) (Nat.mod 0 4294967296)) none (zjn (sX12_unitPower_J1 e c21 t22 k23 c24) (fun (k30 : Nat → Option (Sy)) =>
  syc (Nat.beq (Nat.mod (Nat.add c21 (syn32 (Nat.mul (syd 4294967296 (Nat.mod c21 4294967296) (Nat.mod 11 4294967296)) 11))) 4294967296) (Nat.mod 0 4294967296)) (k30 1)
  (k30 0)))))
noncomputable def sX12_unitPower (e : Se) (t : Sy) (a0 : Nat) : Option (Sy) :=
  syl (fun _ _ => (none : Option (Sy))) (sX12_unitPower_L2 e a0) zFU 0 t
theorem sX12_unitPower_ok {ι : Nat → Nat} {e : Se} {h0 h : Zh} {t : Sy} (hι : ∀ a b, ι a = ι b → a = b) (qt : syR ι e h0 t h) {x0 : Nat} {a0 : Nat} (q0 : yA ι x0 a0) : Sm (fun b a => syR ι e h0 b a) (sX12_unitPower e t a0) (gX12_unitPower h x0) := by
  unfold sX12_unitPower gX12_unitPower
  refine sm_lp (fun (k' : Nat → Sy → Option (Sy)) (k : Int32 → Zh → Option (Zh)) => ∀ (c21 : Nat) (x21 : Int32) (t22 : Sy) (h22 : Zh), yI x21 c21 → syR ι e h0 t22 h22 → Sm (fun b a => syR ι e h0 b a) (k' c21 t22) (k x21 h22)) ?_ ?_ zFU _ _ _ _ (yI_lit 0) qt
  · exact fun _ _ _ _ _ _ => sm_none
  intro k23 gk23 hk23
  intro c21 x21 t22 h22 q21 qt22
  unfold sX12_unitPower_L2 gX12_unitPower_L2
  refine sm_if (sy_le32 (yI_lit 100) q21) ?_ ?_
  · exact sm_some qt22
  · refine sm_rR qt22 q0 rfl (fun _ c24 q24 => ?_)
    refine sm_if (sy_eq32 (yI_lit 11) (yI_lit 0)) sm_none ?_
    refine sm_jn (fun (k' : Nat → Option (Sy)) (k : Int64 → Option (Zh)) => ∀ (c25 : Nat) (x25 : Int64), yJ x25 c25 → Sm (fun b a => syR ι e h0 b a) (k' c25) (k x25)) ?_ ?_
    · intro c25 x25 q25
      unfold sX12_unitPower_J1 gX12_unitPower_J1
      refine sm_dr q24 (fun _ a26 q26 => ?_)
      refine sm_in qt22 q26 q21 (fun p27 q27 => ?_)
      refine sm_wJ hι qt22 q26 q27 q25 (fun _ t28 qt28 => ?_)
      refine sm_f ?_
      exact hk23 _ _ _ _ (yI_add q21 (yI_lit 1)) qt28
    intro k30 gk30 hk30
    refine sm_if (sy_eq32 (yI_sub q21 (yI_mul (yI_div q21 (yI_lit 11)) (yI_lit 11))) (yI_lit 0)) ?_ ?_
    · exact hk30 _ _ (yJ_lit 1)
    · exact hk30 _ _ (yJ_lit 0)
noncomputable def sX12_sumOfPower_L1 (e : Se) (t : Sy) (a0 : Nat) : (Nat → Nat → Option (Nat)) → Nat → Nat → Option (Nat) :=
  fun (k23 : Nat → Nat → Option (Nat)) (c21 : Nat) (c22 : Nat) => srI t a0 5 (fun c24 => syc (Nat.ble (syo32 c24) (syo32 c22)) (some c21)
  (srR t a0 12 (fun c25 => syr c25 (fun a26 => syi e a26 (Nat.mul 11 c22) (fun p27 => srJ t a26 p27 (fun c28 => syf (Nat.add c21 c28) (fun c29 => syf (Nat.add c22 1) (fun c30 => k23 c29 c30))))))))
noncomputable def sX12_sumOfPower (e : Se) (t : Sy) (a0 : Nat) : Option (Nat) :=
  syl (fun _ _ => (none : Option (Nat))) (sX12_sumOfPower_L1 e t a0) zFU 0 0
theorem sX12_sumOfPower_ok {ι : Nat → Nat} {e : Se} {h0 h : Zh} {t : Sy} (hι : ∀ a b, ι a = ι b → a = b) (qt : syR ι e h0 t h) {x0 : Nat} {a0 : Nat} (q0 : yA ι x0 a0) : Sm (fun b a => yJ a b) (sX12_sumOfPower e t a0) (gX12_sumOfPower h x0) := by
  unfold sX12_sumOfPower gX12_sumOfPower
  refine sm_lp (fun (k' : Nat → Nat → Option (Nat)) (k : Int64 → Int32 → Option (Int64)) => ∀ (c21 : Nat) (x21 : Int64) (c22 : Nat) (x22 : Int32), yJ x21 c21 → yI x22 c22 → Sm (fun b a => yJ a b) (k' c21 c22) (k x21 x22)) ?_ ?_ zFU _ _ _ _ (yJ_lit 0) (yI_lit 0)
  · exact fun _ _ _ _ _ _ => sm_none
  intro k23 gk23 hk23
  intro c21 x21 c22 x22 q21 q22
  unfold sX12_sumOfPower_L1 gX12_sumOfPower_L1
  refine sm_rI qt q0 rfl (fun c24 q24 => ?_)
  refine sm_if (sy_le32 q24 q22) ?_ ?_
  · exact sm_some q21
  · refine sm_rR qt q0 rfl (fun _ c25 q25 => ?_)
    refine sm_dr q25 (fun _ a26 q26 => ?_)
    refine sm_in qt q26 (yI_mul (yI_lit 11) q22) (fun p27 q27 => ?_)
    refine sm_rJ qt q26 q27 (fun c28 q28 => ?_)
    refine sm_ltj (yJ_add q21 q28) (fun _ c29 q29 => ?_)
    refine sm_f ?_
    exact hk23 _ _ _ _ q29 (yI_add q22 (yI_lit 1))
noncomputable def sX12_layPolynomial_J1 (c28 : Nat) (k30 : Nat → Sy → Option (Sy)) : Sy → Option (Sy) :=
  fun (t37 : Sy) => syf (Nat.add c28 1) (fun c38 => k30 c38 t37)
noncomputable def sX12_layPolynomial_L2 (e : Se) (a0 : Nat) (c21 : Nat) (c28 : Nat) (k39 : Sy → Option (Sy)) : (Nat → Sy → Option (Sy)) → Nat → Sy → Option (Sy) :=
  fun (k42 : Nat → Sy → Option (Sy)) (c40 : Nat) (t41 : Sy) => syc (Nat.ble (syo32 c21) (syo32 c40)) (k39 t41)
  (srR t41 a0 12 (fun c43 => syf (Nat.mul 11 c40) (fun c44 => syr c43 (fun a45 => syi e a45 c44 (fun p46 => srJ t41 a45 p46 (fun c47 => srR t41 a0 11 (fun c48 => syr c48 (fun a49 => syi e a49 (Nat.add c21 (syn32 c28)) (fun p50 => srJ t41 a49 p50 (fun c51 => syi e a45 c44 (fun p52 => swJ e t41 a45 p52 (Nat.add c47 c51) (fun t53 => syf (Nat.add c40 1) (fun c54 => k42 c54 t53)))))))))))))
noncomputable def sX12_layPolynomial_L3 (e : Se) (a0 : Nat) (c21 : Nat) : (Nat → Sy → Option (Sy)) → Nat → Sy → Option (Sy) :=
  fun (k30 : Nat → Sy → Option (Sy)) (c28 : Nat) (t29 : Sy) => syc (Nat.ble (Nat.succ (syo32 c21)) (syo32 c28)) (some t29)
  (sbV (sX12_timesTable e t29 a0) (fun t31 => srR t31 a0 11 (fun c32 => sbj (sX12_sumOfPower e t31 a0) (fun c33 => syc (Nat.beq (Nat.mod (sy2l c28) 18446744073709551616) (Nat.mod 0 18446744073709551616)) none (syr c32 (fun a34 => syi e a34 (Nat.add c21 (syn32 c28)) (fun p35 => swJ e t31 a34 p35 (syd 18446744073709551616 (Nat.mod (syn64 c33) 18446744073709551616) (Nat.mod (sy2l c28) 18446744073709551616)) (fun t36 => zjn (sX12_layPolynomial_J1 c28 k30) (fun (k39 : Sy → Option (Sy)) =>
  syl (fun _ _ => (none : Option (Sy))) (sX12_layPolynomial_L2 e a0 c21 c28 k39) zFU 0 t36)))))))))
noncomputable def sX12_layPolynomial (e : Se) (t : Sy) (a0 : Nat) : Option (Sy) :=
  srI t a0 5 (fun c21 => sbV (sX12_unitPower e t a0) (fun t23 => srR t23 a0 11 (fun c24 => syr c24 (fun a25 => syi e a25 c21 (fun p26 => swJ e t23 a25 p26 1 (fun t27 => syl (fun _ _ => (none : Option (Sy))) (sX12_layPolynomial_L3 e a0 c21) zFU 1 t27))))))
theorem sX12_layPolynomial_ok {ι : Nat → Nat} {e : Se} {h0 h : Zh} {t : Sy} (hι : ∀ a b, ι a = ι b → a = b) (qt : syR ι e h0 t h) {x0 : Nat} {a0 : Nat} (q0 : yA ι x0 a0) : Sm (fun b a => syR ι e h0 b a) (sX12_layPolynomial e t a0) (gX12_layPolynomial h x0) := by
  unfold sX12_layPolynomial gX12_layPolynomial
  refine sm_rI qt q0 rfl (fun c21 q21 => ?_)
  refine sm_lt0i q21 (fun _ q22 => ?_)
  refine sm_bV (sX12_unitPower_ok hι qt q0) (fun _ t23 qt23 => ?_)
  refine sm_rR qt23 q0 rfl (fun _ c24 q24 => ?_)
  refine sm_dr q24 (fun _ a25 q25 => ?_)
  refine sm_in qt23 q25 q22 (fun p26 q26 => ?_)
  refine sm_wJ hι qt23 q25 q26 (yJ_lit 1) (fun _ t27 qt27 => ?_)
  refine sm_lp (fun (k' : Nat → Sy → Option (Sy)) (k : Int32 → Zh → Option (Zh)) => ∀ (c28 : Nat) (x28 : Int32) (t29 : Sy) (h29 : Zh), yI x28 c28 → syR ι e h0 t29 h29 → Sm (fun b a => syR ι e h0 b a) (k' c28 t29) (k x28 h29)) ?_ ?_ zFU _ _ _ _ (yI_lit 1) qt27
  · exact fun _ _ _ _ _ _ => sm_none
  intro k30 gk30 hk30
  intro c28 x28 t29 h29 q28 qt29
  unfold sX12_layPolynomial_L3 gX12_layPolynomial_L3
  refine sm_if (sy_lt32 q22 q28) ?_ ?_
  · exact sm_some qt29
  · refine sm_bV (sX12_timesTable_ok hι qt29 q0) (fun _ t31 qt31 => ?_)
    refine sm_rR qt31 q0 rfl (fun _ c32 q32 => ?_)
    refine sm_bj (sX12_sumOfPower_ok hι qt31 q0) (fun _ c33 q33 => ?_)
    refine sm_if (sy_eq64 (yJ_i2l q28) (yJ_lit 0)) sm_none ?_
    refine sm_dr q32 (fun _ a34 q34 => ?_)
    refine sm_in qt31 q34 (yI_sub q22 q28) (fun p35 q35 => ?_)
    refine sm_wJ hι qt31 q34 q35 (yJ_div (yJ_neg q33) (yJ_i2l q28)) (fun _ t36 qt36 => ?_)
    refine sm_jn (fun (k' : Sy → Option (Sy)) (k : Zh → Option (Zh)) => ∀ (t37 : Sy) (h37 : Zh), syR ι e h0 t37 h37 → Sm (fun b a => syR ι e h0 b a) (k' t37) (k h37)) ?_ ?_
    · intro t37 h37 qt37
      unfold sX12_layPolynomial_J1 gX12_layPolynomial_J1
      refine sm_f ?_
      exact hk30 _ _ _ _ (yI_add q28 (yI_lit 1)) qt37
    intro k39 gk39 hk39
    refine sm_lp (fun (k' : Nat → Sy → Option (Sy)) (k : Int32 → Zh → Option (Zh)) => ∀ (c40 : Nat) (x40 : Int32) (t41 : Sy) (h41 : Zh), yI x40 c40 → syR ι e h0 t41 h41 → Sm (fun b a => syR ι e h0 b a) (k' c40 t41) (k x40 h41)) ?_ ?_ zFU _ _ _ _ (yI_lit 0) qt36
    · exact fun _ _ _ _ _ _ => sm_none
    intro k42 gk42 hk42
    intro c40 x40 t41 h41 q40 qt41
    unfold sX12_layPolynomial_L2 gX12_layPolynomial_L2
    refine sm_if (sy_le32 q22 q40) ?_ ?_
    · exact hk39 _ _ qt41
    · refine sm_rR qt41 q0 rfl (fun _ c43 q43 => ?_)
      refine sm_lti (yI_mul (yI_lit 11) q40) (fun _ c44 q44 => ?_)
      refine sm_dr q43 (fun _ a45 q45 => ?_)
      refine sm_in qt41 q45 q44 (fun p46 q46 => ?_)
      refine sm_rJ qt41 q45 q46 (fun c47 q47 => ?_)
      refine sm_rR qt41 q0 rfl (fun _ c48 q48 => ?_)
      refine sm_dr q48 (fun _ a49 q49 => ?_)
      refine sm_in qt41 q49 (yI_sub q22 q28) (fun p50 q50 => ?_)
      refine sm_rJ qt41 q49 q50 (fun c51 q51 => ?_)
      refine sm_in qt41 q45 q44 (fun p52 q52 => ?_)
      refine sm_wJ hι qt41 q45 q52 (yJ_add q47 q51) (fun _ t53 qt53 => ?_)
      refine sm_f ?_
      exact hk42 _ _ _ _ (yI_add q40 (yI_lit 1)) qt53
noncomputable def sX12_laySector (e : Se) (t : Sy) (a0 : Nat) (c1 : Nat) (c2 : Nat) : Option (Nat × Sy) :=
  sbi (sX12_noSector e t a0 c1 c2) (fun c21 => syc (Nat.beq (Nat.mod c21 4294967296) (Nat.mod 0 4294967296)) (sbV (sX12_layOrbits e t a0 c1 c2) (fun t22 => srI t22 a0 5 (fun c23 => syc (Nat.ble (syo32 c23) (syo32 10)) (sbV (sX12_layTable e t22 a0) (fun t24 => some (0, t24)))
  (some (4294967290, t22)))))
  (some (4294967294, t)))
theorem sX12_laySector_ok {ι : Nat → Nat} {e : Se} {h0 h : Zh} {t : Sy} (hι : ∀ a b, ι a = ι b → a = b) (qt : syR ι e h0 t h) {x0 : Nat} {a0 : Nat} {x1 : Int32} {c1 : Nat} {x2 : Int32} {c2 : Nat} (q0 : yA ι x0 a0) (q1 : yI x1 c1) (q2 : yI x2 c2) : Sm (fun b a => yI a.1 b.1 ∧ syR ι e h0 b.2 a.2) (sX12_laySector e t a0 c1 c2) (gX12_laySector h x0 x1 x2) := by
  unfold sX12_laySector gX12_laySector
  refine sm_bi (sX12_noSector_ok hι qt q0 q1 q2) (fun _ c21 q21 => ?_)
  refine sm_if (sy_eq32 q21 (yI_lit 0)) ?_ ?_
  · refine sm_bV (sX12_layOrbits_ok hι qt q0 q1 q2) (fun _ t22 qt22 => ?_)
    refine sm_rI qt22 q0 rfl (fun c23 q23 => ?_)
    refine sm_if (sy_le32 q23 (yI_lit 10)) ?_ ?_
    · refine sm_bV (sX12_layTable_ok hι qt22 q0) (fun _ t24 qt24 => ?_)
      exact sm_some ⟨(yI_lit 0), qt24⟩
    · exact sm_some ⟨(show yI (-6) 4294967290 from by unfold yI; decide), qt22⟩
  · exact sm_some ⟨(show yI (-2) 4294967294 from by unfold yI; decide), qt⟩
noncomputable def sX12_entry_J1 (e : Se) (a0 : Nat) (c3 : Nat) (c4 : Nat) (t21 : Sy) : Nat → Option (Nat × Sy) :=
  fun (c22 : Nat) => syc (Nat.beq (Nat.mod c22 4294967296) (Nat.mod 0 4294967296)) (srR t21 a0 10 (fun c23 => syr c23 (fun a24 => syi e a24 (Nat.add (Nat.mul 10 c3) c4) (fun p25 => srJ t21 a24 p25 (fun c26 => some (c26, t21))))))
  (sbj (sX12_lost ) (fun c27 => some (c27, t21)))
noncomputable def sX12_entry_J2 (k28 : Nat → Option (Nat × Sy)) : Option (Nat × Sy) :=
  k28 1
noncomputable def sX12_entry (e : Se) (t : Sy) (a0 : Nat) (c1 : Nat) (c2 : Nat) (c3 : Nat) (c4 : Nat) : Option (Nat × Sy) :=
  sbI (sX12_laySector e t a0 c1 c2) (fun c21 t21 => zjn (sX12_entry_J1 e a0 c3 c4 t21) (fun (k28 : Nat → Option (Nat × Sy)) =>
  zjn (sX12_entry_J2 k28) (fun (k29 : Option (Nat × Sy)) =>
  syc (Nat.ble (Nat.succ (syo32 c21)) (syo32 0)) (k29)
  (srI t21 a0 5 (fun c30 => sbi (sX12_in (sy2l c3) 0 (Nat.add (sy2l c30) (syn64 1))) (fun c31 => syc (Nat.beq (Nat.mod c31 4294967296) (Nat.mod 0 4294967296)) (k29)
  (srI t21 a0 5 (fun c32 => sbi (sX12_in (sy2l c4) 0 (Nat.add (sy2l c32) (syn64 1))) (fun c33 => syc (Nat.beq (Nat.mod c33 4294967296) (Nat.mod 0 4294967296)) (k29)
  (k28 0))))))))))
theorem sX12_entry_ok {ι : Nat → Nat} {e : Se} {h0 h : Zh} {t : Sy} (hι : ∀ a b, ι a = ι b → a = b) (qt : syR ι e h0 t h) {x0 : Nat} {a0 : Nat} {x1 : Int32} {c1 : Nat} {x2 : Int32} {c2 : Nat} {x3 : Int32} {c3 : Nat} {x4 : Int32} {c4 : Nat} (q0 : yA ι x0 a0) (q1 : yI x1 c1) (q2 : yI x2 c2) (q3 : yI x3 c3) (q4 : yI x4 c4) : Sm (fun b a => yJ a.1 b.1 ∧ syR ι e h0 b.2 a.2) (sX12_entry e t a0 c1 c2 c3 c4) (gX12_entry h x0 x1 x2 x3 x4) := by
  unfold sX12_entry gX12_entry
  refine sm_bI (sX12_laySector_ok hι qt q0 q1 q2) (fun _ c21 q21 _ t21 qt21 => ?_)
  refine sm_jn (fun (k' : Nat → Option (Nat × Sy)) (k : Int32 → Option (Int64 × Zh)) => ∀ (c22 : Nat) (x22 : Int32), yI x22 c22 → Sm (fun b a => yJ a.1 b.1 ∧ syR ι e h0 b.2 a.2) (k' c22) (k x22)) ?_ ?_
  · intro c22 x22 q22
    unfold sX12_entry_J1 gX12_entry_J1
    refine sm_if (sy_eq32 q22 (yI_lit 0)) ?_ ?_
    · refine sm_rR qt21 q0 rfl (fun _ c23 q23 => ?_)
      refine sm_dr q23 (fun _ a24 q24 => ?_)
      refine sm_in qt21 q24 (yI_add (yI_mul (yI_lit 10) q3) q4) (fun p25 q25 => ?_)
      refine sm_rJ qt21 q24 q25 (fun c26 q26 => ?_)
      exact sm_some ⟨q26, qt21⟩
    · refine sm_bj (sX12_lost_ok ) (fun _ c27 q27 => ?_)
      exact sm_some ⟨q27, qt21⟩
  intro k28 gk28 hk28
  refine sm_jn (fun (k' : Option (Nat × Sy)) (k : Option (Int64 × Zh)) => Sm (fun b a => yJ a.1 b.1 ∧ syR ι e h0 b.2 a.2) k' k) ?_ ?_
  · skip
    unfold sX12_entry_J2 gX12_entry_J2
    exact hk28 _ _ (yI_lit 1)
  intro k29 gk29 hk29
  refine sm_if (sy_lt32 q21 (yI_lit 0)) ?_ ?_
  · exact hk29
  · refine sm_rI qt21 q0 rfl (fun c30 q30 => ?_)
    refine sm_bi (sX12_in_ok (yJ_i2l q3) (yJ_lit 0) (yJ_sub (yJ_i2l q30) (yJ_lit 1))) (fun _ c31 q31 => ?_)
    refine sm_if (sy_eq32 q31 (yI_lit 0)) ?_ ?_
    · exact hk29
    · refine sm_rI qt21 q0 rfl (fun c32 q32 => ?_)
      refine sm_bi (sX12_in_ok (yJ_i2l q4) (yJ_lit 0) (yJ_sub (yJ_i2l q32) (yJ_lit 1))) (fun _ c33 q33 => ?_)
      refine sm_if (sy_eq32 q33 (yI_lit 0)) ?_ ?_
      · exact hk29
      · exact hk28 _ _ (yI_lit 0)
noncomputable def sX12_poly_J1 (t21 : Sy) : Option (Nat × Sy) :=
  sbj (sX12_lost ) (fun c22 => some (c22, t21))
noncomputable def sX12_poly (e : Se) (t : Sy) (a0 : Nat) (c1 : Nat) (c2 : Nat) (c3 : Nat) : Option (Nat × Sy) :=
  sbI (sX12_laySector e t a0 c1 c2) (fun c21 t21 => zjn (sX12_poly_J1 t21) (fun (k23 : Option (Nat × Sy)) =>
  syc (Nat.ble (Nat.succ (syo32 c21)) (syo32 0)) (k23)
  (srI t21 a0 5 (fun c24 => sbi (sX12_in (sy2l c3) 0 (sy2l c24)) (fun c25 => syc (Nat.beq (Nat.mod c25 4294967296) (Nat.mod 0 4294967296)) (k23)
  (sbV (sX12_layPolynomial e t21 a0) (fun t26 => srR t26 a0 11 (fun c27 => syr c27 (fun a28 => syi e a28 c3 (fun p29 => srJ t26 a28 p29 (fun c30 => some (c30, t26))))))))))))
theorem sX12_poly_ok {ι : Nat → Nat} {e : Se} {h0 h : Zh} {t : Sy} (hι : ∀ a b, ι a = ι b → a = b) (qt : syR ι e h0 t h) {x0 : Nat} {a0 : Nat} {x1 : Int32} {c1 : Nat} {x2 : Int32} {c2 : Nat} {x3 : Int32} {c3 : Nat} (q0 : yA ι x0 a0) (q1 : yI x1 c1) (q2 : yI x2 c2) (q3 : yI x3 c3) : Sm (fun b a => yJ a.1 b.1 ∧ syR ι e h0 b.2 a.2) (sX12_poly e t a0 c1 c2 c3) (gX12_poly h x0 x1 x2 x3) := by
  unfold sX12_poly gX12_poly
  refine sm_bI (sX12_laySector_ok hι qt q0 q1 q2) (fun _ c21 q21 _ t21 qt21 => ?_)
  refine sm_jn (fun (k' : Option (Nat × Sy)) (k : Option (Int64 × Zh)) => Sm (fun b a => yJ a.1 b.1 ∧ syR ι e h0 b.2 a.2) k' k) ?_ ?_
  · skip
    unfold sX12_poly_J1 gX12_poly_J1
    refine sm_bj (sX12_lost_ok ) (fun _ c22 q22 => ?_)
    exact sm_some ⟨q22, qt21⟩
  intro k23 gk23 hk23
  refine sm_if (sy_lt32 q21 (yI_lit 0)) ?_ ?_
  · exact hk23
  · refine sm_rI qt21 q0 rfl (fun c24 q24 => ?_)
    refine sm_bi (sX12_in_ok (yJ_i2l q3) (yJ_lit 0) (yJ_i2l q24)) (fun _ c25 q25 => ?_)
    refine sm_if (sy_eq32 q25 (yI_lit 0)) ?_ ?_
    · exact hk23
    · refine sm_bV (sX12_layPolynomial_ok hι qt21 q0) (fun _ t26 qt26 => ?_)
      refine sm_rR qt26 q0 rfl (fun _ c27 q27 => ?_)
      refine sm_dr q27 (fun _ a28 q28 => ?_)
      refine sm_in qt26 q28 q3 (fun p29 q29 => ?_)
      refine sm_rJ qt26 q28 q29 (fun c30 q30 => ?_)
      exact sm_some ⟨q30, qt26⟩
noncomputable def sX12_shiftTo_J1 (c25 : Nat) (k27 : Nat → Sy → Option (Sy)) : Sy → Option (Sy) :=
  fun (t29 : Sy) => syf (Nat.add c25 1) (fun c30 => k27 c30 t29)
noncomputable def sX12_shiftTo_L2 (e : Se) (a0 : Nat) (c1 : Nat) (c25 : Nat) (k31 : Sy → Option (Sy)) : (Nat → Sy → Option (Sy)) → Nat → Sy → Option (Sy) :=
  fun (k34 : Nat → Sy → Option (Sy)) (c32 : Nat) (t33 : Sy) => syc (Nat.ble (Nat.succ (syo32 c32)) (syo32 c25)) (k31 t33)
  (srR t33 a0 15 (fun c35 => syr c35 (fun a36 => syi e a36 c32 (fun p37 => srJ t33 a36 p37 (fun c38 => srR t33 a0 15 (fun c39 => syr c39 (fun a40 => syi e a40 (Nat.add c32 1) (fun p41 => srJ t33 a40 p41 (fun c42 => syf (Nat.add c38 (Nat.mul (sy2l c1) c42)) (fun c43 => syc (Nat.beq (Nat.mod 1099511627776 18446744073709551616) (Nat.mod 0 18446744073709551616)) none (syc (Nat.beq (Nat.mod 1099511627776 18446744073709551616) (Nat.mod 0 18446744073709551616)) none (syf (Nat.add (Nat.add (Nat.add c43 (syn64 (Nat.mul (syd 18446744073709551616 (Nat.mod c43 18446744073709551616) (Nat.mod 1099511627776 18446744073709551616)) 1099511627776))) 1099511627776) (syn64 (Nat.mul (syd 18446744073709551616 (Nat.mod (Nat.add (Nat.add c43 (syn64 (Nat.mul (syd 18446744073709551616 (Nat.mod c43 18446744073709551616) (Nat.mod 1099511627776 18446744073709551616)) 1099511627776))) 1099511627776) 18446744073709551616) (Nat.mod 1099511627776 18446744073709551616)) 1099511627776))) (fun c44 => srR t33 a0 14 (fun c45 => syr c45 (fun a46 => syi e a46 c32 (fun p47 => srJ t33 a46 p47 (fun c48 => srR t33 a0 14 (fun c49 => syr c49 (fun a50 => syi e a50 (Nat.add c32 1) (fun p51 => srJ t33 a50 p51 (fun c52 => syc (Nat.beq (Nat.mod 1099511627776 18446744073709551616) (Nat.mod 0 18446744073709551616)) none (syi e a46 c32 (fun p53 => swJ e t33 a46 p53 (Nat.add c48 (Nat.add (Nat.mul (sy2l c1) c52) (syd 18446744073709551616 (Nat.mod (Nat.add c43 (syn64 c44)) 18446744073709551616) (Nat.mod 1099511627776 18446744073709551616)))) (fun t54 => srR t54 a0 15 (fun c55 => syr c55 (fun a56 => syi e a56 c32 (fun p57 => swJ e t54 a56 p57 c44 (fun t58 => syf (Nat.add c32 4294967295) (fun c59 => k34 c59 t58)))))))))))))))))))))))))))))
noncomputable def sX12_shiftTo_L3 (e : Se) (a0 : Nat) (c1 : Nat) (c22 : Nat) : (Nat → Sy → Option (Sy)) → Nat → Sy → Option (Sy) :=
  fun (k27 : Nat → Sy → Option (Sy)) (c25 : Nat) (t26 : Sy) => syc (Nat.ble (syo32 c22) (syo32 c25)) (some t26)
  (syf (Nat.add c22 (syn32 1)) (fun c28 => zjn (sX12_shiftTo_J1 c25 k27) (fun (k31 : Sy → Option (Sy)) =>
  syl (fun _ _ => (none : Option (Sy))) (sX12_shiftTo_L2 e a0 c1 c25 k31) zFU c28 t26)))
noncomputable def sX12_shiftTo_J4 (e : Se) (a0 : Nat) (c1 : Nat) (c22 : Nat) : Sy → Option (Sy) :=
  fun (t24 : Sy) => syl (fun _ _ => (none : Option (Sy))) (sX12_shiftTo_L3 e a0 c1 c22) zFU 0 t24
noncomputable def sX12_shiftTo_L5 (e : Se) (a0 : Nat) (c22 : Nat) (k60 : Sy → Option (Sy)) : (Nat → Sy → Option (Sy)) → Nat → Sy → Option (Sy) :=
  fun (k63 : Nat → Sy → Option (Sy)) (c61 : Nat) (t62 : Sy) => syc (Nat.ble (Nat.succ (syo32 c22)) (syo32 c61)) (k60 t62)
  (srR t62 a0 15 (fun c64 => srR t62 a0 11 (fun c65 => syr c65 (fun a66 => syi e a66 c61 (fun p67 => srJ t62 a66 p67 (fun c68 => syc (Nat.beq (Nat.mod 1099511627776 18446744073709551616) (Nat.mod 0 18446744073709551616)) none (syc (Nat.beq (Nat.mod 1099511627776 18446744073709551616) (Nat.mod 0 18446744073709551616)) none (syr c64 (fun a69 => syi e a69 c61 (fun p70 => swJ e t62 a69 p70 (Nat.add (Nat.add (Nat.add c68 (syn64 (Nat.mul (syd 18446744073709551616 (Nat.mod c68 18446744073709551616) (Nat.mod 1099511627776 18446744073709551616)) 1099511627776))) 1099511627776) (syn64 (Nat.mul (syd 18446744073709551616 (Nat.mod (Nat.add (Nat.add c68 (syn64 (Nat.mul (syd 18446744073709551616 (Nat.mod c68 18446744073709551616) (Nat.mod 1099511627776 18446744073709551616)) 1099511627776))) 1099511627776) 18446744073709551616) (Nat.mod 1099511627776 18446744073709551616)) 1099511627776))) (fun t71 => srR t71 a0 14 (fun c72 => srR t71 a0 11 (fun c73 => syr c73 (fun a74 => syi e a74 c61 (fun p75 => srJ t71 a74 p75 (fun c76 => srR t71 a0 15 (fun c77 => syr c77 (fun a78 => syi e a78 c61 (fun p79 => srJ t71 a78 p79 (fun c80 => syc (Nat.beq (Nat.mod 1099511627776 18446744073709551616) (Nat.mod 0 18446744073709551616)) none (syr c72 (fun a81 => syi e a81 c61 (fun p82 => swJ e t71 a81 p82 (syd 18446744073709551616 (Nat.mod (Nat.add c76 (syn64 c80)) 18446744073709551616) (Nat.mod 1099511627776 18446744073709551616)) (fun t83 => syf (Nat.add c61 1) (fun c84 => k63 c84 t83)))))))))))))))))))))))))
noncomputable def sX12_shiftTo (e : Se) (t : Sy) (a0 : Nat) (c1 : Nat) : Option (Sy) :=
  sbV (sX12_layPolynomial e t a0) (fun t21 => srI t21 a0 5 (fun c22 => zjn (sX12_shiftTo_J4 e a0 c1 c22) (fun (k60 : Sy → Option (Sy)) =>
  syl (fun _ _ => (none : Option (Sy))) (sX12_shiftTo_L5 e a0 c22 k60) zFU 0 t21)))
theorem sX12_shiftTo_ok {ι : Nat → Nat} {e : Se} {h0 h : Zh} {t : Sy} (hι : ∀ a b, ι a = ι b → a = b) (qt : syR ι e h0 t h) {x0 : Nat} {a0 : Nat} {x1 : Int32} {c1 : Nat} (q0 : yA ι x0 a0) (q1 : yI x1 c1) : Sm (fun b a => syR ι e h0 b a) (sX12_shiftTo e t a0 c1) (gX12_shiftTo h x0 x1) := by
  unfold sX12_shiftTo gX12_shiftTo
  refine sm_bV (sX12_layPolynomial_ok hι qt q0) (fun _ t21 qt21 => ?_)
  refine sm_rI qt21 q0 rfl (fun c22 q22 => ?_)
  refine sm_lt0i q22 (fun _ q23 => ?_)
  refine sm_jn (fun (k' : Sy → Option (Sy)) (k : Zh → Option (Zh)) => ∀ (t24 : Sy) (h24 : Zh), syR ι e h0 t24 h24 → Sm (fun b a => syR ι e h0 b a) (k' t24) (k h24)) ?_ ?_
  · intro t24 h24 qt24
    unfold sX12_shiftTo_J4 gX12_shiftTo_J4
    refine sm_lp (fun (k' : Nat → Sy → Option (Sy)) (k : Int32 → Zh → Option (Zh)) => ∀ (c25 : Nat) (x25 : Int32) (t26 : Sy) (h26 : Zh), yI x25 c25 → syR ι e h0 t26 h26 → Sm (fun b a => syR ι e h0 b a) (k' c25 t26) (k x25 h26)) ?_ ?_ zFU _ _ _ _ (yI_lit 0) qt24
    · exact fun _ _ _ _ _ _ => sm_none
    intro k27 gk27 hk27
    intro c25 x25 t26 h26 q25 qt26
    unfold sX12_shiftTo_L3 gX12_shiftTo_L3
    refine sm_if (sy_le32 q23 q25) ?_ ?_
    · exact sm_some qt26
    · refine sm_lti (yI_sub q23 (yI_lit 1)) (fun _ c28 q28 => ?_)
      refine sm_jn (fun (k' : Sy → Option (Sy)) (k : Zh → Option (Zh)) => ∀ (t29 : Sy) (h29 : Zh), syR ι e h0 t29 h29 → Sm (fun b a => syR ι e h0 b a) (k' t29) (k h29)) ?_ ?_
      · intro t29 h29 qt29
        unfold sX12_shiftTo_J1 gX12_shiftTo_J1
        refine sm_f ?_
        exact hk27 _ _ _ _ (yI_add q25 (yI_lit 1)) qt29
      intro k31 gk31 hk31
      refine sm_lp (fun (k' : Nat → Sy → Option (Sy)) (k : Int32 → Zh → Option (Zh)) => ∀ (c32 : Nat) (x32 : Int32) (t33 : Sy) (h33 : Zh), yI x32 c32 → syR ι e h0 t33 h33 → Sm (fun b a => syR ι e h0 b a) (k' c32 t33) (k x32 h33)) ?_ ?_ zFU _ _ _ _ q28 qt26
      · exact fun _ _ _ _ _ _ => sm_none
      intro k34 gk34 hk34
      intro c32 x32 t33 h33 q32 qt33
      unfold sX12_shiftTo_L2 gX12_shiftTo_L2
      refine sm_if (sy_lt32 q32 q25) ?_ ?_
      · exact hk31 _ _ qt33
      · refine sm_rR qt33 q0 rfl (fun _ c35 q35 => ?_)
        refine sm_dr q35 (fun _ a36 q36 => ?_)
        refine sm_in qt33 q36 q32 (fun p37 q37 => ?_)
        refine sm_rJ qt33 q36 q37 (fun c38 q38 => ?_)
        refine sm_rR qt33 q0 rfl (fun _ c39 q39 => ?_)
        refine sm_dr q39 (fun _ a40 q40 => ?_)
        refine sm_in qt33 q40 (yI_add q32 (yI_lit 1)) (fun p41 q41 => ?_)
        refine sm_rJ qt33 q40 q41 (fun c42 q42 => ?_)
        refine sm_ltj (yJ_add q38 (yJ_mul (yJ_i2l q1) q42)) (fun _ c43 q43 => ?_)
        refine sm_if (sy_eq64 (yJ_lit 1099511627776) (yJ_lit 0)) sm_none ?_
        refine sm_if (sy_eq64 (yJ_lit 1099511627776) (yJ_lit 0)) sm_none ?_
        refine sm_ltj (yJ_sub (yJ_add (yJ_sub q43 (yJ_mul (yJ_div q43 (yJ_lit 1099511627776)) (yJ_lit 1099511627776))) (yJ_lit 1099511627776)) (yJ_mul (yJ_div (yJ_add (yJ_sub q43 (yJ_mul (yJ_div q43 (yJ_lit 1099511627776)) (yJ_lit 1099511627776))) (yJ_lit 1099511627776)) (yJ_lit 1099511627776)) (yJ_lit 1099511627776))) (fun _ c44 q44 => ?_)
        refine sm_rR qt33 q0 rfl (fun _ c45 q45 => ?_)
        refine sm_dr q45 (fun _ a46 q46 => ?_)
        refine sm_in qt33 q46 q32 (fun p47 q47 => ?_)
        refine sm_rJ qt33 q46 q47 (fun c48 q48 => ?_)
        refine sm_rR qt33 q0 rfl (fun _ c49 q49 => ?_)
        refine sm_dr q49 (fun _ a50 q50 => ?_)
        refine sm_in qt33 q50 (yI_add q32 (yI_lit 1)) (fun p51 q51 => ?_)
        refine sm_rJ qt33 q50 q51 (fun c52 q52 => ?_)
        refine sm_if (sy_eq64 (yJ_lit 1099511627776) (yJ_lit 0)) sm_none ?_
        refine sm_in qt33 q46 q32 (fun p53 q53 => ?_)
        refine sm_wJ hι qt33 q46 q53 (yJ_add q48 (yJ_add (yJ_mul (yJ_i2l q1) q52) (yJ_div (yJ_sub q43 q44) (yJ_lit 1099511627776)))) (fun _ t54 qt54 => ?_)
        refine sm_rR qt54 q0 rfl (fun _ c55 q55 => ?_)
        refine sm_dr q55 (fun _ a56 q56 => ?_)
        refine sm_in qt54 q56 q32 (fun p57 q57 => ?_)
        refine sm_wJ hι qt54 q56 q57 q44 (fun _ t58 qt58 => ?_)
        refine sm_f ?_
        exact hk34 _ _ _ _ (yI_add q32 (show yI (-1) 4294967295 from by unfold yI; decide)) qt58
  intro k60 gk60 hk60
  refine sm_lp (fun (k' : Nat → Sy → Option (Sy)) (k : Int32 → Zh → Option (Zh)) => ∀ (c61 : Nat) (x61 : Int32) (t62 : Sy) (h62 : Zh), yI x61 c61 → syR ι e h0 t62 h62 → Sm (fun b a => syR ι e h0 b a) (k' c61 t62) (k x61 h62)) ?_ ?_ zFU _ _ _ _ (yI_lit 0) qt21
  · exact fun _ _ _ _ _ _ => sm_none
  intro k63 gk63 hk63
  intro c61 x61 t62 h62 q61 qt62
  unfold sX12_shiftTo_L5 gX12_shiftTo_L5
  refine sm_if (sy_lt32 q23 q61) ?_ ?_
  · exact hk60 _ _ qt62
  · refine sm_rR qt62 q0 rfl (fun _ c64 q64 => ?_)
    refine sm_rR qt62 q0 rfl (fun _ c65 q65 => ?_)
    refine sm_dr q65 (fun _ a66 q66 => ?_)
    refine sm_in qt62 q66 q61 (fun p67 q67 => ?_)
    refine sm_rJ qt62 q66 q67 (fun c68 q68 => ?_)
    refine sm_if (sy_eq64 (yJ_lit 1099511627776) (yJ_lit 0)) sm_none ?_
    refine sm_if (sy_eq64 (yJ_lit 1099511627776) (yJ_lit 0)) sm_none ?_
    refine sm_dr q64 (fun _ a69 q69 => ?_)
    refine sm_in qt62 q69 q61 (fun p70 q70 => ?_)
    refine sm_wJ hι qt62 q69 q70 (yJ_sub (yJ_add (yJ_sub q68 (yJ_mul (yJ_div q68 (yJ_lit 1099511627776)) (yJ_lit 1099511627776))) (yJ_lit 1099511627776)) (yJ_mul (yJ_div (yJ_add (yJ_sub q68 (yJ_mul (yJ_div q68 (yJ_lit 1099511627776)) (yJ_lit 1099511627776))) (yJ_lit 1099511627776)) (yJ_lit 1099511627776)) (yJ_lit 1099511627776))) (fun _ t71 qt71 => ?_)
    refine sm_rR qt71 q0 rfl (fun _ c72 q72 => ?_)
    refine sm_rR qt71 q0 rfl (fun _ c73 q73 => ?_)
    refine sm_dr q73 (fun _ a74 q74 => ?_)
    refine sm_in qt71 q74 q61 (fun p75 q75 => ?_)
    refine sm_rJ qt71 q74 q75 (fun c76 q76 => ?_)
    refine sm_rR qt71 q0 rfl (fun _ c77 q77 => ?_)
    refine sm_dr q77 (fun _ a78 q78 => ?_)
    refine sm_in qt71 q78 q61 (fun p79 q79 => ?_)
    refine sm_rJ qt71 q78 q79 (fun c80 q80 => ?_)
    refine sm_if (sy_eq64 (yJ_lit 1099511627776) (yJ_lit 0)) sm_none ?_
    refine sm_dr q72 (fun _ a81 q81 => ?_)
    refine sm_in qt71 q81 q61 (fun p82 q82 => ?_)
    refine sm_wJ hι qt71 q81 q82 (yJ_div (yJ_sub q76 q80) (yJ_lit 1099511627776)) (fun _ t83 qt83 => ?_)
    refine sm_f ?_
    exact hk63 _ _ _ _ (yI_add q61 (yI_lit 1)) qt83
noncomputable def sX12_signAt_J1 : Option (Nat) :=
  some 1
noncomputable def sX12_signAt (e : Se) (t : Sy) (a0 : Nat) (c1 : Nat) : Option (Nat) :=
  srR t a0 14 (fun c21 => syr c21 (fun a22 => syi e a22 c1 (fun p23 => srJ t a22 p23 (fun c24 => syc (Nat.ble (syo32 0) (syo32 (sycmp c24 0))) (srR t a0 14 (fun c25 => syr c25 (fun a26 => syi e a26 c1 (fun p27 => srJ t a26 p27 (fun c28 => zjn sX12_signAt_J1 (fun (k29 : Option (Nat)) =>
  syc (Nat.ble (Nat.succ (syo32 0)) (syo32 (sycmp c28 0))) (k29)
  (srR t a0 15 (fun c30 => syr c30 (fun a31 => syi e a31 c1 (fun p32 => srJ t a31 p32 (fun c33 => syc (Nat.ble (syo32 (sycmp c33 0)) (syo32 0)) (some 0)
  (k29))))))))))))
  (some 4294967295)))))
theorem sX12_signAt_ok {ι : Nat → Nat} {e : Se} {h0 h : Zh} {t : Sy} (hι : ∀ a b, ι a = ι b → a = b) (qt : syR ι e h0 t h) {x0 : Nat} {a0 : Nat} {x1 : Int32} {c1 : Nat} (q0 : yA ι x0 a0) (q1 : yI x1 c1) : Sm (fun b a => yI a b) (sX12_signAt e t a0 c1) (gX12_signAt h x0 x1) := by
  unfold sX12_signAt gX12_signAt
  refine sm_rR qt q0 rfl (fun _ c21 q21 => ?_)
  refine sm_dr q21 (fun _ a22 q22 => ?_)
  refine sm_in qt q22 q1 (fun p23 q23 => ?_)
  refine sm_rJ qt q22 q23 (fun c24 q24 => ?_)
  refine sm_if (sy_le32 (yI_lit 0) (yI_cmp q24 (yJ_lit 0))) ?_ ?_
  · refine sm_rR qt q0 rfl (fun _ c25 q25 => ?_)
    refine sm_dr q25 (fun _ a26 q26 => ?_)
    refine sm_in qt q26 q1 (fun p27 q27 => ?_)
    refine sm_rJ qt q26 q27 (fun c28 q28 => ?_)
    refine sm_jn (fun (k' : Option (Nat)) (k : Option (Int32)) => Sm (fun b a => yI a b) k' k) ?_ ?_
    · skip
      unfold sX12_signAt_J1 gX12_signAt_J1
      exact sm_some (yI_lit 1)
    intro k29 gk29 hk29
    refine sm_if (sy_lt32 (yI_lit 0) (yI_cmp q28 (yJ_lit 0))) ?_ ?_
    · exact hk29
    · refine sm_rR qt q0 rfl (fun _ c30 q30 => ?_)
      refine sm_dr q30 (fun _ a31 q31 => ?_)
      refine sm_in qt q31 q1 (fun p32 q32 => ?_)
      refine sm_rJ qt q31 q32 (fun c33 q33 => ?_)
      refine sm_if (sy_le32 (yI_cmp q33 (yJ_lit 0)) (yI_lit 0)) ?_ ?_
      · exact sm_some (yI_lit 0)
      · exact hk29
  · exact sm_some (show yI (-1) 4294967295 from by unfold yI; decide)
noncomputable def sX12_zeros_L1 (e : Se) (t : Sy) (a0 : Nat) : (Nat → Option (Nat)) → Nat → Option (Nat) :=
  fun (k22 : Nat → Option (Nat)) (c21 : Nat) => sbi (sX12_signAt e t a0 c21) (fun c23 => syc (Nat.beq (Nat.mod c23 4294967296) (Nat.mod 0 4294967296)) (syf (Nat.add c21 1) (fun c24 => k22 c24))
  (some c21))
noncomputable def sX12_zeros (e : Se) (t : Sy) (a0 : Nat) : Option (Nat) :=
  syl (fun _ => (none : Option (Nat))) (sX12_zeros_L1 e t a0) zFU 0
theorem sX12_zeros_ok {ι : Nat → Nat} {e : Se} {h0 h : Zh} {t : Sy} (hι : ∀ a b, ι a = ι b → a = b) (qt : syR ι e h0 t h) {x0 : Nat} {a0 : Nat} (q0 : yA ι x0 a0) : Sm (fun b a => yI a b) (sX12_zeros e t a0) (gX12_zeros h x0) := by
  unfold sX12_zeros gX12_zeros
  refine sm_lp (fun (k' : Nat → Option (Nat)) (k : Int32 → Option (Int32)) => ∀ (c21 : Nat) (x21 : Int32), yI x21 c21 → Sm (fun b a => yI a b) (k' c21) (k x21)) ?_ ?_ zFU _ _ (yI_lit 0)
  · exact fun _ _ _ => sm_none
  intro k22 gk22 hk22
  intro c21 x21 q21
  unfold sX12_zeros_L1 gX12_zeros_L1
  refine sm_bi (sX12_signAt_ok hι qt q0 q21) (fun _ c23 q23 => ?_)
  refine sm_if (sy_eq32 q23 (yI_lit 0)) ?_ ?_
  · refine sm_f ?_
    exact hk22 _ _ (yI_add q21 (yI_lit 1))
  · exact sm_some q21
noncomputable def sX12_above_J1 (c29 : Nat) (k30 : Nat → Nat → Nat → Option (Nat × Sy)) (c33 : Nat) : Nat → Option (Nat × Sy) :=
  fun (c34 : Nat) => syf (Nat.add c29 4294967295) (fun c35 => k30 c33 c34 c35)
noncomputable def sX12_above_J2 (c27 : Nat) (c28 : Nat) (c29 : Nat) (k30 : Nat → Nat → Nat → Option (Nat × Sy)) (c31 : Nat) : Nat → Option (Nat × Sy) :=
  fun (c32 : Nat) => syf (Nat.add c27 c32) (fun c33 => zjn (sX12_above_J1 c29 k30 c33) (fun (k36 : Nat → Option (Nat × Sy)) =>
  syc (Nat.beq (Nat.mod c31 4294967296) (Nat.mod 0 4294967296)) (k36 c28)
  (k36 c31)))
noncomputable def sX12_above_J3 (k37 : Nat → Option (Nat × Sy)) : Option (Nat × Sy) :=
  k37 0
noncomputable def sX12_above_L4 (e : Se) (a0 : Nat) (t24 : Sy) : (Nat → Nat → Nat → Option (Nat × Sy)) → Nat → Nat → Nat → Option (Nat × Sy) :=
  fun (k30 : Nat → Nat → Nat → Option (Nat × Sy)) (c27 : Nat) (c28 : Nat) (c29 : Nat) => syc (Nat.ble (Nat.succ (syo32 c29)) (syo32 0)) (some (c27, t24))
  (sbi (sX12_signAt e t24 a0 c29) (fun c31 => zjn (sX12_above_J2 c27 c28 c29 k30 c31) (fun (k37 : Nat → Option (Nat × Sy)) =>
  zjn (sX12_above_J3 k37) (fun (k38 : Option (Nat × Sy)) =>
  syc (Nat.beq (Nat.mod c31 4294967296) (Nat.mod 0 4294967296)) (k38)
  (syc (Nat.beq (Nat.mod c31 4294967296) (Nat.mod c28 4294967296)) (k38)
  (k37 1))))))
noncomputable def sX12_above (e : Se) (t : Sy) (a0 : Nat) (c1 : Nat) (c2 : Nat) (c3 : Nat) : Option (Nat × Sy) :=
  sbi (sX12_noSector e t a0 c1 c2) (fun c21 => syc (Nat.beq (Nat.mod c21 4294967296) (Nat.mod 0 4294967296)) (sbi (sX12_in (sy2l c3) 18446744073709551566 50) (fun c22 => syc (Nat.beq (Nat.mod c22 4294967296) (Nat.mod 0 4294967296)) (some (4294967294, t))
  (sbI (sX12_laySector e t a0 c1 c2) (fun c23 t23 => syc (Nat.ble (syo32 0) (syo32 c23)) (sbV (sX12_shiftTo e t23 a0 c3) (fun t24 => srI t24 a0 5 (fun c25 => syl (fun _ _ _ => (none : Option (Nat × Sy))) (sX12_above_L4 e a0 t24) zFU 0 1 c25)))
  (some (4294967290, t23))))))
  (some (4294967294, t)))
theorem sX12_above_ok {ι : Nat → Nat} {e : Se} {h0 h : Zh} {t : Sy} (hι : ∀ a b, ι a = ι b → a = b) (qt : syR ι e h0 t h) {x0 : Nat} {a0 : Nat} {x1 : Int32} {c1 : Nat} {x2 : Int32} {c2 : Nat} {x3 : Int32} {c3 : Nat} (q0 : yA ι x0 a0) (q1 : yI x1 c1) (q2 : yI x2 c2) (q3 : yI x3 c3) : Sm (fun b a => yI a.1 b.1 ∧ syR ι e h0 b.2 a.2) (sX12_above e t a0 c1 c2 c3) (gX12_above h x0 x1 x2 x3) := by
  unfold sX12_above gX12_above
  refine sm_bi (sX12_noSector_ok hι qt q0 q1 q2) (fun _ c21 q21 => ?_)
  refine sm_if (sy_eq32 q21 (yI_lit 0)) ?_ ?_
  · refine sm_bi (sX12_in_ok (yJ_i2l q3) (show yJ (-50) 18446744073709551566 from by unfold yJ; decide) (yJ_lit 50)) (fun _ c22 q22 => ?_)
    refine sm_if (sy_eq32 q22 (yI_lit 0)) ?_ ?_
    · exact sm_some ⟨(show yI (-2) 4294967294 from by unfold yI; decide), qt⟩
    · refine sm_bI (sX12_laySector_ok hι qt q0 q1 q2) (fun _ c23 q23 _ t23 qt23 => ?_)
      refine sm_if (sy_le32 (yI_lit 0) q23) ?_ ?_
      · refine sm_bV (sX12_shiftTo_ok hι qt23 q0 q3) (fun _ t24 qt24 => ?_)
        refine sm_rI qt24 q0 rfl (fun c25 q25 => ?_)
        refine sm_lt0i q25 (fun _ q26 => ?_)
        refine sm_lp (fun (k' : Nat → Nat → Nat → Option (Nat × Sy)) (k : Int32 → Int32 → Int32 → Option (Int32 × Zh)) => ∀ (c27 : Nat) (x27 : Int32) (c28 : Nat) (x28 : Int32) (c29 : Nat) (x29 : Int32), yI x27 c27 → yI x28 c28 → yI x29 c29 → Sm (fun b a => yI a.1 b.1 ∧ syR ι e h0 b.2 a.2) (k' c27 c28 c29) (k x27 x28 x29)) ?_ ?_ zFU _ _ _ _ _ _ (yI_lit 0) (yI_lit 1) q26
        · exact fun _ _ _ _ _ _ _ _ _ => sm_none
        intro k30 gk30 hk30
        intro c27 x27 c28 x28 c29 x29 q27 q28 q29
        unfold sX12_above_L4 gX12_above_L4
        refine sm_if (sy_lt32 q29 (yI_lit 0)) ?_ ?_
        · exact sm_some ⟨q27, qt24⟩
        · refine sm_bi (sX12_signAt_ok hι qt24 q0 q29) (fun _ c31 q31 => ?_)
          refine sm_jn (fun (k' : Nat → Option (Nat × Sy)) (k : Int32 → Option (Int32 × Zh)) => ∀ (c32 : Nat) (x32 : Int32), yI x32 c32 → Sm (fun b a => yI a.1 b.1 ∧ syR ι e h0 b.2 a.2) (k' c32) (k x32)) ?_ ?_
          · intro c32 x32 q32
            unfold sX12_above_J2 gX12_above_J2
            refine sm_lti (yI_add q27 q32) (fun _ c33 q33 => ?_)
            refine sm_jn (fun (k' : Nat → Option (Nat × Sy)) (k : Int32 → Option (Int32 × Zh)) => ∀ (c34 : Nat) (x34 : Int32), yI x34 c34 → Sm (fun b a => yI a.1 b.1 ∧ syR ι e h0 b.2 a.2) (k' c34) (k x34)) ?_ ?_
            · intro c34 x34 q34
              unfold sX12_above_J1 gX12_above_J1
              refine sm_f ?_
              exact hk30 _ _ _ _ _ _ q33 q34 (yI_add q29 (show yI (-1) 4294967295 from by unfold yI; decide))
            intro k36 gk36 hk36
            refine sm_if (sy_eq32 q31 (yI_lit 0)) ?_ ?_
            · exact hk36 _ _ q28
            · exact hk36 _ _ q31
          intro k37 gk37 hk37
          refine sm_jn (fun (k' : Option (Nat × Sy)) (k : Option (Int32 × Zh)) => Sm (fun b a => yI a.1 b.1 ∧ syR ι e h0 b.2 a.2) k' k) ?_ ?_
          · skip
            unfold sX12_above_J3 gX12_above_J3
            exact hk37 _ _ (yI_lit 0)
          intro k38 gk38 hk38
          refine sm_if (sy_eq32 q31 (yI_lit 0)) ?_ ?_
          · exact hk38
          · refine sm_if (sy_eq32 q31 q28) ?_ ?_
            · exact hk38
            · exact hk37 _ _ (yI_lit 1)
      · exact sm_some ⟨(show yI (-6) 4294967290 from by unfold yI; decide), qt23⟩
  · exact sm_some ⟨(show yI (-2) 4294967294 from by unfold yI; decide), qt⟩
noncomputable def sX12_often (e : Se) (t : Sy) (a0 : Nat) (c1 : Nat) (c2 : Nat) (c3 : Nat) : Option (Nat × Sy) :=
  sbi (sX12_noSector e t a0 c1 c2) (fun c21 => syc (Nat.beq (Nat.mod c21 4294967296) (Nat.mod 0 4294967296)) (sbi (sX12_in (sy2l c3) 18446744073709551566 50) (fun c22 => syc (Nat.beq (Nat.mod c22 4294967296) (Nat.mod 0 4294967296)) (some (4294967294, t))
  (sbI (sX12_laySector e t a0 c1 c2) (fun c23 t23 => syc (Nat.ble (syo32 0) (syo32 c23)) (sbV (sX12_shiftTo e t23 a0 c3) (fun t24 => sbi (sX12_zeros e t24 a0) (fun c25 => some (c25, t24))))
  (some (4294967290, t23))))))
  (some (4294967294, t)))
theorem sX12_often_ok {ι : Nat → Nat} {e : Se} {h0 h : Zh} {t : Sy} (hι : ∀ a b, ι a = ι b → a = b) (qt : syR ι e h0 t h) {x0 : Nat} {a0 : Nat} {x1 : Int32} {c1 : Nat} {x2 : Int32} {c2 : Nat} {x3 : Int32} {c3 : Nat} (q0 : yA ι x0 a0) (q1 : yI x1 c1) (q2 : yI x2 c2) (q3 : yI x3 c3) : Sm (fun b a => yI a.1 b.1 ∧ syR ι e h0 b.2 a.2) (sX12_often e t a0 c1 c2 c3) (gX12_often h x0 x1 x2 x3) := by
  unfold sX12_often gX12_often
  refine sm_bi (sX12_noSector_ok hι qt q0 q1 q2) (fun _ c21 q21 => ?_)
  refine sm_if (sy_eq32 q21 (yI_lit 0)) ?_ ?_
  · refine sm_bi (sX12_in_ok (yJ_i2l q3) (show yJ (-50) 18446744073709551566 from by unfold yJ; decide) (yJ_lit 50)) (fun _ c22 q22 => ?_)
    refine sm_if (sy_eq32 q22 (yI_lit 0)) ?_ ?_
    · exact sm_some ⟨(show yI (-2) 4294967294 from by unfold yI; decide), qt⟩
    · refine sm_bI (sX12_laySector_ok hι qt q0 q1 q2) (fun _ c23 q23 _ t23 qt23 => ?_)
      refine sm_if (sy_le32 (yI_lit 0) q23) ?_ ?_
      · refine sm_bV (sX12_shiftTo_ok hι qt23 q0 q3) (fun _ t24 qt24 => ?_)
        refine sm_bi (sX12_zeros_ok hι qt24 q0) (fun _ c25 q25 => ?_)
        exact sm_some ⟨q25, qt24⟩
      · exact sm_some ⟨(show yI (-6) 4294967290 from by unfold yI; decide), qt23⟩
  · exact sm_some ⟨(show yI (-2) 4294967294 from by unfold yI; decide), qt⟩
noncomputable def sX12_whole_L1 (e : Se) (a0 : Nat) : (Nat → Nat → Sy → Option (Nat × Sy)) → Nat → Nat → Sy → Option (Nat × Sy) :=
  fun (k25 : Nat → Nat → Sy → Option (Nat × Sy)) (c22 : Nat) (c23 : Nat) (t24 : Sy) => syc (Nat.ble (Nat.succ (syo32 50)) (syo32 c23)) (some (c22, t24))
  (sbV (sX12_shiftTo e t24 a0 c23) (fun t26 => sbi (sX12_zeros e t26 a0) (fun c27 => syf (Nat.add c22 c27) (fun c28 => syf (Nat.add c23 1) (fun c29 => k25 c28 c29 t26)))))
noncomputable def sX12_whole (e : Se) (t : Sy) (a0 : Nat) (c1 : Nat) (c2 : Nat) : Option (Nat × Sy) :=
  sbI (sX12_laySector e t a0 c1 c2) (fun c21 t21 => syc (Nat.ble (syo32 0) (syo32 c21)) (syl (fun _ _ _ => (none : Option (Nat × Sy))) (sX12_whole_L1 e a0) zFU 0 4294967246 t21)
  (some (c21, t21)))
theorem sX12_whole_ok {ι : Nat → Nat} {e : Se} {h0 h : Zh} {t : Sy} (hι : ∀ a b, ι a = ι b → a = b) (qt : syR ι e h0 t h) {x0 : Nat} {a0 : Nat} {x1 : Int32} {c1 : Nat} {x2 : Int32} {c2 : Nat} (q0 : yA ι x0 a0) (q1 : yI x1 c1) (q2 : yI x2 c2) : Sm (fun b a => yI a.1 b.1 ∧ syR ι e h0 b.2 a.2) (sX12_whole e t a0 c1 c2) (gX12_whole h x0 x1 x2) := by
  unfold sX12_whole gX12_whole
  refine sm_bI (sX12_laySector_ok hι qt q0 q1 q2) (fun _ c21 q21 _ t21 qt21 => ?_)
  refine sm_if (sy_le32 (yI_lit 0) q21) ?_ ?_
  · refine sm_lp (fun (k' : Nat → Nat → Sy → Option (Nat × Sy)) (k : Int32 → Int32 → Zh → Option (Int32 × Zh)) => ∀ (c22 : Nat) (x22 : Int32) (c23 : Nat) (x23 : Int32) (t24 : Sy) (h24 : Zh), yI x22 c22 → yI x23 c23 → syR ι e h0 t24 h24 → Sm (fun b a => yI a.1 b.1 ∧ syR ι e h0 b.2 a.2) (k' c22 c23 t24) (k x22 x23 h24)) ?_ ?_ zFU _ _ _ _ _ _ (yI_lit 0) (show yI (-50) 4294967246 from by unfold yI; decide) qt21
    · exact fun _ _ _ _ _ _ _ _ _ => sm_none
    intro k25 gk25 hk25
    intro c22 x22 c23 x23 t24 h24 q22 q23 qt24
    unfold sX12_whole_L1 gX12_whole_L1
    refine sm_if (sy_lt32 (yI_lit 50) q23) ?_ ?_
    · exact sm_some ⟨q22, qt24⟩
    · refine sm_bV (sX12_shiftTo_ok hι qt24 q0 q23) (fun _ t26 qt26 => ?_)
      refine sm_bi (sX12_zeros_ok hι qt26 q0) (fun _ c27 q27 => ?_)
      refine sm_lti (yI_add q22 q27) (fun _ c28 q28 => ?_)
      refine sm_f ?_
      exact hk25 _ _ _ _ _ _ q28 (yI_add q23 (yI_lit 1)) qt26
  · exact sm_some ⟨q21, qt21⟩
noncomputable def sX12_power_J1 : Sy → Option (Nat × Sy) :=
  fun (t22 : Sy) => sbj (sX12_lost ) (fun c23 => some (c23, t22))
noncomputable def sX12_power_J2 (e : Se) (a0 : Nat) : Sy → Option (Nat × Sy) :=
  fun (t27 : Sy) => sbj (sX12_sumOfPower e t27 a0) (fun c28 => some (c28, t27))
noncomputable def sX12_power_L3 (e : Se) (a0 : Nat) (c3 : Nat) (k29 : Sy → Option (Nat × Sy)) : (Nat → Sy → Option (Nat × Sy)) → Nat → Sy → Option (Nat × Sy) :=
  fun (k32 : Nat → Sy → Option (Nat × Sy)) (c30 : Nat) (t31 : Sy) => syc (Nat.ble (syo32 c3) (syo32 c30)) (k29 t31)
  (sbV (sX12_timesTable e t31 a0) (fun t33 => syf (Nat.add c30 1) (fun c34 => k32 c34 t33)))
noncomputable def sX12_power (e : Se) (t : Sy) (a0 : Nat) (c1 : Nat) (c2 : Nat) (c3 : Nat) : Option (Nat × Sy) :=
  sbi (sX12_in (sy2l c3) 1 4) (fun c21 => zjn sX12_power_J1 (fun (k24 : Sy → Option (Nat × Sy)) =>
  syc (Nat.beq (Nat.mod c21 4294967296) (Nat.mod 0 4294967296)) (k24 t)
  (sbI (sX12_laySector e t a0 c1 c2) (fun c25 t25 => syc (Nat.ble (syo32 0) (syo32 c25)) (sbV (sX12_unitPower e t25 a0) (fun t26 => zjn (sX12_power_J2 e a0) (fun (k29 : Sy → Option (Nat × Sy)) =>
  syl (fun _ _ => (none : Option (Nat × Sy))) (sX12_power_L3 e a0 c3 k29) zFU 0 t26)))
  (k24 t25)))))
theorem sX12_power_ok {ι : Nat → Nat} {e : Se} {h0 h : Zh} {t : Sy} (hι : ∀ a b, ι a = ι b → a = b) (qt : syR ι e h0 t h) {x0 : Nat} {a0 : Nat} {x1 : Int32} {c1 : Nat} {x2 : Int32} {c2 : Nat} {x3 : Int32} {c3 : Nat} (q0 : yA ι x0 a0) (q1 : yI x1 c1) (q2 : yI x2 c2) (q3 : yI x3 c3) : Sm (fun b a => yJ a.1 b.1 ∧ syR ι e h0 b.2 a.2) (sX12_power e t a0 c1 c2 c3) (gX12_power h x0 x1 x2 x3) := by
  unfold sX12_power gX12_power
  refine sm_bi (sX12_in_ok (yJ_i2l q3) (yJ_lit 1) (yJ_lit 4)) (fun _ c21 q21 => ?_)
  refine sm_jn (fun (k' : Sy → Option (Nat × Sy)) (k : Zh → Option (Int64 × Zh)) => ∀ (t22 : Sy) (h22 : Zh), syR ι e h0 t22 h22 → Sm (fun b a => yJ a.1 b.1 ∧ syR ι e h0 b.2 a.2) (k' t22) (k h22)) ?_ ?_
  · intro t22 h22 qt22
    unfold sX12_power_J1 gX12_power_J1
    refine sm_bj (sX12_lost_ok ) (fun _ c23 q23 => ?_)
    exact sm_some ⟨q23, qt22⟩
  intro k24 gk24 hk24
  refine sm_if (sy_eq32 q21 (yI_lit 0)) ?_ ?_
  · exact hk24 _ _ qt
  · refine sm_bI (sX12_laySector_ok hι qt q0 q1 q2) (fun _ c25 q25 _ t25 qt25 => ?_)
    refine sm_if (sy_le32 (yI_lit 0) q25) ?_ ?_
    · refine sm_bV (sX12_unitPower_ok hι qt25 q0) (fun _ t26 qt26 => ?_)
      refine sm_jn (fun (k' : Sy → Option (Nat × Sy)) (k : Zh → Option (Int64 × Zh)) => ∀ (t27 : Sy) (h27 : Zh), syR ι e h0 t27 h27 → Sm (fun b a => yJ a.1 b.1 ∧ syR ι e h0 b.2 a.2) (k' t27) (k h27)) ?_ ?_
      · intro t27 h27 qt27
        unfold sX12_power_J2 gX12_power_J2
        refine sm_bj (sX12_sumOfPower_ok hι qt27 q0) (fun _ c28 q28 => ?_)
        exact sm_some ⟨q28, qt27⟩
      intro k29 gk29 hk29
      refine sm_lp (fun (k' : Nat → Sy → Option (Nat × Sy)) (k : Int32 → Zh → Option (Int64 × Zh)) => ∀ (c30 : Nat) (x30 : Int32) (t31 : Sy) (h31 : Zh), yI x30 c30 → syR ι e h0 t31 h31 → Sm (fun b a => yJ a.1 b.1 ∧ syR ι e h0 b.2 a.2) (k' c30 t31) (k x30 h31)) ?_ ?_ zFU _ _ _ _ (yI_lit 0) qt26
      · exact fun _ _ _ _ _ _ => sm_none
      intro k32 gk32 hk32
      intro c30 x30 t31 h31 q30 qt31
      unfold sX12_power_L3 gX12_power_L3
      refine sm_if (sy_le32 q3 q30) ?_ ?_
      · exact hk29 _ _ qt31
      · refine sm_bV (sX12_timesTable_ok hι qt31 q0) (fun _ t33 qt33 => ?_)
        refine sm_f ?_
        exact hk32 _ _ _ _ (yI_add q30 (yI_lit 1)) qt33
    · exact hk24 _ _ qt25
noncomputable def sX12_actOnAll_L1 (e : Se) (a0 : Nat) : (Nat → Sy → Option (Sy)) → Nat → Sy → Option (Sy) :=
  fun (k25 : Nat → Sy → Option (Sy)) (c23 : Nat) (t24 : Sy) => sbi (sX12_stateMany e t24 a0) (fun c26 => syc (Nat.ble (syo32 c26) (syo32 c23)) (some t24)
  (srR t24 a0 16 (fun c27 => srR t24 a0 17 (fun c28 => syr c28 (fun a29 => syi e a29 c23 (fun p30 => srJ t24 a29 p30 (fun c31 => syr c27 (fun a32 => syi e a32 c23 (fun p33 => swJ e t24 a32 p33 c31 (fun t34 => syf (Nat.add c23 1) (fun c35 => k25 c35 t34)))))))))))
noncomputable def sX12_actOnAll_J2 (e : Se) (a0 : Nat) : Sy → Option (Sy) :=
  fun (t22 : Sy) => syl (fun _ _ => (none : Option (Sy))) (sX12_actOnAll_L1 e a0) zFU 0 t22
noncomputable def sX12_actOnAll_J3 (c37 : Nat) (k39 : Nat → Sy → Option (Sy)) : Sy → Option (Sy) :=
  fun (t41 : Sy) => syf (Nat.add c37 1) (fun c42 => k39 c42 t41)
noncomputable def sX12_actOnAll_J4 (c44 : Nat) (k46 : Nat → Sy → Option (Sy)) : Sy → Option (Sy) :=
  fun (t66 : Sy) => syf (Nat.add c44 1) (fun c67 => k46 c67 t66)
noncomputable def sX12_actOnAll_J5 (e : Se) (a0 : Nat) (c37 : Nat) (c44 : Nat) (t45 : Sy) (k46 : Nat → Sy → Option (Sy)) (c53 : Nat) (c54 : Nat) (a56 : Nat) (c58 : Nat) : Nat → Option (Sy) :=
  fun (c59 : Nat) => srR t45 a0 16 (fun c60 => syr c60 (fun a61 => syi e a61 c37 (fun p62 => srJ t45 a61 p62 (fun c63 => syi e a56 c37 (fun p64 => swJ e t45 a56 p64 (Nat.add c58 (Nat.mul (sy2l c59) c63)) (fun t65 => zjn (sX12_actOnAll_J4 c44 k46) (fun (k68 : Sy → Option (Sy)) =>
  syc (Nat.beq (Nat.mod c54 4294967296) (Nat.mod 0 4294967296)) (srR t65 a0 17 (fun c69 => syf (Nat.xor (Nat.xor c37 (Nat.shiftLeft 1 (Nat.mod c44 32))) (Nat.shiftLeft 1 (Nat.mod c53 32))) (fun c70 => syr c69 (fun a71 => syi e a71 c70 (fun p72 => srJ t65 a71 p72 (fun c73 => srI t65 a0 3 (fun c74 => srR t65 a0 16 (fun c75 => syr c75 (fun a76 => syi e a76 c37 (fun p77 => srJ t65 a76 p77 (fun c78 => syi e a71 c70 (fun p79 => swJ e t65 a71 p79 (Nat.add c73 (Nat.mul (sy2l c74) c78)) (fun t80 => k68 t80)))))))))))))
  (k68 t65))))))))
noncomputable def sX12_actOnAll_L6 (e : Se) (a0 : Nat) (c37 : Nat) (k43 : Sy → Option (Sy)) : (Nat → Sy → Option (Sy)) → Nat → Sy → Option (Sy) :=
  fun (k46 : Nat → Sy → Option (Sy)) (c44 : Nat) (t45 : Sy) => sbi (sX12_pairMany e t45 a0) (fun c47 => syc (Nat.ble (syo32 c47) (syo32 c44)) (k43 t45)
  (srR t45 a0 16 (fun c48 => syr c48 (fun a49 => syi e a49 c37 (fun p50 => srJ t45 a49 p50 (fun c51 => syc (Nat.beq (Nat.mod (sycmp c51 0) 4294967296) (Nat.mod 0 4294967296)) (k43 t45)
  (srI t45 a0 1 (fun c52 => syc (Nat.beq (Nat.mod c52 4294967296) (Nat.mod 0 4294967296)) none (syf (Nat.add (Nat.add c44 1) (syn32 (Nat.mul (syd 4294967296 (Nat.mod (Nat.add c44 1) 4294967296) (Nat.mod c52 4294967296)) c52))) (fun c53 => sbi (sX12_areAlike a0 c37 c44 c53) (fun c54 => srR t45 a0 17 (fun c55 => syr c55 (fun a56 => syi e a56 c37 (fun p57 => srJ t45 a56 p57 (fun c58 => zjn (sX12_actOnAll_J5 e a0 c37 c44 t45 k46 c53 c54 a56 c58) (fun (k81 : Nat → Option (Sy)) =>
  syc (Nat.beq (Nat.mod c54 4294967296) (Nat.mod 0 4294967296)) (srI t45 a0 4 (fun c82 => syf (syn32 c82) (fun c83 => k81 c83)))
  (srI t45 a0 4 (fun c84 => k81 c84))))))))))))))))))
noncomputable def sX12_actOnAll_L7 (e : Se) (a0 : Nat) (k36 : Sy → Option (Sy)) : (Nat → Sy → Option (Sy)) → Nat → Sy → Option (Sy) :=
  fun (k39 : Nat → Sy → Option (Sy)) (c37 : Nat) (t38 : Sy) => sbi (sX12_stateMany e t38 a0) (fun c40 => syc (Nat.ble (syo32 c40) (syo32 c37)) (k36 t38)
  (zjn (sX12_actOnAll_J3 c37 k39) (fun (k43 : Sy → Option (Sy)) =>
  syl (fun _ _ => (none : Option (Sy))) (sX12_actOnAll_L6 e a0 c37 k43) zFU 0 t38)))
noncomputable def sX12_actOnAll_J8 (e : Se) (a0 : Nat) : Sy → Option (Sy) :=
  fun (t21 : Sy) => zjn (sX12_actOnAll_J2 e a0) (fun (k36 : Sy → Option (Sy)) =>
  syl (fun _ _ => (none : Option (Sy))) (sX12_actOnAll_L7 e a0 k36) zFU 0 t21)
noncomputable def sX12_actOnAll_L9 (e : Se) (a0 : Nat) (k85 : Sy → Option (Sy)) : (Nat → Sy → Option (Sy)) → Nat → Sy → Option (Sy) :=
  fun (k88 : Nat → Sy → Option (Sy)) (c86 : Nat) (t87 : Sy) => sbi (sX12_stateMany e t87 a0) (fun c89 => syc (Nat.ble (syo32 c89) (syo32 c86)) (k85 t87)
  (srR t87 a0 17 (fun c90 => syr c90 (fun a91 => syi e a91 c86 (fun p92 => swJ e t87 a91 p92 0 (fun t93 => syf (Nat.add c86 1) (fun c94 => k88 c94 t93)))))))
noncomputable def sX12_actOnAll (e : Se) (t : Sy) (a0 : Nat) : Option (Sy) :=
  zjn (sX12_actOnAll_J8 e a0) (fun (k85 : Sy → Option (Sy)) =>
  syl (fun _ _ => (none : Option (Sy))) (sX12_actOnAll_L9 e a0 k85) zFU 0 t)
theorem sX12_actOnAll_ok {ι : Nat → Nat} {e : Se} {h0 h : Zh} {t : Sy} (hι : ∀ a b, ι a = ι b → a = b) (qt : syR ι e h0 t h) {x0 : Nat} {a0 : Nat} (q0 : yA ι x0 a0) : Sm (fun b a => syR ι e h0 b a) (sX12_actOnAll e t a0) (gX12_actOnAll h x0) := by
  unfold sX12_actOnAll gX12_actOnAll
  refine sm_jn (fun (k' : Sy → Option (Sy)) (k : Zh → Option (Zh)) => ∀ (t21 : Sy) (h21 : Zh), syR ι e h0 t21 h21 → Sm (fun b a => syR ι e h0 b a) (k' t21) (k h21)) ?_ ?_
  · intro t21 h21 qt21
    unfold sX12_actOnAll_J8 gX12_actOnAll_J8
    refine sm_jn (fun (k' : Sy → Option (Sy)) (k : Zh → Option (Zh)) => ∀ (t22 : Sy) (h22 : Zh), syR ι e h0 t22 h22 → Sm (fun b a => syR ι e h0 b a) (k' t22) (k h22)) ?_ ?_
    · intro t22 h22 qt22
      unfold sX12_actOnAll_J2 gX12_actOnAll_J2
      refine sm_lp (fun (k' : Nat → Sy → Option (Sy)) (k : Int32 → Zh → Option (Zh)) => ∀ (c23 : Nat) (x23 : Int32) (t24 : Sy) (h24 : Zh), yI x23 c23 → syR ι e h0 t24 h24 → Sm (fun b a => syR ι e h0 b a) (k' c23 t24) (k x23 h24)) ?_ ?_ zFU _ _ _ _ (yI_lit 0) qt22
      · exact fun _ _ _ _ _ _ => sm_none
      intro k25 gk25 hk25
      intro c23 x23 t24 h24 q23 qt24
      unfold sX12_actOnAll_L1 gX12_actOnAll_L1
      refine sm_bi (sX12_stateMany_ok hι qt24 q0) (fun _ c26 q26 => ?_)
      refine sm_if (sy_le32 q26 q23) ?_ ?_
      · exact sm_some qt24
      · refine sm_rR qt24 q0 rfl (fun _ c27 q27 => ?_)
        refine sm_rR qt24 q0 rfl (fun _ c28 q28 => ?_)
        refine sm_dr q28 (fun _ a29 q29 => ?_)
        refine sm_in qt24 q29 q23 (fun p30 q30 => ?_)
        refine sm_rJ qt24 q29 q30 (fun c31 q31 => ?_)
        refine sm_dr q27 (fun _ a32 q32 => ?_)
        refine sm_in qt24 q32 q23 (fun p33 q33 => ?_)
        refine sm_wJ hι qt24 q32 q33 q31 (fun _ t34 qt34 => ?_)
        refine sm_f ?_
        exact hk25 _ _ _ _ (yI_add q23 (yI_lit 1)) qt34
    intro k36 gk36 hk36
    refine sm_lp (fun (k' : Nat → Sy → Option (Sy)) (k : Int32 → Zh → Option (Zh)) => ∀ (c37 : Nat) (x37 : Int32) (t38 : Sy) (h38 : Zh), yI x37 c37 → syR ι e h0 t38 h38 → Sm (fun b a => syR ι e h0 b a) (k' c37 t38) (k x37 h38)) ?_ ?_ zFU _ _ _ _ (yI_lit 0) qt21
    · exact fun _ _ _ _ _ _ => sm_none
    intro k39 gk39 hk39
    intro c37 x37 t38 h38 q37 qt38
    unfold sX12_actOnAll_L7 gX12_actOnAll_L7
    refine sm_bi (sX12_stateMany_ok hι qt38 q0) (fun _ c40 q40 => ?_)
    refine sm_if (sy_le32 q40 q37) ?_ ?_
    · exact hk36 _ _ qt38
    · refine sm_jn (fun (k' : Sy → Option (Sy)) (k : Zh → Option (Zh)) => ∀ (t41 : Sy) (h41 : Zh), syR ι e h0 t41 h41 → Sm (fun b a => syR ι e h0 b a) (k' t41) (k h41)) ?_ ?_
      · intro t41 h41 qt41
        unfold sX12_actOnAll_J3 gX12_actOnAll_J3
        refine sm_f ?_
        exact hk39 _ _ _ _ (yI_add q37 (yI_lit 1)) qt41
      intro k43 gk43 hk43
      refine sm_lp (fun (k' : Nat → Sy → Option (Sy)) (k : Int32 → Zh → Option (Zh)) => ∀ (c44 : Nat) (x44 : Int32) (t45 : Sy) (h45 : Zh), yI x44 c44 → syR ι e h0 t45 h45 → Sm (fun b a => syR ι e h0 b a) (k' c44 t45) (k x44 h45)) ?_ ?_ zFU _ _ _ _ (yI_lit 0) qt38
      · exact fun _ _ _ _ _ _ => sm_none
      intro k46 gk46 hk46
      intro c44 x44 t45 h45 q44 qt45
      unfold sX12_actOnAll_L6 gX12_actOnAll_L6
      refine sm_bi (sX12_pairMany_ok hι qt45 q0) (fun _ c47 q47 => ?_)
      refine sm_if (sy_le32 q47 q44) ?_ ?_
      · exact hk43 _ _ qt45
      · refine sm_rR qt45 q0 rfl (fun _ c48 q48 => ?_)
        refine sm_dr q48 (fun _ a49 q49 => ?_)
        refine sm_in qt45 q49 q37 (fun p50 q50 => ?_)
        refine sm_rJ qt45 q49 q50 (fun c51 q51 => ?_)
        refine sm_if (sy_eq32 (yI_cmp q51 (yJ_lit 0)) (yI_lit 0)) ?_ ?_
        · exact hk43 _ _ qt45
        · refine sm_rI qt45 q0 rfl (fun c52 q52 => ?_)
          refine sm_if (sy_eq32 q52 (yI_lit 0)) sm_none ?_
          refine sm_lti (yI_sub (yI_add q44 (yI_lit 1)) (yI_mul (yI_div (yI_add q44 (yI_lit 1)) q52) q52)) (fun _ c53 q53 => ?_)
          refine sm_bi (sX12_areAlike_ok q0 q37 q44 q53) (fun _ c54 q54 => ?_)
          refine sm_rR qt45 q0 rfl (fun _ c55 q55 => ?_)
          refine sm_dr q55 (fun _ a56 q56 => ?_)
          refine sm_in qt45 q56 q37 (fun p57 q57 => ?_)
          refine sm_rJ qt45 q56 q57 (fun c58 q58 => ?_)
          refine sm_jn (fun (k' : Nat → Option (Sy)) (k : Int32 → Option (Zh)) => ∀ (c59 : Nat) (x59 : Int32), yI x59 c59 → Sm (fun b a => syR ι e h0 b a) (k' c59) (k x59)) ?_ ?_
          · intro c59 x59 q59
            unfold sX12_actOnAll_J5 gX12_actOnAll_J5
            refine sm_rR qt45 q0 rfl (fun _ c60 q60 => ?_)
            refine sm_dr q60 (fun _ a61 q61 => ?_)
            refine sm_in qt45 q61 q37 (fun p62 q62 => ?_)
            refine sm_rJ qt45 q61 q62 (fun c63 q63 => ?_)
            refine sm_in qt45 q56 q37 (fun p64 q64 => ?_)
            refine sm_wJ hι qt45 q56 q64 (yJ_add q58 (yJ_mul (yJ_i2l q59) q63)) (fun _ t65 qt65 => ?_)
            refine sm_jn (fun (k' : Sy → Option (Sy)) (k : Zh → Option (Zh)) => ∀ (t66 : Sy) (h66 : Zh), syR ι e h0 t66 h66 → Sm (fun b a => syR ι e h0 b a) (k' t66) (k h66)) ?_ ?_
            · intro t66 h66 qt66
              unfold sX12_actOnAll_J4 gX12_actOnAll_J4
              refine sm_f ?_
              exact hk46 _ _ _ _ (yI_add q44 (yI_lit 1)) qt66
            intro k68 gk68 hk68
            refine sm_if (sy_eq32 q54 (yI_lit 0)) ?_ ?_
            · refine sm_rR qt65 q0 rfl (fun _ c69 q69 => ?_)
              refine sm_lti (yI_xor (yI_xor q37 (yI_shl (yI_lit 1) q44)) (yI_shl (yI_lit 1) q53)) (fun _ c70 q70 => ?_)
              refine sm_dr q69 (fun _ a71 q71 => ?_)
              refine sm_in qt65 q71 q70 (fun p72 q72 => ?_)
              refine sm_rJ qt65 q71 q72 (fun c73 q73 => ?_)
              refine sm_rI qt65 q0 rfl (fun c74 q74 => ?_)
              refine sm_rR qt65 q0 rfl (fun _ c75 q75 => ?_)
              refine sm_dr q75 (fun _ a76 q76 => ?_)
              refine sm_in qt65 q76 q37 (fun p77 q77 => ?_)
              refine sm_rJ qt65 q76 q77 (fun c78 q78 => ?_)
              refine sm_in qt65 q71 q70 (fun p79 q79 => ?_)
              refine sm_wJ hι qt65 q71 q79 (yJ_add q73 (yJ_mul (yJ_i2l q74) q78)) (fun _ t80 qt80 => ?_)
              exact hk68 _ _ qt80
            · exact hk68 _ _ qt65
          intro k81 gk81 hk81
          refine sm_if (sy_eq32 q54 (yI_lit 0)) ?_ ?_
          · refine sm_rI qt45 q0 rfl (fun c82 q82 => ?_)
            refine sm_f ?_
            exact hk81 _ _ (yI_neg q82)
          · refine sm_rI qt45 q0 rfl (fun c84 q84 => ?_)
            exact hk81 _ _ q84
  intro k85 gk85 hk85
  refine sm_lp (fun (k' : Nat → Sy → Option (Sy)) (k : Int32 → Zh → Option (Zh)) => ∀ (c86 : Nat) (x86 : Int32) (t87 : Sy) (h87 : Zh), yI x86 c86 → syR ι e h0 t87 h87 → Sm (fun b a => syR ι e h0 b a) (k' c86 t87) (k x86 h87)) ?_ ?_ zFU _ _ _ _ (yI_lit 0) qt
  · exact fun _ _ _ _ _ _ => sm_none
  intro k88 gk88 hk88
  intro c86 x86 t87 h87 q86 qt87
  unfold sX12_actOnAll_L9 gX12_actOnAll_L9
  refine sm_bi (sX12_stateMany_ok hι qt87 q0) (fun _ c89 q89 => ?_)
  refine sm_if (sy_le32 q89 q86) ?_ ?_
  · exact hk85 _ _ qt87
  · refine sm_rR qt87 q0 rfl (fun _ c90 q90 => ?_)
    refine sm_dr q90 (fun _ a91 q91 => ?_)
    refine sm_in qt87 q91 q86 (fun p92 q92 => ?_)
    refine sm_wJ hι qt87 q91 q92 (yJ_lit 0) (fun _ t93 qt93 => ?_)
    refine sm_f ?_
    exact hk88 _ _ _ _ (yI_add q86 (yI_lit 1)) qt93
noncomputable def sX12_powerOf_J1 (t : Sy) : Option (Nat × Sy) :=
  sbj (sX12_lost ) (fun c23 => some (c23, t))
noncomputable def sX12_powerOf_J2 (c27 : Nat) (k29 : Nat → Nat → Sy → Option (Nat × Sy)) : Nat → Sy → Option (Nat × Sy) :=
  fun (c32 : Nat) (t33 : Sy) => syf (Nat.add c27 1) (fun c34 => k29 c32 c34 t33)
noncomputable def sX12_powerOf_J3 (e : Se) (a0 : Nat) (c26 : Nat) (c27 : Nat) (k35 : Nat → Sy → Option (Nat × Sy)) : Sy → Option (Nat × Sy) :=
  fun (t37 : Sy) => srR t37 a0 16 (fun c38 => syr c38 (fun a39 => syi e a39 c27 (fun p40 => srJ t37 a39 p40 (fun c41 => syf (Nat.add c26 c41) (fun c42 => k35 c42 t37)))))
noncomputable def sX12_powerOf_L4 (e : Se) (a0 : Nat) (c2 : Nat) (k43 : Sy → Option (Nat × Sy)) : (Nat → Sy → Option (Nat × Sy)) → Nat → Sy → Option (Nat × Sy) :=
  fun (k46 : Nat → Sy → Option (Nat × Sy)) (c44 : Nat) (t45 : Sy) => syc (Nat.ble (syo32 c2) (syo32 c44)) (k43 t45)
  (sbV (sX12_actOnAll e t45 a0) (fun t47 => syf (Nat.add c44 1) (fun c48 => k46 c48 t47)))
noncomputable def sX12_powerOf_J5 (e : Se) (a0 : Nat) (c2 : Nat) (c26 : Nat) (c27 : Nat) (k35 : Nat → Sy → Option (Nat × Sy)) : Sy → Option (Nat × Sy) :=
  fun (t36 : Sy) => zjn (sX12_powerOf_J3 e a0 c26 c27 k35) (fun (k43 : Sy → Option (Nat × Sy)) =>
  syl (fun _ _ => (none : Option (Nat × Sy))) (sX12_powerOf_L4 e a0 c2 k43) zFU 0 t36)
noncomputable def sX12_powerOf_J6 (e : Se) (c50 : Nat) (t51 : Sy) (k52 : Nat → Sy → Option (Nat × Sy)) (c54 : Nat) : Nat → Option (Nat × Sy) :=
  fun (c55 : Nat) => syr c54 (fun a56 => syi e a56 c50 (fun p57 => swJ e t51 a56 p57 c55 (fun t58 => syf (Nat.add c50 1) (fun c59 => k52 c59 t58))))
noncomputable def sX12_powerOf_L7 (e : Se) (a0 : Nat) (c27 : Nat) (k49 : Sy → Option (Nat × Sy)) : (Nat → Sy → Option (Nat × Sy)) → Nat → Sy → Option (Nat × Sy) :=
  fun (k52 : Nat → Sy → Option (Nat × Sy)) (c50 : Nat) (t51 : Sy) => sbi (sX12_stateMany e t51 a0) (fun c53 => syc (Nat.ble (syo32 c53) (syo32 c50)) (k49 t51)
  (srR t51 a0 16 (fun c54 => zjn (sX12_powerOf_J6 e c50 t51 k52 c54) (fun (k60 : Nat → Option (Nat × Sy)) =>
  syc (Nat.beq (Nat.mod c50 4294967296) (Nat.mod c27 4294967296)) (k60 1)
  (k60 0)))))
noncomputable def sX12_powerOf_L8 (e : Se) (a0 : Nat) (c1 : Nat) (c2 : Nat) : (Nat → Nat → Sy → Option (Nat × Sy)) → Nat → Nat → Sy → Option (Nat × Sy) :=
  fun (k29 : Nat → Nat → Sy → Option (Nat × Sy)) (c26 : Nat) (c27 : Nat) (t28 : Sy) => sbi (sX12_stateMany e t28 a0) (fun c30 => syc (Nat.ble (syo32 c30) (syo32 c27)) (some (c26, t28))
  (sbi (sX12_count c27) (fun c31 => zjn (sX12_powerOf_J2 c27 k29) (fun (k35 : Nat → Sy → Option (Nat × Sy)) =>
  syc (Nat.beq (Nat.mod c31 4294967296) (Nat.mod c1 4294967296)) (zjn (sX12_powerOf_J5 e a0 c2 c26 c27 k35) (fun (k49 : Sy → Option (Nat × Sy)) =>
  syl (fun _ _ => (none : Option (Nat × Sy))) (sX12_powerOf_L7 e a0 c27 k49) zFU 0 t28))
  (k35 c26 t28)))))
noncomputable def sX12_powerOf (e : Se) (t : Sy) (a0 : Nat) (c1 : Nat) (c2 : Nat) : Option (Nat × Sy) :=
  srI t a0 1 (fun c21 => sbi (sX12_in (sy2l c1) 0 (sy2l c21)) (fun c22 => zjn (sX12_powerOf_J1 t) (fun (k24 : Option (Nat × Sy)) =>
  syc (Nat.beq (Nat.mod c22 4294967296) (Nat.mod 0 4294967296)) (k24)
  (sbi (sX12_in (sy2l c2) 1 4) (fun c25 => syc (Nat.beq (Nat.mod c25 4294967296) (Nat.mod 0 4294967296)) (k24)
  (syl (fun _ _ _ => (none : Option (Nat × Sy))) (sX12_powerOf_L8 e a0 c1 c2) zFU 0 0 t))))))
theorem sX12_powerOf_ok {ι : Nat → Nat} {e : Se} {h0 h : Zh} {t : Sy} (hι : ∀ a b, ι a = ι b → a = b) (qt : syR ι e h0 t h) {x0 : Nat} {a0 : Nat} {x1 : Int32} {c1 : Nat} {x2 : Int32} {c2 : Nat} (q0 : yA ι x0 a0) (q1 : yI x1 c1) (q2 : yI x2 c2) : Sm (fun b a => yJ a.1 b.1 ∧ syR ι e h0 b.2 a.2) (sX12_powerOf e t a0 c1 c2) (gX12_powerOf h x0 x1 x2) := by
  unfold sX12_powerOf gX12_powerOf
  refine sm_rI qt q0 rfl (fun c21 q21 => ?_)
  refine sm_bi (sX12_in_ok (yJ_i2l q1) (yJ_lit 0) (yJ_i2l q21)) (fun _ c22 q22 => ?_)
  refine sm_jn (fun (k' : Option (Nat × Sy)) (k : Option (Int64 × Zh)) => Sm (fun b a => yJ a.1 b.1 ∧ syR ι e h0 b.2 a.2) k' k) ?_ ?_
  · skip
    unfold sX12_powerOf_J1 gX12_powerOf_J1
    refine sm_bj (sX12_lost_ok ) (fun _ c23 q23 => ?_)
    exact sm_some ⟨q23, qt⟩
  intro k24 gk24 hk24
  refine sm_if (sy_eq32 q22 (yI_lit 0)) ?_ ?_
  · exact hk24
  · refine sm_bi (sX12_in_ok (yJ_i2l q2) (yJ_lit 1) (yJ_lit 4)) (fun _ c25 q25 => ?_)
    refine sm_if (sy_eq32 q25 (yI_lit 0)) ?_ ?_
    · exact hk24
    · refine sm_lp (fun (k' : Nat → Nat → Sy → Option (Nat × Sy)) (k : Int64 → Int32 → Zh → Option (Int64 × Zh)) => ∀ (c26 : Nat) (x26 : Int64) (c27 : Nat) (x27 : Int32) (t28 : Sy) (h28 : Zh), yJ x26 c26 → yI x27 c27 → syR ι e h0 t28 h28 → Sm (fun b a => yJ a.1 b.1 ∧ syR ι e h0 b.2 a.2) (k' c26 c27 t28) (k x26 x27 h28)) ?_ ?_ zFU _ _ _ _ _ _ (yJ_lit 0) (yI_lit 0) qt
      · exact fun _ _ _ _ _ _ _ _ _ => sm_none
      intro k29 gk29 hk29
      intro c26 x26 c27 x27 t28 h28 q26 q27 qt28
      unfold sX12_powerOf_L8 gX12_powerOf_L8
      refine sm_bi (sX12_stateMany_ok hι qt28 q0) (fun _ c30 q30 => ?_)
      refine sm_if (sy_le32 q30 q27) ?_ ?_
      · exact sm_some ⟨q26, qt28⟩
      · refine sm_bi (sX12_count_ok q27) (fun _ c31 q31 => ?_)
        refine sm_jn (fun (k' : Nat → Sy → Option (Nat × Sy)) (k : Int64 → Zh → Option (Int64 × Zh)) => ∀ (c32 : Nat) (x32 : Int64) (t33 : Sy) (h33 : Zh), yJ x32 c32 → syR ι e h0 t33 h33 → Sm (fun b a => yJ a.1 b.1 ∧ syR ι e h0 b.2 a.2) (k' c32 t33) (k x32 h33)) ?_ ?_
        · intro c32 x32 t33 h33 q32 qt33
          unfold sX12_powerOf_J2 gX12_powerOf_J2
          refine sm_f ?_
          exact hk29 _ _ _ _ _ _ q32 (yI_add q27 (yI_lit 1)) qt33
        intro k35 gk35 hk35
        refine sm_if (sy_eq32 q31 q1) ?_ ?_
        · refine sm_jn (fun (k' : Sy → Option (Nat × Sy)) (k : Zh → Option (Int64 × Zh)) => ∀ (t36 : Sy) (h36 : Zh), syR ι e h0 t36 h36 → Sm (fun b a => yJ a.1 b.1 ∧ syR ι e h0 b.2 a.2) (k' t36) (k h36)) ?_ ?_
          · intro t36 h36 qt36
            unfold sX12_powerOf_J5 gX12_powerOf_J5
            refine sm_jn (fun (k' : Sy → Option (Nat × Sy)) (k : Zh → Option (Int64 × Zh)) => ∀ (t37 : Sy) (h37 : Zh), syR ι e h0 t37 h37 → Sm (fun b a => yJ a.1 b.1 ∧ syR ι e h0 b.2 a.2) (k' t37) (k h37)) ?_ ?_
            · intro t37 h37 qt37
              unfold sX12_powerOf_J3 gX12_powerOf_J3
              refine sm_rR qt37 q0 rfl (fun _ c38 q38 => ?_)
              refine sm_dr q38 (fun _ a39 q39 => ?_)
              refine sm_in qt37 q39 q27 (fun p40 q40 => ?_)
              refine sm_rJ qt37 q39 q40 (fun c41 q41 => ?_)
              refine sm_ltj (yJ_add q26 q41) (fun _ c42 q42 => ?_)
              exact hk35 _ _ _ _ q42 qt37
            intro k43 gk43 hk43
            refine sm_lp (fun (k' : Nat → Sy → Option (Nat × Sy)) (k : Int32 → Zh → Option (Int64 × Zh)) => ∀ (c44 : Nat) (x44 : Int32) (t45 : Sy) (h45 : Zh), yI x44 c44 → syR ι e h0 t45 h45 → Sm (fun b a => yJ a.1 b.1 ∧ syR ι e h0 b.2 a.2) (k' c44 t45) (k x44 h45)) ?_ ?_ zFU _ _ _ _ (yI_lit 0) qt36
            · exact fun _ _ _ _ _ _ => sm_none
            intro k46 gk46 hk46
            intro c44 x44 t45 h45 q44 qt45
            unfold sX12_powerOf_L4 gX12_powerOf_L4
            refine sm_if (sy_le32 q2 q44) ?_ ?_
            · exact hk43 _ _ qt45
            · refine sm_bV (sX12_actOnAll_ok hι qt45 q0) (fun _ t47 qt47 => ?_)
              refine sm_f ?_
              exact hk46 _ _ _ _ (yI_add q44 (yI_lit 1)) qt47
          intro k49 gk49 hk49
          refine sm_lp (fun (k' : Nat → Sy → Option (Nat × Sy)) (k : Int32 → Zh → Option (Int64 × Zh)) => ∀ (c50 : Nat) (x50 : Int32) (t51 : Sy) (h51 : Zh), yI x50 c50 → syR ι e h0 t51 h51 → Sm (fun b a => yJ a.1 b.1 ∧ syR ι e h0 b.2 a.2) (k' c50 t51) (k x50 h51)) ?_ ?_ zFU _ _ _ _ (yI_lit 0) qt28
          · exact fun _ _ _ _ _ _ => sm_none
          intro k52 gk52 hk52
          intro c50 x50 t51 h51 q50 qt51
          unfold sX12_powerOf_L7 gX12_powerOf_L7
          refine sm_bi (sX12_stateMany_ok hι qt51 q0) (fun _ c53 q53 => ?_)
          refine sm_if (sy_le32 q53 q50) ?_ ?_
          · exact hk49 _ _ qt51
          · refine sm_rR qt51 q0 rfl (fun _ c54 q54 => ?_)
            refine sm_jn (fun (k' : Nat → Option (Nat × Sy)) (k : Int64 → Option (Int64 × Zh)) => ∀ (c55 : Nat) (x55 : Int64), yJ x55 c55 → Sm (fun b a => yJ a.1 b.1 ∧ syR ι e h0 b.2 a.2) (k' c55) (k x55)) ?_ ?_
            · intro c55 x55 q55
              unfold sX12_powerOf_J6 gX12_powerOf_J6
              refine sm_dr q54 (fun _ a56 q56 => ?_)
              refine sm_in qt51 q56 q50 (fun p57 q57 => ?_)
              refine sm_wJ hι qt51 q56 q57 q55 (fun _ t58 qt58 => ?_)
              refine sm_f ?_
              exact hk52 _ _ _ _ (yI_add q50 (yI_lit 1)) qt58
            intro k60 gk60 hk60
            refine sm_if (sy_eq32 q50 q27) ?_ ?_
            · exact hk60 _ _ (yJ_lit 1)
            · exact hk60 _ _ (yJ_lit 0)
        · exact hk35 _ _ _ _ q26 qt28
noncomputable def sX12_layAdjoint_L1 (e : Se) (a0 : Nat) (c1 : Nat) (c21 : Nat) : (Nat → Sy → Option (Sy)) → Nat → Sy → Option (Sy) :=
  fun (k28 : Nat → Sy → Option (Sy)) (c26 : Nat) (t27 : Sy) => syc (Nat.ble (syo32 c21) (syo32 c26)) (some t27)
  (srR t27 a0 10 (fun c29 => syf (Nat.mul 11 c26) (fun c30 => syr c29 (fun a31 => syi e a31 c30 (fun p32 => srJ t27 a31 p32 (fun c33 => syi e a31 c30 (fun p34 => swJ e t27 a31 p34 (Nat.add c33 (sy2l c1)) (fun t35 => syf (Nat.add c26 1) (fun c36 => k28 c36 t35)))))))))
noncomputable def sX12_layAdjoint_J2 (e : Se) (a0 : Nat) (c1 : Nat) (c21 : Nat) : Sy → Option (Sy) :=
  fun (t25 : Sy) => syl (fun _ _ => (none : Option (Sy))) (sX12_layAdjoint_L1 e a0 c1 c21) zFU 0 t25
noncomputable def sX12_layAdjoint_J3 (c38 : Nat) (k40 : Nat → Sy → Option (Sy)) : Sy → Option (Sy) :=
  fun (t51 : Sy) => syf (Nat.add c38 1) (fun c52 => k40 c52 t51)
noncomputable def sX12_layAdjoint_L4 (e : Se) (a0 : Nat) (c21 : Nat) (c50 : Nat) (k53 : Sy → Option (Sy)) : (Nat → Sy → Option (Sy)) → Nat → Sy → Option (Sy) :=
  fun (k56 : Nat → Sy → Option (Sy)) (c54 : Nat) (t55 : Sy) => syc (Nat.ble (syo32 c21) (syo32 c54)) (k53 t55)
  (srR t55 a0 12 (fun c57 => syf (Nat.mul 11 c54) (fun c58 => syr c57 (fun a59 => syi e a59 c58 (fun p60 => srJ t55 a59 p60 (fun c61 => syi e a59 c58 (fun p62 => swJ e t55 a59 p62 (Nat.add c61 c50) (fun t63 => syf (Nat.add c54 1) (fun c64 => k56 c64 t63)))))))))
noncomputable def sX12_layAdjoint_L5 (e : Se) (a0 : Nat) (c21 : Nat) (k37 : Sy → Option (Sy)) : (Nat → Sy → Option (Sy)) → Nat → Sy → Option (Sy) :=
  fun (k40 : Nat → Sy → Option (Sy)) (c38 : Nat) (t39 : Sy) => syc (Nat.ble (syo32 c21) (syo32 c38)) (k37 t39)
  (sbV (sX12_timesTable e t39 a0) (fun t41 => srR t41 a0 14 (fun c42 => syr c42 (fun a43 => syi e a43 (Nat.add c21 (syn32 c38)) (fun p44 => srJ t41 a43 p44 (fun c45 => srR t41 a0 15 (fun c46 => syr c46 (fun a47 => syi e a47 (Nat.add c21 (syn32 c38)) (fun p48 => srJ t41 a47 p48 (fun c49 => syf (Nat.add (Nat.mul c45 1099511627776) c49) (fun c50 => zjn (sX12_layAdjoint_J3 c38 k40) (fun (k53 : Sy → Option (Sy)) =>
  syl (fun _ _ => (none : Option (Sy))) (sX12_layAdjoint_L4 e a0 c21 c50 k53) zFU 0 t41))))))))))))
noncomputable def sX12_layAdjoint_J6 (e : Se) (a0 : Nat) (c1 : Nat) (c21 : Nat) : Sy → Option (Sy) :=
  fun (t23 : Sy) => sbV (sX12_unitPower e t23 a0) (fun t24 => zjn (sX12_layAdjoint_J2 e a0 c1 c21) (fun (k37 : Sy → Option (Sy)) =>
  syl (fun _ _ => (none : Option (Sy))) (sX12_layAdjoint_L5 e a0 c21 k37) zFU 1 t24))
noncomputable def sX12_layAdjoint_L7 (e : Se) (a0 : Nat) (c1 : Nat) (c21 : Nat) (k65 : Sy → Option (Sy)) : (Nat → Sy → Option (Sy)) → Nat → Sy → Option (Sy) :=
  fun (k68 : Nat → Sy → Option (Sy)) (c66 : Nat) (t67 : Sy) => syc (Nat.ble (syo32 c21) (syo32 c66)) (k65 t67)
  (srR t67 a0 10 (fun c69 => syf (Nat.mul 11 c66) (fun c70 => syr c69 (fun a71 => syi e a71 c70 (fun p72 => srJ t67 a71 p72 (fun c73 => syi e a71 c70 (fun p74 => swJ e t67 a71 p74 (Nat.add c73 (syn64 (sy2l c1))) (fun t75 => syf (Nat.add c66 1) (fun c76 => k68 c76 t75)))))))))
noncomputable def sX12_layAdjoint (e : Se) (t : Sy) (a0 : Nat) (c1 : Nat) : Option (Sy) :=
  srI t a0 5 (fun c21 => zjn (sX12_layAdjoint_J6 e a0 c1 c21) (fun (k65 : Sy → Option (Sy)) =>
  syl (fun _ _ => (none : Option (Sy))) (sX12_layAdjoint_L7 e a0 c1 c21 k65) zFU 0 t))
theorem sX12_layAdjoint_ok {ι : Nat → Nat} {e : Se} {h0 h : Zh} {t : Sy} (hι : ∀ a b, ι a = ι b → a = b) (qt : syR ι e h0 t h) {x0 : Nat} {a0 : Nat} {x1 : Int32} {c1 : Nat} (q0 : yA ι x0 a0) (q1 : yI x1 c1) : Sm (fun b a => syR ι e h0 b a) (sX12_layAdjoint e t a0 c1) (gX12_layAdjoint h x0 x1) := by
  unfold sX12_layAdjoint gX12_layAdjoint
  refine sm_rI qt q0 rfl (fun c21 q21 => ?_)
  refine sm_lt0i q21 (fun _ q22 => ?_)
  refine sm_jn (fun (k' : Sy → Option (Sy)) (k : Zh → Option (Zh)) => ∀ (t23 : Sy) (h23 : Zh), syR ι e h0 t23 h23 → Sm (fun b a => syR ι e h0 b a) (k' t23) (k h23)) ?_ ?_
  · intro t23 h23 qt23
    unfold sX12_layAdjoint_J6 gX12_layAdjoint_J6
    refine sm_bV (sX12_unitPower_ok hι qt23 q0) (fun _ t24 qt24 => ?_)
    refine sm_jn (fun (k' : Sy → Option (Sy)) (k : Zh → Option (Zh)) => ∀ (t25 : Sy) (h25 : Zh), syR ι e h0 t25 h25 → Sm (fun b a => syR ι e h0 b a) (k' t25) (k h25)) ?_ ?_
    · intro t25 h25 qt25
      unfold sX12_layAdjoint_J2 gX12_layAdjoint_J2
      refine sm_lp (fun (k' : Nat → Sy → Option (Sy)) (k : Int32 → Zh → Option (Zh)) => ∀ (c26 : Nat) (x26 : Int32) (t27 : Sy) (h27 : Zh), yI x26 c26 → syR ι e h0 t27 h27 → Sm (fun b a => syR ι e h0 b a) (k' c26 t27) (k x26 h27)) ?_ ?_ zFU _ _ _ _ (yI_lit 0) qt25
      · exact fun _ _ _ _ _ _ => sm_none
      intro k28 gk28 hk28
      intro c26 x26 t27 h27 q26 qt27
      unfold sX12_layAdjoint_L1 gX12_layAdjoint_L1
      refine sm_if (sy_le32 q22 q26) ?_ ?_
      · exact sm_some qt27
      · refine sm_rR qt27 q0 rfl (fun _ c29 q29 => ?_)
        refine sm_lti (yI_mul (yI_lit 11) q26) (fun _ c30 q30 => ?_)
        refine sm_dr q29 (fun _ a31 q31 => ?_)
        refine sm_in qt27 q31 q30 (fun p32 q32 => ?_)
        refine sm_rJ qt27 q31 q32 (fun c33 q33 => ?_)
        refine sm_in qt27 q31 q30 (fun p34 q34 => ?_)
        refine sm_wJ hι qt27 q31 q34 (yJ_add q33 (yJ_i2l q1)) (fun _ t35 qt35 => ?_)
        refine sm_f ?_
        exact hk28 _ _ _ _ (yI_add q26 (yI_lit 1)) qt35
    intro k37 gk37 hk37
    refine sm_lp (fun (k' : Nat → Sy → Option (Sy)) (k : Int32 → Zh → Option (Zh)) => ∀ (c38 : Nat) (x38 : Int32) (t39 : Sy) (h39 : Zh), yI x38 c38 → syR ι e h0 t39 h39 → Sm (fun b a => syR ι e h0 b a) (k' c38 t39) (k x38 h39)) ?_ ?_ zFU _ _ _ _ (yI_lit 1) qt24
    · exact fun _ _ _ _ _ _ => sm_none
    intro k40 gk40 hk40
    intro c38 x38 t39 h39 q38 qt39
    unfold sX12_layAdjoint_L5 gX12_layAdjoint_L5
    refine sm_if (sy_le32 q22 q38) ?_ ?_
    · exact hk37 _ _ qt39
    · refine sm_bV (sX12_timesTable_ok hι qt39 q0) (fun _ t41 qt41 => ?_)
      refine sm_rR qt41 q0 rfl (fun _ c42 q42 => ?_)
      refine sm_dr q42 (fun _ a43 q43 => ?_)
      refine sm_in qt41 q43 (yI_sub q22 q38) (fun p44 q44 => ?_)
      refine sm_rJ qt41 q43 q44 (fun c45 q45 => ?_)
      refine sm_rR qt41 q0 rfl (fun _ c46 q46 => ?_)
      refine sm_dr q46 (fun _ a47 q47 => ?_)
      refine sm_in qt41 q47 (yI_sub q22 q38) (fun p48 q48 => ?_)
      refine sm_rJ qt41 q47 q48 (fun c49 q49 => ?_)
      refine sm_ltj (yJ_add (yJ_mul q45 (yJ_lit 1099511627776)) q49) (fun _ c50 q50 => ?_)
      refine sm_jn (fun (k' : Sy → Option (Sy)) (k : Zh → Option (Zh)) => ∀ (t51 : Sy) (h51 : Zh), syR ι e h0 t51 h51 → Sm (fun b a => syR ι e h0 b a) (k' t51) (k h51)) ?_ ?_
      · intro t51 h51 qt51
        unfold sX12_layAdjoint_J3 gX12_layAdjoint_J3
        refine sm_f ?_
        exact hk40 _ _ _ _ (yI_add q38 (yI_lit 1)) qt51
      intro k53 gk53 hk53
      refine sm_lp (fun (k' : Nat → Sy → Option (Sy)) (k : Int32 → Zh → Option (Zh)) => ∀ (c54 : Nat) (x54 : Int32) (t55 : Sy) (h55 : Zh), yI x54 c54 → syR ι e h0 t55 h55 → Sm (fun b a => syR ι e h0 b a) (k' c54 t55) (k x54 h55)) ?_ ?_ zFU _ _ _ _ (yI_lit 0) qt41
      · exact fun _ _ _ _ _ _ => sm_none
      intro k56 gk56 hk56
      intro c54 x54 t55 h55 q54 qt55
      unfold sX12_layAdjoint_L4 gX12_layAdjoint_L4
      refine sm_if (sy_le32 q22 q54) ?_ ?_
      · exact hk53 _ _ qt55
      · refine sm_rR qt55 q0 rfl (fun _ c57 q57 => ?_)
        refine sm_lti (yI_mul (yI_lit 11) q54) (fun _ c58 q58 => ?_)
        refine sm_dr q57 (fun _ a59 q59 => ?_)
        refine sm_in qt55 q59 q58 (fun p60 q60 => ?_)
        refine sm_rJ qt55 q59 q60 (fun c61 q61 => ?_)
        refine sm_in qt55 q59 q58 (fun p62 q62 => ?_)
        refine sm_wJ hι qt55 q59 q62 (yJ_add q61 q50) (fun _ t63 qt63 => ?_)
        refine sm_f ?_
        exact hk56 _ _ _ _ (yI_add q54 (yI_lit 1)) qt63
  intro k65 gk65 hk65
  refine sm_lp (fun (k' : Nat → Sy → Option (Sy)) (k : Int32 → Zh → Option (Zh)) => ∀ (c66 : Nat) (x66 : Int32) (t67 : Sy) (h67 : Zh), yI x66 c66 → syR ι e h0 t67 h67 → Sm (fun b a => syR ι e h0 b a) (k' c66 t67) (k x66 h67)) ?_ ?_ zFU _ _ _ _ (yI_lit 0) qt
  · exact fun _ _ _ _ _ _ => sm_none
  intro k68 gk68 hk68
  intro c66 x66 t67 h67 q66 qt67
  unfold sX12_layAdjoint_L7 gX12_layAdjoint_L7
  refine sm_if (sy_le32 q22 q66) ?_ ?_
  · exact hk65 _ _ qt67
  · refine sm_rR qt67 q0 rfl (fun _ c69 q69 => ?_)
    refine sm_lti (yI_mul (yI_lit 11) q66) (fun _ c70 q70 => ?_)
    refine sm_dr q69 (fun _ a71 q71 => ?_)
    refine sm_in qt67 q71 q70 (fun p72 q72 => ?_)
    refine sm_rJ qt67 q71 q72 (fun c73 q73 => ?_)
    refine sm_in qt67 q71 q70 (fun p74 q74 => ?_)
    refine sm_wJ hι qt67 q71 q74 (yJ_sub q73 (yJ_i2l q1)) (fun _ t75 qt75 => ?_)
    refine sm_f ?_
    exact hk68 _ _ _ _ (yI_add q66 (yI_lit 1)) qt75
noncomputable def sX12_layRest_J1 (c32 : Nat) (k34 : Nat → Nat → Sy → Option (Nat × Sy)) (t43 : Sy) : Nat → Option (Nat × Sy) :=
  fun (c44 : Nat) => syf (Nat.add c32 1) (fun c45 => k34 c44 c45 t43)
noncomputable def sX12_layRest_J2 (k46 : Nat → Option (Nat × Sy)) : Option (Nat × Sy) :=
  k46 0
noncomputable def sX12_layRest_L3 (e : Se) (a0 : Nat) (c27 : Nat) (c30 : Nat) : (Nat → Nat → Sy → Option (Nat × Sy)) → Nat → Nat → Sy → Option (Nat × Sy) :=
  fun (k34 : Nat → Nat → Sy → Option (Nat × Sy)) (c31 : Nat) (c32 : Nat) (t33 : Sy) => srI t33 a0 5 (fun c35 => syc (Nat.ble (syo32 c35) (syo32 c32)) (syc (Nat.ble (Nat.mod c31 4294967296) 1) (some (c31, t33)) none)
  (srR t33 a0 18 (fun c36 => srR t33 a0 12 (fun c37 => syr c37 (fun a38 => syi e a38 (Nat.add (Nat.mul 10 c32) c27) (fun p39 => srJ t33 a38 p39 (fun c40 => syc (Nat.beq (Nat.mod c30 18446744073709551616) (Nat.mod 0 18446744073709551616)) none (syr c36 (fun a41 => syi e a41 c32 (fun p42 => swJ e t33 a41 p42 (syd 18446744073709551616 (Nat.mod c40 18446744073709551616) (Nat.mod c30 18446744073709551616)) (fun t43 => zjn (sX12_layRest_J1 c32 k34 t43) (fun (k46 : Nat → Option (Nat × Sy)) =>
  zjn (sX12_layRest_J2 k46) (fun (k47 : Option (Nat × Sy)) =>
  syc (Nat.beq (Nat.mod c31 4294967296) (Nat.mod 0 4294967296)) (k47)
  (srR t43 a0 18 (fun c48 => syr c48 (fun a49 => syi e a49 c32 (fun p50 => srJ t43 a49 p50 (fun c51 => sbj (sX12_sizeOf c51) (fun c52 => syc (Nat.ble (Nat.succ (syo32 0)) (syo32 (sycmp c52 1000000))) (k47)
  (k46 1))))))))))))))))))))
noncomputable def sX12_layRest_J4 (e : Se) (a0 : Nat) (t26 : Sy) (c27 : Nat) : Nat → Option (Nat × Sy) :=
  fun (c30 : Nat) => syl (fun _ _ _ => (none : Option (Nat × Sy))) (sX12_layRest_L3 e a0 c27 c30) zFU 1 0 t26
noncomputable def sX12_layRest_J5 (e : Se) (a0 : Nat) (t26 : Sy) (c27 : Nat) : Nat → Nat → Option (Nat × Sy) :=
  fun (c28 : Nat) (c29 : Nat) => zjn (sX12_layRest_J4 e a0 t26 c27) (fun (k53 : Nat → Option (Nat × Sy)) =>
  syc (Nat.ble (syo32 0) (syo32 (sycmp c29 0))) (k53 c28)
  (syf (syn64 c28) (fun c54 => k53 c54)))
noncomputable def sX12_layRest_J6 (c58 : Nat) (k59 : Nat → Nat → Nat → Option (Nat × Sy)) (c65 : Nat) : Nat → Option (Nat × Sy) :=
  fun (c66 : Nat) => syf (Nat.add c58 1) (fun c67 => k59 c65 c66 c67)
noncomputable def sX12_layRest_L7 (e : Se) (a0 : Nat) (t26 : Sy) (c27 : Nat) (k55 : Nat → Nat → Option (Nat × Sy)) : (Nat → Nat → Nat → Option (Nat × Sy)) → Nat → Nat → Nat → Option (Nat × Sy) :=
  fun (k59 : Nat → Nat → Nat → Option (Nat × Sy)) (c56 : Nat) (c57 : Nat) (c58 : Nat) => srI t26 a0 5 (fun c60 => syc (Nat.ble (syo32 c60) (syo32 c58)) (k55 c56 c57)
  (srR t26 a0 12 (fun c61 => syr c61 (fun a62 => syi e a62 (Nat.add (Nat.mul 10 c58) c27) (fun p63 => srJ t26 a62 p63 (fun c64 => sbj (sX12_common c56 c64) (fun c65 => zjn (sX12_layRest_J6 c58 k59 c65) (fun (k68 : Nat → Option (Nat × Sy)) =>
  syc (Nat.beq (Nat.mod (sycmp c57 0) 4294967296) (Nat.mod 0 4294967296)) (srR t26 a0 12 (fun c69 => syr c69 (fun a70 => syi e a70 (Nat.add (Nat.mul 10 c58) c27) (fun p71 => srJ t26 a70 p71 (fun c72 => k68 c72)))))
  (k68 c57)))))))))
noncomputable def sX12_layRest_J8 (e : Se) (a0 : Nat) (t26 : Sy) : Nat → Option (Nat × Sy) :=
  fun (c27 : Nat) => zjn (sX12_layRest_J5 e a0 t26 c27) (fun (k55 : Nat → Nat → Option (Nat × Sy)) =>
  syl (fun _ _ _ => (none : Option (Nat × Sy))) (sX12_layRest_L7 e a0 t26 c27 k55) zFU 0 0 0)
noncomputable def sX12_layRest_J9 (c74 : Nat) (k76 : Nat → Nat → Option (Nat × Sy)) (c77 : Nat) : Nat → Option (Nat × Sy) :=
  fun (c78 : Nat) => syf (Nat.add c74 c78) (fun c79 => k76 c79 c77)
noncomputable def sX12_layRest_J10 (c74 : Nat) (k76 : Nat → Nat → Option (Nat × Sy)) : Nat → Option (Nat × Sy) :=
  fun (c77 : Nat) => zjn (sX12_layRest_J9 c74 k76 c77) (fun (k80 : Nat → Option (Nat × Sy)) =>
  syc (Nat.beq (Nat.mod c77 4294967296) (Nat.mod 0 4294967296)) (k80 1)
  (k80 0))
noncomputable def sX12_layRest_J11 (c83 : Nat) (k84 : Nat → Nat → Option (Nat × Sy)) : Nat → Option (Nat × Sy) :=
  fun (c86 : Nat) => syf (Nat.add c83 1) (fun c87 => k84 c86 c87)
noncomputable def sX12_layRest_J12 (k88 : Nat → Option (Nat × Sy)) : Option (Nat × Sy) :=
  k88 1
noncomputable def sX12_layRest_L13 (e : Se) (a0 : Nat) (t26 : Sy) (c74 : Nat) (k81 : Nat → Option (Nat × Sy)) : (Nat → Nat → Option (Nat × Sy)) → Nat → Nat → Option (Nat × Sy) :=
  fun (k84 : Nat → Nat → Option (Nat × Sy)) (c82 : Nat) (c83 : Nat) => srI t26 a0 5 (fun c85 => syc (Nat.ble (syo32 c85) (syo32 c83)) (k81 c82)
  (zjn (sX12_layRest_J11 c83 k84) (fun (k88 : Nat → Option (Nat × Sy)) =>
  zjn (sX12_layRest_J12 k88) (fun (k89 : Option (Nat × Sy)) =>
  syc (Nat.beq (Nat.mod c82 4294967296) (Nat.mod 0 4294967296)) (srR t26 a0 12 (fun c90 => syr c90 (fun a91 => syi e a91 (Nat.add (Nat.mul 10 c83) c74) (fun p92 => srJ t26 a91 p92 (fun c93 => syc (Nat.beq (Nat.mod (sycmp c93 0) 4294967296) (Nat.mod 0 4294967296)) (k88 0)
  (k89))))))
  (k89)))))
noncomputable def sX12_layRest_L14 (e : Se) (a0 : Nat) (t26 : Sy) (k73 : Nat → Option (Nat × Sy)) : (Nat → Nat → Option (Nat × Sy)) → Nat → Nat → Option (Nat × Sy) :=
  fun (k76 : Nat → Nat → Option (Nat × Sy)) (c74 : Nat) (c75 : Nat) => syc (Nat.beq (Nat.mod c75 4294967296) (Nat.mod 0 4294967296)) (zjn (sX12_layRest_J10 c74 k76) (fun (k81 : Nat → Option (Nat × Sy)) =>
  syl (fun _ _ => (none : Option (Nat × Sy))) (sX12_layRest_L13 e a0 t26 c74 k81) zFU c75 0))
  (k73 c74)
noncomputable def sX12_layRest (e : Se) (t : Sy) (a0 : Nat) (c1 : Nat) (c2 : Nat) (c3 : Nat) : Option (Nat × Sy) :=
  sbi (sX12_in (sy2l c3) 18446744073709551566 50) (fun c21 => syc (Nat.beq (Nat.mod c21 4294967296) (Nat.mod 0 4294967296)) (some (0, t))
  (sbI (sX12_laySector e t a0 c1 c2) (fun c22 t22 => syc (Nat.ble (Nat.succ (syo32 c22)) (syo32 0)) (some (0, t22))
  (srI t22 a0 5 (fun c23 => syc (Nat.beq (Nat.mod c23 4294967296) (Nat.mod 0 4294967296)) (some (0, t22))
  (sbV (sX12_shiftTo e t22 a0 c3) (fun t24 => sbi (sX12_zeros e t24 a0) (fun c25 => syc (Nat.beq (Nat.mod c25 4294967296) (Nat.mod 1 4294967296)) (sbV (sX12_layAdjoint e t24 a0 c3) (fun t26 => zjn (sX12_layRest_J8 e a0 t26) (fun (k73 : Nat → Option (Nat × Sy)) =>
  syl (fun _ _ => (none : Option (Nat × Sy))) (sX12_layRest_L14 e a0 t26 k73) zFU 0 0)))
  (some (0, t24))))))))))
theorem sX12_layRest_ok {ι : Nat → Nat} {e : Se} {h0 h : Zh} {t : Sy} (hι : ∀ a b, ι a = ι b → a = b) (qt : syR ι e h0 t h) {x0 : Nat} {a0 : Nat} {x1 : Int32} {c1 : Nat} {x2 : Int32} {c2 : Nat} {x3 : Int32} {c3 : Nat} (q0 : yA ι x0 a0) (q1 : yI x1 c1) (q2 : yI x2 c2) (q3 : yI x3 c3) : Sm (fun b a => yI a.1 b.1 ∧ syR ι e h0 b.2 a.2) (sX12_layRest e t a0 c1 c2 c3) (gX12_layRest h x0 x1 x2 x3) := by
  unfold sX12_layRest gX12_layRest
  refine sm_bi (sX12_in_ok (yJ_i2l q3) (show yJ (-50) 18446744073709551566 from by unfold yJ; decide) (yJ_lit 50)) (fun _ c21 q21 => ?_)
  refine sm_if (sy_eq32 q21 (yI_lit 0)) ?_ ?_
  · exact sm_some ⟨(yI_lit 0), qt⟩
  · refine sm_bI (sX12_laySector_ok hι qt q0 q1 q2) (fun _ c22 q22 _ t22 qt22 => ?_)
    refine sm_if (sy_lt32 q22 (yI_lit 0)) ?_ ?_
    · exact sm_some ⟨(yI_lit 0), qt22⟩
    · refine sm_rI qt22 q0 rfl (fun c23 q23 => ?_)
      refine sm_if (sy_eq32 q23 (yI_lit 0)) ?_ ?_
      · exact sm_some ⟨(yI_lit 0), qt22⟩
      · refine sm_bV (sX12_shiftTo_ok hι qt22 q0 q3) (fun _ t24 qt24 => ?_)
        refine sm_bi (sX12_zeros_ok hι qt24 q0) (fun _ c25 q25 => ?_)
        refine sm_if (sy_eq32 q25 (yI_lit 1)) ?_ ?_
        · refine sm_bV (sX12_layAdjoint_ok hι qt24 q0 q3) (fun _ t26 qt26 => ?_)
          refine sm_jn (fun (k' : Nat → Option (Nat × Sy)) (k : Int32 → Option (Int32 × Zh)) => ∀ (c27 : Nat) (x27 : Int32), yI x27 c27 → Sm (fun b a => yI a.1 b.1 ∧ syR ι e h0 b.2 a.2) (k' c27) (k x27)) ?_ ?_
          · intro c27 x27 q27
            unfold sX12_layRest_J8 gX12_layRest_J8
            refine sm_jn (fun (k' : Nat → Nat → Option (Nat × Sy)) (k : Int64 → Int64 → Option (Int32 × Zh)) => ∀ (c28 : Nat) (x28 : Int64) (c29 : Nat) (x29 : Int64), yJ x28 c28 → yJ x29 c29 → Sm (fun b a => yI a.1 b.1 ∧ syR ι e h0 b.2 a.2) (k' c28 c29) (k x28 x29)) ?_ ?_
            · intro c28 x28 c29 x29 q28 q29
              unfold sX12_layRest_J5 gX12_layRest_J5
              refine sm_jn (fun (k' : Nat → Option (Nat × Sy)) (k : Int64 → Option (Int32 × Zh)) => ∀ (c30 : Nat) (x30 : Int64), yJ x30 c30 → Sm (fun b a => yI a.1 b.1 ∧ syR ι e h0 b.2 a.2) (k' c30) (k x30)) ?_ ?_
              · intro c30 x30 q30
                unfold sX12_layRest_J4 gX12_layRest_J4
                refine sm_lp (fun (k' : Nat → Nat → Sy → Option (Nat × Sy)) (k : Int32 → Int32 → Zh → Option (Int32 × Zh)) => ∀ (c31 : Nat) (x31 : Int32) (c32 : Nat) (x32 : Int32) (t33 : Sy) (h33 : Zh), yI x31 c31 → yI x32 c32 → syR ι e h0 t33 h33 → Sm (fun b a => yI a.1 b.1 ∧ syR ι e h0 b.2 a.2) (k' c31 c32 t33) (k x31 x32 h33)) ?_ ?_ zFU _ _ _ _ _ _ (yI_lit 1) (yI_lit 0) qt26
                · exact fun _ _ _ _ _ _ _ _ _ => sm_none
                intro k34 gk34 hk34
                intro c31 x31 c32 x32 t33 h33 q31 q32 qt33
                unfold sX12_layRest_L3 gX12_layRest_L3
                refine sm_rI qt33 q0 rfl (fun c35 q35 => ?_)
                refine sm_if (sy_le32 q35 q32) ?_ ?_
                · refine sm_zb q31 ?_
                  exact sm_some ⟨q31, qt33⟩
                · refine sm_rR qt33 q0 rfl (fun _ c36 q36 => ?_)
                  refine sm_rR qt33 q0 rfl (fun _ c37 q37 => ?_)
                  refine sm_dr q37 (fun _ a38 q38 => ?_)
                  refine sm_in qt33 q38 (yI_add (yI_mul (yI_lit 10) q32) q27) (fun p39 q39 => ?_)
                  refine sm_rJ qt33 q38 q39 (fun c40 q40 => ?_)
                  refine sm_if (sy_eq64 q30 (yJ_lit 0)) sm_none ?_
                  refine sm_dr q36 (fun _ a41 q41 => ?_)
                  refine sm_in qt33 q41 q32 (fun p42 q42 => ?_)
                  refine sm_wJ hι qt33 q41 q42 (yJ_div q40 q30) (fun _ t43 qt43 => ?_)
                  refine sm_jn (fun (k' : Nat → Option (Nat × Sy)) (k : Int32 → Option (Int32 × Zh)) => ∀ (c44 : Nat) (x44 : Int32), yI x44 c44 → Sm (fun b a => yI a.1 b.1 ∧ syR ι e h0 b.2 a.2) (k' c44) (k x44)) ?_ ?_
                  · intro c44 x44 q44
                    unfold sX12_layRest_J1 gX12_layRest_J1
                    refine sm_f ?_
                    exact hk34 _ _ _ _ _ _ q44 (yI_add q32 (yI_lit 1)) qt43
                  intro k46 gk46 hk46
                  refine sm_jn (fun (k' : Option (Nat × Sy)) (k : Option (Int32 × Zh)) => Sm (fun b a => yI a.1 b.1 ∧ syR ι e h0 b.2 a.2) k' k) ?_ ?_
                  · skip
                    unfold sX12_layRest_J2 gX12_layRest_J2
                    exact hk46 _ _ (yI_lit 0)
                  intro k47 gk47 hk47
                  refine sm_if (sy_eq32 q31 (yI_lit 0)) ?_ ?_
                  · exact hk47
                  · refine sm_rR qt43 q0 rfl (fun _ c48 q48 => ?_)
                    refine sm_dr q48 (fun _ a49 q49 => ?_)
                    refine sm_in qt43 q49 q32 (fun p50 q50 => ?_)
                    refine sm_rJ qt43 q49 q50 (fun c51 q51 => ?_)
                    refine sm_bj (sX12_sizeOf_ok q51) (fun _ c52 q52 => ?_)
                    refine sm_if (sy_lt32 (yI_lit 0) (yI_cmp q52 (yJ_lit 1000000))) ?_ ?_
                    · exact hk47
                    · exact hk46 _ _ (yI_lit 1)
              intro k53 gk53 hk53
              refine sm_if (sy_le32 (yI_lit 0) (yI_cmp q29 (yJ_lit 0))) ?_ ?_
              · exact hk53 _ _ q28
              · refine sm_f ?_
                exact hk53 _ _ (yJ_neg q28)
            intro k55 gk55 hk55
            refine sm_lp (fun (k' : Nat → Nat → Nat → Option (Nat × Sy)) (k : Int64 → Int64 → Int32 → Option (Int32 × Zh)) => ∀ (c56 : Nat) (x56 : Int64) (c57 : Nat) (x57 : Int64) (c58 : Nat) (x58 : Int32), yJ x56 c56 → yJ x57 c57 → yI x58 c58 → Sm (fun b a => yI a.1 b.1 ∧ syR ι e h0 b.2 a.2) (k' c56 c57 c58) (k x56 x57 x58)) ?_ ?_ zFU _ _ _ _ _ _ (yJ_lit 0) (yJ_lit 0) (yI_lit 0)
            · exact fun _ _ _ _ _ _ _ _ _ => sm_none
            intro k59 gk59 hk59
            intro c56 x56 c57 x57 c58 x58 q56 q57 q58
            unfold sX12_layRest_L7 gX12_layRest_L7
            refine sm_rI qt26 q0 rfl (fun c60 q60 => ?_)
            refine sm_if (sy_le32 q60 q58) ?_ ?_
            · exact hk55 _ _ _ _ q56 q57
            · refine sm_rR qt26 q0 rfl (fun _ c61 q61 => ?_)
              refine sm_dr q61 (fun _ a62 q62 => ?_)
              refine sm_in qt26 q62 (yI_add (yI_mul (yI_lit 10) q58) q27) (fun p63 q63 => ?_)
              refine sm_rJ qt26 q62 q63 (fun c64 q64 => ?_)
              refine sm_bj (sX12_common_ok q56 q64) (fun _ c65 q65 => ?_)
              refine sm_jn (fun (k' : Nat → Option (Nat × Sy)) (k : Int64 → Option (Int32 × Zh)) => ∀ (c66 : Nat) (x66 : Int64), yJ x66 c66 → Sm (fun b a => yI a.1 b.1 ∧ syR ι e h0 b.2 a.2) (k' c66) (k x66)) ?_ ?_
              · intro c66 x66 q66
                unfold sX12_layRest_J6 gX12_layRest_J6
                refine sm_f ?_
                exact hk59 _ _ _ _ _ _ q65 q66 (yI_add q58 (yI_lit 1))
              intro k68 gk68 hk68
              refine sm_if (sy_eq32 (yI_cmp q57 (yJ_lit 0)) (yI_lit 0)) ?_ ?_
              · refine sm_rR qt26 q0 rfl (fun _ c69 q69 => ?_)
                refine sm_dr q69 (fun _ a70 q70 => ?_)
                refine sm_in qt26 q70 (yI_add (yI_mul (yI_lit 10) q58) q27) (fun p71 q71 => ?_)
                refine sm_rJ qt26 q70 q71 (fun c72 q72 => ?_)
                exact hk68 _ _ q72
              · exact hk68 _ _ q57
          intro k73 gk73 hk73
          refine sm_lp (fun (k' : Nat → Nat → Option (Nat × Sy)) (k : Int32 → Int32 → Option (Int32 × Zh)) => ∀ (c74 : Nat) (x74 : Int32) (c75 : Nat) (x75 : Int32), yI x74 c74 → yI x75 c75 → Sm (fun b a => yI a.1 b.1 ∧ syR ι e h0 b.2 a.2) (k' c74 c75) (k x74 x75)) ?_ ?_ zFU _ _ _ _ (yI_lit 0) (yI_lit 0)
          · exact fun _ _ _ _ _ _ => sm_none
          intro k76 gk76 hk76
          intro c74 x74 c75 x75 q74 q75
          unfold sX12_layRest_L14 gX12_layRest_L14
          refine sm_if (sy_eq32 q75 (yI_lit 0)) ?_ ?_
          · refine sm_jn (fun (k' : Nat → Option (Nat × Sy)) (k : Int32 → Option (Int32 × Zh)) => ∀ (c77 : Nat) (x77 : Int32), yI x77 c77 → Sm (fun b a => yI a.1 b.1 ∧ syR ι e h0 b.2 a.2) (k' c77) (k x77)) ?_ ?_
            · intro c77 x77 q77
              unfold sX12_layRest_J10 gX12_layRest_J10
              refine sm_jn (fun (k' : Nat → Option (Nat × Sy)) (k : Int32 → Option (Int32 × Zh)) => ∀ (c78 : Nat) (x78 : Int32), yI x78 c78 → Sm (fun b a => yI a.1 b.1 ∧ syR ι e h0 b.2 a.2) (k' c78) (k x78)) ?_ ?_
              · intro c78 x78 q78
                unfold sX12_layRest_J9 gX12_layRest_J9
                refine sm_lti (yI_add q74 q78) (fun _ c79 q79 => ?_)
                exact hk76 _ _ _ _ q79 q77
              intro k80 gk80 hk80
              refine sm_if (sy_eq32 q77 (yI_lit 0)) ?_ ?_
              · exact hk80 _ _ (yI_lit 1)
              · exact hk80 _ _ (yI_lit 0)
            intro k81 gk81 hk81
            refine sm_lp (fun (k' : Nat → Nat → Option (Nat × Sy)) (k : Int32 → Int32 → Option (Int32 × Zh)) => ∀ (c82 : Nat) (x82 : Int32) (c83 : Nat) (x83 : Int32), yI x82 c82 → yI x83 c83 → Sm (fun b a => yI a.1 b.1 ∧ syR ι e h0 b.2 a.2) (k' c82 c83) (k x82 x83)) ?_ ?_ zFU _ _ _ _ q75 (yI_lit 0)
            · exact fun _ _ _ _ _ _ => sm_none
            intro k84 gk84 hk84
            intro c82 x82 c83 x83 q82 q83
            unfold sX12_layRest_L13 gX12_layRest_L13
            refine sm_rI qt26 q0 rfl (fun c85 q85 => ?_)
            refine sm_if (sy_le32 q85 q83) ?_ ?_
            · exact hk81 _ _ q82
            · refine sm_jn (fun (k' : Nat → Option (Nat × Sy)) (k : Int32 → Option (Int32 × Zh)) => ∀ (c86 : Nat) (x86 : Int32), yI x86 c86 → Sm (fun b a => yI a.1 b.1 ∧ syR ι e h0 b.2 a.2) (k' c86) (k x86)) ?_ ?_
              · intro c86 x86 q86
                unfold sX12_layRest_J11 gX12_layRest_J11
                refine sm_f ?_
                exact hk84 _ _ _ _ q86 (yI_add q83 (yI_lit 1))
              intro k88 gk88 hk88
              refine sm_jn (fun (k' : Option (Nat × Sy)) (k : Option (Int32 × Zh)) => Sm (fun b a => yI a.1 b.1 ∧ syR ι e h0 b.2 a.2) k' k) ?_ ?_
              · skip
                unfold sX12_layRest_J12 gX12_layRest_J12
                exact hk88 _ _ (yI_lit 1)
              intro k89 gk89 hk89
              refine sm_if (sy_eq32 q82 (yI_lit 0)) ?_ ?_
              · refine sm_rR qt26 q0 rfl (fun _ c90 q90 => ?_)
                refine sm_dr q90 (fun _ a91 q91 => ?_)
                refine sm_in qt26 q91 (yI_add (yI_mul (yI_lit 10) q83) q74) (fun p92 q92 => ?_)
                refine sm_rJ qt26 q91 q92 (fun c93 q93 => ?_)
                refine sm_if (sy_eq32 (yI_cmp q93 (yJ_lit 0)) (yI_lit 0)) ?_ ?_
                · exact hk88 _ _ (yI_lit 0)
                · exact hk89
              · exact hk89
          · exact hk73 _ _ q74
        · exact sm_some ⟨(yI_lit 0), qt24⟩
noncomputable def sX12_rest_J1 (t21 : Sy) : Option (Nat × Sy) :=
  sbj (sX12_lost ) (fun c22 => some (c22, t21))
noncomputable def sX12_rest (e : Se) (t : Sy) (a0 : Nat) (c1 : Nat) (c2 : Nat) (c3 : Nat) (c4 : Nat) : Option (Nat × Sy) :=
  sbI (sX12_layRest e t a0 c1 c2 c3) (fun c21 t21 => zjn (sX12_rest_J1 t21) (fun (k23 : Option (Nat × Sy)) =>
  syc (Nat.beq (Nat.mod c21 4294967296) (Nat.mod 0 4294967296)) (k23)
  (srI t21 a0 5 (fun c24 => sbi (sX12_in (sy2l c4) 0 (Nat.add (sy2l c24) (syn64 1))) (fun c25 => syc (Nat.beq (Nat.mod c25 4294967296) (Nat.mod 0 4294967296)) (k23)
  (srR t21 a0 18 (fun c26 => syr c26 (fun a27 => syi e a27 c4 (fun p28 => srJ t21 a27 p28 (fun c29 => some (c29, t21)))))))))))
theorem sX12_rest_ok {ι : Nat → Nat} {e : Se} {h0 h : Zh} {t : Sy} (hι : ∀ a b, ι a = ι b → a = b) (qt : syR ι e h0 t h) {x0 : Nat} {a0 : Nat} {x1 : Int32} {c1 : Nat} {x2 : Int32} {c2 : Nat} {x3 : Int32} {c3 : Nat} {x4 : Int32} {c4 : Nat} (q0 : yA ι x0 a0) (q1 : yI x1 c1) (q2 : yI x2 c2) (q3 : yI x3 c3) (q4 : yI x4 c4) : Sm (fun b a => yJ a.1 b.1 ∧ syR ι e h0 b.2 a.2) (sX12_rest e t a0 c1 c2 c3 c4) (gX12_rest h x0 x1 x2 x3 x4) := by
  unfold sX12_rest gX12_rest
  refine sm_bI (sX12_layRest_ok hι qt q0 q1 q2 q3) (fun _ c21 q21 _ t21 qt21 => ?_)
  refine sm_jn (fun (k' : Option (Nat × Sy)) (k : Option (Int64 × Zh)) => Sm (fun b a => yJ a.1 b.1 ∧ syR ι e h0 b.2 a.2) k' k) ?_ ?_
  · skip
    unfold sX12_rest_J1 gX12_rest_J1
    refine sm_bj (sX12_lost_ok ) (fun _ c22 q22 => ?_)
    exact sm_some ⟨q22, qt21⟩
  intro k23 gk23 hk23
  refine sm_if (sy_eq32 q21 (yI_lit 0)) ?_ ?_
  · exact hk23
  · refine sm_rI qt21 q0 rfl (fun c24 q24 => ?_)
    refine sm_bi (sX12_in_ok (yJ_i2l q4) (yJ_lit 0) (yJ_sub (yJ_i2l q24) (yJ_lit 1))) (fun _ c25 q25 => ?_)
    refine sm_if (sy_eq32 q25 (yI_lit 0)) ?_ ?_
    · exact hk23
    · refine sm_rR qt21 q0 rfl (fun _ c26 q26 => ?_)
      refine sm_dr q26 (fun _ a27 q27 => ?_)
      refine sm_in qt21 q27 q4 (fun p28 q28 => ?_)
      refine sm_rJ qt21 q27 q28 (fun c29 q29 => ?_)
      exact sm_some ⟨q29, qt21⟩
noncomputable def sX12_seen_J1 : Sy → Option (Nat × Sy) :=
  fun (t24 : Sy) => sbj (sX12_lost ) (fun c25 => some (c25, t24))
noncomputable def sX12_seen_J2 (t27 : Sy) (c28 : Nat) (c29 : Nat) : Nat → Option (Nat × Sy) :=
  fun (c30 : Nat) => sbj (sX12_common c28 c29) (fun c31 => syc (Nat.beq (Nat.mod c31 18446744073709551616) (Nat.mod 0 18446744073709551616)) none (some ((syd 18446744073709551616 (Nat.mod c30 18446744073709551616) (Nat.mod c31 18446744073709551616)), t27)))
noncomputable def sX12_seen_J3 (c6 : Nat) (t27 : Sy) : Nat → Nat → Option (Nat × Sy) :=
  fun (c28 : Nat) (c29 : Nat) => zjn (sX12_seen_J2 t27 c28 c29) (fun (k32 : Nat → Option (Nat × Sy)) =>
  syc (Nat.beq (Nat.mod c6 4294967296) (Nat.mod 0 4294967296)) (k32 c28)
  (k32 c29))
noncomputable def sX12_seen_J4 (c36 : Nat) (k37 : Nat → Nat → Nat → Option (Nat × Sy)) : Nat → Nat → Option (Nat × Sy) :=
  fun (c40 : Nat) (c41 : Nat) => syf (Nat.add c36 1) (fun c42 => k37 c40 c41 c42)
noncomputable def sX12_seen_J5 (c34 : Nat) (c35 : Nat) (k43 : Nat → Nat → Option (Nat × Sy)) (c64 : Nat) : Nat → Option (Nat × Sy) :=
  fun (c66 : Nat) => syf (Nat.add c34 c66) (fun c67 => syf (Nat.add c35 c64) (fun c68 => k43 c67 c68))
noncomputable def sX12_seen_L6 (e : Se) (a0 : Nat) (c1 : Nat) (c4 : Nat) (c5 : Nat) (t27 : Sy) (k33 : Nat → Nat → Option (Nat × Sy)) : (Nat → Nat → Nat → Option (Nat × Sy)) → Nat → Nat → Nat → Option (Nat × Sy) :=
  fun (k37 : Nat → Nat → Nat → Option (Nat × Sy)) (c34 : Nat) (c35 : Nat) (c36 : Nat) => sbi (sX12_stateMany e t27 a0) (fun c38 => syc (Nat.ble (syo32 c38) (syo32 c36)) (k33 c34 c35)
  (sbi (sX12_count c36) (fun c39 => zjn (sX12_seen_J4 c36 k37) (fun (k43 : Nat → Nat → Option (Nat × Sy)) =>
  syc (Nat.beq (Nat.mod c39 4294967296) (Nat.mod c1 4294967296)) (srR t27 a0 7 (fun c44 => syr c44 (fun a45 => syi e a45 c36 (fun p46 => srI t27 a45 p46 (fun c47 => syc (Nat.ble (Nat.succ (syo32 c47)) (syo32 0)) (k43 c34 c35)
  (srR t27 a0 18 (fun c48 => srR t27 a0 7 (fun c49 => syr c49 (fun a50 => syi e a50 c36 (fun p51 => srI t27 a50 p51 (fun c52 => syr c48 (fun a53 => syi e a53 c52 (fun p54 => srJ t27 a53 p54 (fun c55 => srR t27 a0 18 (fun c56 => srR t27 a0 7 (fun c57 => syr c57 (fun a58 => syi e a58 c36 (fun p59 => srI t27 a58 p59 (fun c60 => syr c56 (fun a61 => syi e a61 c60 (fun p62 => srJ t27 a61 p62 (fun c63 => syf (Nat.mul c55 c63) (fun c64 => sbi (sX12_areAlike a0 c36 c4 c5) (fun c65 => zjn (sX12_seen_J5 c34 c35 k43 c64) (fun (k69 : Nat → Option (Nat × Sy)) =>
  syc (Nat.beq (Nat.mod c65 4294967296) (Nat.mod 0 4294967296)) (syf (syn64 c64) (fun c70 => k69 c70))
  (k69 c64))))))))))))))))))))))))))
  (k43 c34 c35)))))
noncomputable def sX12_seen_J7 (e : Se) (t : Sy) (a0 : Nat) (c1 : Nat) (c2 : Nat) (c3 : Nat) (c4 : Nat) (c5 : Nat) (c6 : Nat) : Nat → Option (Nat × Sy) :=
  fun (c23 : Nat) => zjn sX12_seen_J1 (fun (k26 : Sy → Option (Nat × Sy)) =>
  syc (Nat.beq (Nat.mod c23 4294967296) (Nat.mod 0 4294967296)) (k26 t)
  (sbI (sX12_layRest e t a0 c1 c2 c3) (fun c27 t27 => syc (Nat.beq (Nat.mod c27 4294967296) (Nat.mod 0 4294967296)) (k26 t27)
  (zjn (sX12_seen_J3 c6 t27) (fun (k33 : Nat → Nat → Option (Nat × Sy)) =>
  syl (fun _ _ _ => (none : Option (Nat × Sy))) (sX12_seen_L6 e a0 c1 c4 c5 t27 k33) zFU 0 0 0)))))
noncomputable def sX12_seen_J8 (k71 : Nat → Option (Nat × Sy)) : Option (Nat × Sy) :=
  k71 0
noncomputable def sX12_seen (e : Se) (t : Sy) (a0 : Nat) (c1 : Nat) (c2 : Nat) (c3 : Nat) (c4 : Nat) (c5 : Nat) (c6 : Nat) : Option (Nat × Sy) :=
  srI t a0 1 (fun c21 => sbi (sX12_in (sy2l c4) 0 (Nat.add (sy2l c21) (syn64 1))) (fun c22 => zjn (sX12_seen_J7 e t a0 c1 c2 c3 c4 c5 c6) (fun (k71 : Nat → Option (Nat × Sy)) =>
  zjn (sX12_seen_J8 k71) (fun (k72 : Option (Nat × Sy)) =>
  syc (Nat.beq (Nat.mod c22 4294967296) (Nat.mod 0 4294967296)) (k72)
  (srI t a0 1 (fun c73 => sbi (sX12_in (sy2l c5) 0 (Nat.add (sy2l c73) (syn64 1))) (fun c74 => syc (Nat.beq (Nat.mod c74 4294967296) (Nat.mod 0 4294967296)) (k72)
  (sbi (sX12_in (sy2l c6) 0 1) (fun c75 => syc (Nat.beq (Nat.mod c75 4294967296) (Nat.mod 0 4294967296)) (k72)
  (k71 1))))))))))
theorem sX12_seen_ok {ι : Nat → Nat} {e : Se} {h0 h : Zh} {t : Sy} (hι : ∀ a b, ι a = ι b → a = b) (qt : syR ι e h0 t h) {x0 : Nat} {a0 : Nat} {x1 : Int32} {c1 : Nat} {x2 : Int32} {c2 : Nat} {x3 : Int32} {c3 : Nat} {x4 : Int32} {c4 : Nat} {x5 : Int32} {c5 : Nat} {x6 : Int32} {c6 : Nat} (q0 : yA ι x0 a0) (q1 : yI x1 c1) (q2 : yI x2 c2) (q3 : yI x3 c3) (q4 : yI x4 c4) (q5 : yI x5 c5) (q6 : yI x6 c6) : Sm (fun b a => yJ a.1 b.1 ∧ syR ι e h0 b.2 a.2) (sX12_seen e t a0 c1 c2 c3 c4 c5 c6) (gX12_seen h x0 x1 x2 x3 x4 x5 x6) := by
  unfold sX12_seen gX12_seen
  refine sm_rI qt q0 rfl (fun c21 q21 => ?_)
  refine sm_bi (sX12_in_ok (yJ_i2l q4) (yJ_lit 0) (yJ_sub (yJ_i2l q21) (yJ_lit 1))) (fun _ c22 q22 => ?_)
  refine sm_jn (fun (k' : Nat → Option (Nat × Sy)) (k : Int32 → Option (Int64 × Zh)) => ∀ (c23 : Nat) (x23 : Int32), yI x23 c23 → Sm (fun b a => yJ a.1 b.1 ∧ syR ι e h0 b.2 a.2) (k' c23) (k x23)) ?_ ?_
  · intro c23 x23 q23
    unfold sX12_seen_J7 gX12_seen_J7
    refine sm_jn (fun (k' : Sy → Option (Nat × Sy)) (k : Zh → Option (Int64 × Zh)) => ∀ (t24 : Sy) (h24 : Zh), syR ι e h0 t24 h24 → Sm (fun b a => yJ a.1 b.1 ∧ syR ι e h0 b.2 a.2) (k' t24) (k h24)) ?_ ?_
    · intro t24 h24 qt24
      unfold sX12_seen_J1 gX12_seen_J1
      refine sm_bj (sX12_lost_ok ) (fun _ c25 q25 => ?_)
      exact sm_some ⟨q25, qt24⟩
    intro k26 gk26 hk26
    refine sm_if (sy_eq32 q23 (yI_lit 0)) ?_ ?_
    · exact hk26 _ _ qt
    · refine sm_bI (sX12_layRest_ok hι qt q0 q1 q2 q3) (fun _ c27 q27 _ t27 qt27 => ?_)
      refine sm_if (sy_eq32 q27 (yI_lit 0)) ?_ ?_
      · exact hk26 _ _ qt27
      · refine sm_jn (fun (k' : Nat → Nat → Option (Nat × Sy)) (k : Int64 → Int64 → Option (Int64 × Zh)) => ∀ (c28 : Nat) (x28 : Int64) (c29 : Nat) (x29 : Int64), yJ x28 c28 → yJ x29 c29 → Sm (fun b a => yJ a.1 b.1 ∧ syR ι e h0 b.2 a.2) (k' c28 c29) (k x28 x29)) ?_ ?_
        · intro c28 x28 c29 x29 q28 q29
          unfold sX12_seen_J3 gX12_seen_J3
          refine sm_jn (fun (k' : Nat → Option (Nat × Sy)) (k : Int64 → Option (Int64 × Zh)) => ∀ (c30 : Nat) (x30 : Int64), yJ x30 c30 → Sm (fun b a => yJ a.1 b.1 ∧ syR ι e h0 b.2 a.2) (k' c30) (k x30)) ?_ ?_
          · intro c30 x30 q30
            unfold sX12_seen_J2 gX12_seen_J2
            refine sm_bj (sX12_common_ok q28 q29) (fun _ c31 q31 => ?_)
            refine sm_if (sy_eq64 q31 (yJ_lit 0)) sm_none ?_
            exact sm_some ⟨(yJ_div q30 q31), qt27⟩
          intro k32 gk32 hk32
          refine sm_if (sy_eq32 q6 (yI_lit 0)) ?_ ?_
          · exact hk32 _ _ q28
          · exact hk32 _ _ q29
        intro k33 gk33 hk33
        refine sm_lp (fun (k' : Nat → Nat → Nat → Option (Nat × Sy)) (k : Int64 → Int64 → Int32 → Option (Int64 × Zh)) => ∀ (c34 : Nat) (x34 : Int64) (c35 : Nat) (x35 : Int64) (c36 : Nat) (x36 : Int32), yJ x34 c34 → yJ x35 c35 → yI x36 c36 → Sm (fun b a => yJ a.1 b.1 ∧ syR ι e h0 b.2 a.2) (k' c34 c35 c36) (k x34 x35 x36)) ?_ ?_ zFU _ _ _ _ _ _ (yJ_lit 0) (yJ_lit 0) (yI_lit 0)
        · exact fun _ _ _ _ _ _ _ _ _ => sm_none
        intro k37 gk37 hk37
        intro c34 x34 c35 x35 c36 x36 q34 q35 q36
        unfold sX12_seen_L6 gX12_seen_L6
        refine sm_bi (sX12_stateMany_ok hι qt27 q0) (fun _ c38 q38 => ?_)
        refine sm_if (sy_le32 q38 q36) ?_ ?_
        · exact hk33 _ _ _ _ q34 q35
        · refine sm_bi (sX12_count_ok q36) (fun _ c39 q39 => ?_)
          refine sm_jn (fun (k' : Nat → Nat → Option (Nat × Sy)) (k : Int64 → Int64 → Option (Int64 × Zh)) => ∀ (c40 : Nat) (x40 : Int64) (c41 : Nat) (x41 : Int64), yJ x40 c40 → yJ x41 c41 → Sm (fun b a => yJ a.1 b.1 ∧ syR ι e h0 b.2 a.2) (k' c40 c41) (k x40 x41)) ?_ ?_
          · intro c40 x40 c41 x41 q40 q41
            unfold sX12_seen_J4 gX12_seen_J4
            refine sm_f ?_
            exact hk37 _ _ _ _ _ _ q40 q41 (yI_add q36 (yI_lit 1))
          intro k43 gk43 hk43
          refine sm_if (sy_eq32 q39 q1) ?_ ?_
          · refine sm_rR qt27 q0 rfl (fun _ c44 q44 => ?_)
            refine sm_dr q44 (fun _ a45 q45 => ?_)
            refine sm_in qt27 q45 q36 (fun p46 q46 => ?_)
            refine sm_rI qt27 q45 q46 (fun c47 q47 => ?_)
            refine sm_if (sy_lt32 q47 (yI_lit 0)) ?_ ?_
            · exact hk43 _ _ _ _ q34 q35
            · refine sm_rR qt27 q0 rfl (fun _ c48 q48 => ?_)
              refine sm_rR qt27 q0 rfl (fun _ c49 q49 => ?_)
              refine sm_dr q49 (fun _ a50 q50 => ?_)
              refine sm_in qt27 q50 q36 (fun p51 q51 => ?_)
              refine sm_rI qt27 q50 q51 (fun c52 q52 => ?_)
              refine sm_dr q48 (fun _ a53 q53 => ?_)
              refine sm_in qt27 q53 q52 (fun p54 q54 => ?_)
              refine sm_rJ qt27 q53 q54 (fun c55 q55 => ?_)
              refine sm_rR qt27 q0 rfl (fun _ c56 q56 => ?_)
              refine sm_rR qt27 q0 rfl (fun _ c57 q57 => ?_)
              refine sm_dr q57 (fun _ a58 q58 => ?_)
              refine sm_in qt27 q58 q36 (fun p59 q59 => ?_)
              refine sm_rI qt27 q58 q59 (fun c60 q60 => ?_)
              refine sm_dr q56 (fun _ a61 q61 => ?_)
              refine sm_in qt27 q61 q60 (fun p62 q62 => ?_)
              refine sm_rJ qt27 q61 q62 (fun c63 q63 => ?_)
              refine sm_ltj (yJ_mul q55 q63) (fun _ c64 q64 => ?_)
              refine sm_bi (sX12_areAlike_ok q0 q36 q4 q5) (fun _ c65 q65 => ?_)
              refine sm_jn (fun (k' : Nat → Option (Nat × Sy)) (k : Int64 → Option (Int64 × Zh)) => ∀ (c66 : Nat) (x66 : Int64), yJ x66 c66 → Sm (fun b a => yJ a.1 b.1 ∧ syR ι e h0 b.2 a.2) (k' c66) (k x66)) ?_ ?_
              · intro c66 x66 q66
                unfold sX12_seen_J5 gX12_seen_J5
                refine sm_ltj (yJ_add q34 q66) (fun _ c67 q67 => ?_)
                refine sm_ltj (yJ_add q35 q64) (fun _ c68 q68 => ?_)
                exact hk43 _ _ _ _ q67 q68
              intro k69 gk69 hk69
              refine sm_if (sy_eq32 q65 (yI_lit 0)) ?_ ?_
              · refine sm_f ?_
                exact hk69 _ _ (yJ_neg q64)
              · exact hk69 _ _ q64
          · exact hk43 _ _ _ _ q34 q35
  intro k71 gk71 hk71
  refine sm_jn (fun (k' : Option (Nat × Sy)) (k : Option (Int64 × Zh)) => Sm (fun b a => yJ a.1 b.1 ∧ syR ι e h0 b.2 a.2) k' k) ?_ ?_
  · skip
    unfold sX12_seen_J8 gX12_seen_J8
    exact hk71 _ _ (yI_lit 0)
  intro k72 gk72 hk72
  refine sm_if (sy_eq32 q22 (yI_lit 0)) ?_ ?_
  · exact hk72
  · refine sm_rI qt q0 rfl (fun c73 q73 => ?_)
    refine sm_bi (sX12_in_ok (yJ_i2l q5) (yJ_lit 0) (yJ_sub (yJ_i2l q73) (yJ_lit 1))) (fun _ c74 q74 => ?_)
    refine sm_if (sy_eq32 q74 (yI_lit 0)) ?_ ?_
    · exact hk72
    · refine sm_bi (sX12_in_ok (yJ_i2l q6) (yJ_lit 0) (yJ_lit 1)) (fun _ c75 q75 => ?_)
      refine sm_if (sy_eq32 q75 (yI_lit 0)) ?_ ?_
      · exact hk72
      · exact hk71 _ _ (yI_lit 1)
noncomputable def sX12_noWeights (e : Se) (t : Sy) (a0 : Nat) (c1 : Nat) : Option (Nat) :=
  srI t a0 19 (fun c21 => sbi (sX12_in (sy2l c1) 0 (Nat.add (sy2l c21) (syn64 1))) (fun c22 => syc (Nat.beq (Nat.mod c22 4294967296) (Nat.mod 0 4294967296)) (some 1)
  (some 0)))
theorem sX12_noWeights_ok {ι : Nat → Nat} {e : Se} {h0 h : Zh} {t : Sy} (hι : ∀ a b, ι a = ι b → a = b) (qt : syR ι e h0 t h) {x0 : Nat} {a0 : Nat} {x1 : Int32} {c1 : Nat} (q0 : yA ι x0 a0) (q1 : yI x1 c1) : Sm (fun b a => yI a b) (sX12_noWeights e t a0 c1) (gX12_noWeights h x0 x1) := by
  unfold sX12_noWeights gX12_noWeights
  refine sm_rI qt q0 rfl (fun c21 q21 => ?_)
  refine sm_bi (sX12_in_ok (yJ_i2l q1) (yJ_lit 0) (yJ_sub (yJ_i2l q21) (yJ_lit 1))) (fun _ c22 q22 => ?_)
  refine sm_if (sy_eq32 q22 (yI_lit 0)) ?_ ?_
  · exact sm_some (yI_lit 1)
  · exact sm_some (yI_lit 0)
noncomputable def sX12_isWeight (c0 : Nat) : Option (Nat) :=
  sbi (sX12_in (sy2l c0) 18446744073709551607 9) (fun c21 => syc (Nat.ble (Nat.mod c21 4294967296) 1) (some c21) none)
theorem sX12_isWeight_ok {x0 : Int32} {c0 : Nat} (q0 : yI x0 c0) : Sm (fun b a => yI a b) (sX12_isWeight c0) (gX12_isWeight x0) := by
  unfold sX12_isWeight gX12_isWeight
  refine sm_bi (sX12_in_ok (yJ_i2l q0) (show yJ (-9) 18446744073709551607 from by unfold yJ; decide) (yJ_lit 9)) (fun _ c21 q21 => ?_)
  refine sm_zb q21 ?_
  exact sm_some q21
noncomputable def sX12_addWeights_J1 (e : Se) (a0 : Nat) (t41 : Sy) (c42 : Nat) (c43 : Nat) : Nat → Option (Nat × Sy) :=
  fun (c44 : Nat) => syr c42 (fun a45 => syi e a45 c43 (fun p46 => swI e t41 a45 p46 c44 (fun t47 => srI t47 a0 19 (fun c48 => swI e t47 a0 19 (Nat.add c48 1) (fun t49 => srI t49 a0 19 (fun c50 => some ((Nat.add c50 (syn32 1)), t49)))))))
noncomputable def sX12_addWeights_J2 (e : Se) (a0 : Nat) (c1 : Nat) (c4 : Nat) (t35 : Sy) (c36 : Nat) (c37 : Nat) : Nat → Option (Nat × Sy) :=
  fun (c38 : Nat) => syr c36 (fun a39 => syi e a39 c37 (fun p40 => swI e t35 a39 p40 c38 (fun t41 => srR t41 a0 23 (fun c42 => srI t41 a0 19 (fun c43 => zjn (sX12_addWeights_J1 e a0 t41 c42 c43) (fun (k51 : Nat → Option (Nat × Sy)) =>
  syc (Nat.beq (Nat.mod c1 4294967296) (Nat.mod 2 4294967296)) (syf (syn32 c4) (fun c52 => k51 c52))
  (k51 c4)))))))
noncomputable def sX12_addWeights_J3 (e : Se) (a0 : Nat) (c1 : Nat) (c2 : Nat) (c3 : Nat) (c4 : Nat) (t29 : Sy) (c30 : Nat) (c31 : Nat) : Nat → Option (Nat × Sy) :=
  fun (c32 : Nat) => syr c30 (fun a33 => syi e a33 c31 (fun p34 => swI e t29 a33 p34 c32 (fun t35 => srR t35 a0 22 (fun c36 => srI t35 a0 19 (fun c37 => zjn (sX12_addWeights_J2 e a0 c1 c4 t35 c36 c37) (fun (k53 : Nat → Option (Nat × Sy)) =>
  syc (Nat.beq (Nat.mod c1 4294967296) (Nat.mod 0 4294967296)) (k53 c3)
  (k53 c2)))))))
noncomputable def sX12_addWeights (e : Se) (t : Sy) (a0 : Nat) (c1 : Nat) (c2 : Nat) (c3 : Nat) (c4 : Nat) : Option (Nat × Sy) :=
  sbi (sX12_isWeight c2) (fun c21 => syc (Nat.beq (Nat.mod c21 4294967296) (Nat.mod 0 4294967296)) (some (4294967294, t))
  (sbi (sX12_isWeight c3) (fun c22 => syc (Nat.beq (Nat.mod c22 4294967296) (Nat.mod 0 4294967296)) (some (4294967294, t))
  (sbi (sX12_isWeight c4) (fun c23 => syc (Nat.beq (Nat.mod c23 4294967296) (Nat.mod 0 4294967296)) (some (4294967294, t))
  (srI t a0 19 (fun c24 => syc (Nat.beq (Nat.mod c24 4294967296) (Nat.mod 6 4294967296)) (some (4294967292, t))
  (srR t a0 20 (fun c25 => srI t a0 19 (fun c26 => syr c25 (fun a27 => syi e a27 c26 (fun p28 => swI e t a27 p28 c1 (fun t29 => srR t29 a0 21 (fun c30 => srI t29 a0 19 (fun c31 => zjn (sX12_addWeights_J3 e a0 c1 c2 c3 c4 t29 c30 c31) (fun (k54 : Nat → Option (Nat × Sy)) =>
  syc (Nat.beq (Nat.mod c1 4294967296) (Nat.mod 0 4294967296)) (k54 c2)
  (k54 c3)))))))))))))))))
theorem sX12_addWeights_ok {ι : Nat → Nat} {e : Se} {h0 h : Zh} {t : Sy} (hι : ∀ a b, ι a = ι b → a = b) (qt : syR ι e h0 t h) {x0 : Nat} {a0 : Nat} {x1 : Int32} {c1 : Nat} {x2 : Int32} {c2 : Nat} {x3 : Int32} {c3 : Nat} {x4 : Int32} {c4 : Nat} (q0 : yA ι x0 a0) (q1 : yI x1 c1) (q2 : yI x2 c2) (q3 : yI x3 c3) (q4 : yI x4 c4) : Sm (fun b a => yI a.1 b.1 ∧ syR ι e h0 b.2 a.2) (sX12_addWeights e t a0 c1 c2 c3 c4) (gX12_addWeights h x0 x1 x2 x3 x4) := by
  unfold sX12_addWeights gX12_addWeights
  refine sm_bi (sX12_isWeight_ok q2) (fun _ c21 q21 => ?_)
  refine sm_if (sy_eq32 q21 (yI_lit 0)) ?_ ?_
  · exact sm_some ⟨(show yI (-2) 4294967294 from by unfold yI; decide), qt⟩
  · refine sm_bi (sX12_isWeight_ok q3) (fun _ c22 q22 => ?_)
    refine sm_if (sy_eq32 q22 (yI_lit 0)) ?_ ?_
    · exact sm_some ⟨(show yI (-2) 4294967294 from by unfold yI; decide), qt⟩
    · refine sm_bi (sX12_isWeight_ok q4) (fun _ c23 q23 => ?_)
      refine sm_if (sy_eq32 q23 (yI_lit 0)) ?_ ?_
      · exact sm_some ⟨(show yI (-2) 4294967294 from by unfold yI; decide), qt⟩
      · refine sm_rI qt q0 rfl (fun c24 q24 => ?_)
        refine sm_if (sy_eq32 q24 (yI_lit 6)) ?_ ?_
        · exact sm_some ⟨(show yI (-4) 4294967292 from by unfold yI; decide), qt⟩
        · refine sm_rR qt q0 rfl (fun _ c25 q25 => ?_)
          refine sm_rI qt q0 rfl (fun c26 q26 => ?_)
          refine sm_dr q25 (fun _ a27 q27 => ?_)
          refine sm_in qt q27 q26 (fun p28 q28 => ?_)
          refine sm_wI hι qt q27 q28 q1 (fun _ t29 qt29 => ?_)
          refine sm_rR qt29 q0 rfl (fun _ c30 q30 => ?_)
          refine sm_rI qt29 q0 rfl (fun c31 q31 => ?_)
          refine sm_jn (fun (k' : Nat → Option (Nat × Sy)) (k : Int32 → Option (Int32 × Zh)) => ∀ (c32 : Nat) (x32 : Int32), yI x32 c32 → Sm (fun b a => yI a.1 b.1 ∧ syR ι e h0 b.2 a.2) (k' c32) (k x32)) ?_ ?_
          · intro c32 x32 q32
            unfold sX12_addWeights_J3 gX12_addWeights_J3
            refine sm_dr q30 (fun _ a33 q33 => ?_)
            refine sm_in qt29 q33 q31 (fun p34 q34 => ?_)
            refine sm_wI hι qt29 q33 q34 q32 (fun _ t35 qt35 => ?_)
            refine sm_rR qt35 q0 rfl (fun _ c36 q36 => ?_)
            refine sm_rI qt35 q0 rfl (fun c37 q37 => ?_)
            refine sm_jn (fun (k' : Nat → Option (Nat × Sy)) (k : Int32 → Option (Int32 × Zh)) => ∀ (c38 : Nat) (x38 : Int32), yI x38 c38 → Sm (fun b a => yI a.1 b.1 ∧ syR ι e h0 b.2 a.2) (k' c38) (k x38)) ?_ ?_
            · intro c38 x38 q38
              unfold sX12_addWeights_J2 gX12_addWeights_J2
              refine sm_dr q36 (fun _ a39 q39 => ?_)
              refine sm_in qt35 q39 q37 (fun p40 q40 => ?_)
              refine sm_wI hι qt35 q39 q40 q38 (fun _ t41 qt41 => ?_)
              refine sm_rR qt41 q0 rfl (fun _ c42 q42 => ?_)
              refine sm_rI qt41 q0 rfl (fun c43 q43 => ?_)
              refine sm_jn (fun (k' : Nat → Option (Nat × Sy)) (k : Int32 → Option (Int32 × Zh)) => ∀ (c44 : Nat) (x44 : Int32), yI x44 c44 → Sm (fun b a => yI a.1 b.1 ∧ syR ι e h0 b.2 a.2) (k' c44) (k x44)) ?_ ?_
              · intro c44 x44 q44
                unfold sX12_addWeights_J1 gX12_addWeights_J1
                refine sm_dr q42 (fun _ a45 q45 => ?_)
                refine sm_in qt41 q45 q43 (fun p46 q46 => ?_)
                refine sm_wI hι qt41 q45 q46 q44 (fun _ t47 qt47 => ?_)
                refine sm_rI qt47 q0 rfl (fun c48 q48 => ?_)
                refine sm_wI hι qt47 q0 rfl (yI_add q48 (yI_lit 1)) (fun _ t49 qt49 => ?_)
                refine sm_rI qt49 q0 rfl (fun c50 q50 => ?_)
                exact sm_some ⟨(yI_sub q50 (yI_lit 1)), qt49⟩
              intro k51 gk51 hk51
              refine sm_if (sy_eq32 q1 (yI_lit 2)) ?_ ?_
              · refine sm_f ?_
                exact hk51 _ _ (yI_neg q4)
              · exact hk51 _ _ q4
            intro k53 gk53 hk53
            refine sm_if (sy_eq32 q1 (yI_lit 0)) ?_ ?_
            · exact hk53 _ _ q3
            · exact hk53 _ _ q2
          intro k54 gk54 hk54
          refine sm_if (sy_eq32 q1 (yI_lit 0)) ?_ ?_
          · exact hk54 _ _ q2
          · exact hk54 _ _ q3
noncomputable def sX12_weights (e : Se) (t : Sy) (a0 : Nat) (c1 : Nat) (c2 : Nat) (c3 : Nat) (c4 : Nat) : Option (Nat × Sy) :=
  sbi (sX12_in (sy2l c1) 0 2) (fun c21 => syc (Nat.beq (Nat.mod c21 4294967296) (Nat.mod 0 4294967296)) (some (4294967294, t))
  (sbI (sX12_addWeights e t a0 c1 c2 c3 c4) (fun c22 t22 => some (c22, t22))))
theorem sX12_weights_ok {ι : Nat → Nat} {e : Se} {h0 h : Zh} {t : Sy} (hι : ∀ a b, ι a = ι b → a = b) (qt : syR ι e h0 t h) {x0 : Nat} {a0 : Nat} {x1 : Int32} {c1 : Nat} {x2 : Int32} {c2 : Nat} {x3 : Int32} {c3 : Nat} {x4 : Int32} {c4 : Nat} (q0 : yA ι x0 a0) (q1 : yI x1 c1) (q2 : yI x2 c2) (q3 : yI x3 c3) (q4 : yI x4 c4) : Sm (fun b a => yI a.1 b.1 ∧ syR ι e h0 b.2 a.2) (sX12_weights e t a0 c1 c2 c3 c4) (gX12_weights h x0 x1 x2 x3 x4) := by
  unfold sX12_weights gX12_weights
  refine sm_bi (sX12_in_ok (yJ_i2l q1) (yJ_lit 0) (yJ_lit 2)) (fun _ c21 q21 => ?_)
  refine sm_if (sy_eq32 q21 (yI_lit 0)) ?_ ?_
  · exact sm_some ⟨(show yI (-2) 4294967294 from by unfold yI; decide), qt⟩
  · refine sm_bI (sX12_addWeights_ok hι qt q0 q1 q2 q3 q4) (fun _ c22 q22 _ t22 qt22 => ?_)
    exact sm_some ⟨q22, qt22⟩
noncomputable def sX12_noSheet (c0 : Nat) : Option (Nat) :=
  sbi (sX12_in (sy2l c0) 0 3) (fun c21 => syc (Nat.beq (Nat.mod c21 4294967296) (Nat.mod 0 4294967296)) (some 1)
  (some 0))
theorem sX12_noSheet_ok {x0 : Int32} {c0 : Nat} (q0 : yI x0 c0) : Sm (fun b a => yI a b) (sX12_noSheet c0) (gX12_noSheet x0) := by
  unfold sX12_noSheet gX12_noSheet
  refine sm_bi (sX12_in_ok (yJ_i2l q0) (yJ_lit 0) (yJ_lit 3)) (fun _ c21 q21 => ?_)
  refine sm_if (sy_eq32 q21 (yI_lit 0)) ?_ ?_
  · exact sm_some (yI_lit 1)
  · exact sm_some (yI_lit 0)
noncomputable def sX12_isBeyond_J1 : Option (Nat) :=
  some 1
noncomputable def sX12_isBeyond (c0 : Nat) (c1 : Nat) (c3 : Nat) : Option (Nat) :=
  zjn sX12_isBeyond_J1 (fun (k21 : Option (Nat)) =>
  syc (Nat.ble (Nat.succ (syo32 c0)) (syo32 0)) (k21)
  (syc (Nat.ble (Nat.succ (syo32 (sycmp c1 0))) (syo32 0)) (k21)
  (syc (Nat.ble (syo32 (sycmp (Nat.add (sy2l c0) c1) (sy2l c3))) (syo32 0)) (some 0)
  (k21))))
theorem sX12_isBeyond_ok {x0 : Int32} {c0 : Nat} {x1 : Int64} {c1 : Nat} {x3 : Int32} {c3 : Nat} (q0 : yI x0 c0) (q1 : yJ x1 c1) (q3 : yI x3 c3) : Sm (fun b a => yI a b) (sX12_isBeyond c0 c1 c3) (gX12_isBeyond x0 x1 x3) := by
  unfold sX12_isBeyond gX12_isBeyond
  refine sm_jn (fun (k' : Option (Nat)) (k : Option (Int32)) => Sm (fun b a => yI a b) k' k) ?_ ?_
  · skip
    unfold sX12_isBeyond_J1 gX12_isBeyond_J1
    exact sm_some (yI_lit 1)
  intro k21 gk21 hk21
  refine sm_if (sy_lt32 q0 (yI_lit 0)) ?_ ?_
  · exact hk21
  · refine sm_if (sy_lt32 (yI_cmp q1 (yJ_lit 0)) (yI_lit 0)) ?_ ?_
    · exact hk21
    · refine sm_if (sy_le32 (yI_cmp (yJ_add (yJ_i2l q0) q1) (yJ_i2l q3)) (yI_lit 0)) ?_ ?_
      · exact sm_some (yI_lit 0)
      · exact hk21
noncomputable def sX12_weightsOf_J1 (e : Se) (t : Sy) (a0 : Nat) : Option (Nat × Sy) :=
  sbI (sX12_refused e t a0 4294967294) (fun c23 t23 => some (c23, t23))
noncomputable def sX12_weightsOf_J2 (e : Se) (t : Sy) (a0 : Nat) (c1 : Nat) (c2 : Nat) (c4 : Nat) : Option (Nat × Sy) :=
  srR t a0 38 (fun c30 => syr c30 (fun a31 => syi e a31 c2 (fun p32 => srI t a31 p32 (fun c33 => syc (Nat.ble (syo32 0) (syo32 c33)) (srR t a0 38 (fun c34 => syr c34 (fun a35 => syi e a35 c2 (fun p36 => srI t a35 p36 (fun c37 => sbi (sX12_isBeyond c4 3 c37) (fun c38 => syc (Nat.beq (Nat.mod c38 4294967296) (Nat.mod 0 4294967296)) (syf (Nat.add (Nat.mul 60 c2) c4) (fun c39 => srR t a0 40 (fun c40 => syr c40 (fun a41 => syi e a41 c39 (fun p42 => srI t a41 p42 (fun c43 => srR t a0 40 (fun c44 => syr c44 (fun a45 => syi e a45 (Nat.add c39 1) (fun p46 => srI t a45 p46 (fun c47 => srR t a0 40 (fun c48 => syr c48 (fun a49 => syi e a49 (Nat.add c39 2) (fun p50 => srI t a49 p50 (fun c51 => sbI (sX12_addWeights e t a0 c1 c43 c47 c51) (fun c52 t52 => sbI (sX12_refused e t52 a0 c52) (fun c53 t53 => some (c53, t53)))))))))))))))))
  (sbI (sX12_failed e t a0 3) (fun c54 t54 => some (c54, t54)))))))))
  (sbI (sX12_failed e t a0 1) (fun c55 t55 => some (c55, t55)))))))
noncomputable def sX12_weightsOf (e : Se) (t : Sy) (a0 : Nat) (c1 : Nat) (c2 : Nat) (c3 : Nat) (c4 : Nat) : Option (Nat × Sy) :=
  sbi (sX12_noSheet c2) (fun c21 => syc (Nat.beq (Nat.mod c21 4294967296) (Nat.mod 0 4294967296)) (sbi (sX12_in (sy2l c3) 0 2) (fun c22 => zjn (sX12_weightsOf_J1 e t a0) (fun (k24 : Option (Nat × Sy)) =>
  syc (Nat.beq (Nat.mod c22 4294967296) (Nat.mod 0 4294967296)) (k24)
  (sbi (sX12_in (sy2l c1) 0 2) (fun c25 => syc (Nat.beq (Nat.mod c25 4294967296) (Nat.mod 0 4294967296)) (k24)
  (srR t a0 38 (fun c26 => syr c26 (fun a27 => syi e a27 c2 (fun p28 => srI t a27 p28 (fun c29 => zjn (sX12_weightsOf_J2 e t a0 c1 c2 c4) (fun (k56 : Option (Nat × Sy)) =>
  syc (Nat.ble (Nat.succ (syo32 c29)) (syo32 0)) (k56)
  (srR t a0 39 (fun c57 => syr c57 (fun a58 => syi e a58 c2 (fun p59 => srI t a58 p59 (fun c60 => syc (Nat.beq (Nat.mod c60 4294967296) (Nat.mod c3 4294967296)) (k56)
  (sbI (sX12_failed e t a0 2) (fun c61 t61 => some (c61, t61)))))))))))))))))))
  (sbI (sX12_refused e t a0 4294967295) (fun c62 t62 => some (c62, t62))))
theorem sX12_weightsOf_ok {ι : Nat → Nat} {e : Se} {h0 h : Zh} {t : Sy} (hι : ∀ a b, ι a = ι b → a = b) (qt : syR ι e h0 t h) {x0 : Nat} {a0 : Nat} {x1 : Int32} {c1 : Nat} {x2 : Int32} {c2 : Nat} {x3 : Int32} {c3 : Nat} {x4 : Int32} {c4 : Nat} (q0 : yA ι x0 a0) (q1 : yI x1 c1) (q2 : yI x2 c2) (q3 : yI x3 c3) (q4 : yI x4 c4) : Sm (fun b a => yI a.1 b.1 ∧ syR ι e h0 b.2 a.2) (sX12_weightsOf e t a0 c1 c2 c3 c4) (gX12_weightsOf h x0 x1 x2 x3 x4) := by
  unfold sX12_weightsOf gX12_weightsOf
  refine sm_bi (sX12_noSheet_ok q2) (fun _ c21 q21 => ?_)
  refine sm_if (sy_eq32 q21 (yI_lit 0)) ?_ ?_
  · refine sm_bi (sX12_in_ok (yJ_i2l q3) (yJ_lit 0) (yJ_lit 2)) (fun _ c22 q22 => ?_)
    refine sm_jn (fun (k' : Option (Nat × Sy)) (k : Option (Int32 × Zh)) => Sm (fun b a => yI a.1 b.1 ∧ syR ι e h0 b.2 a.2) k' k) ?_ ?_
    · skip
      unfold sX12_weightsOf_J1 gX12_weightsOf_J1
      refine sm_bI (sX12_refused_ok hι qt q0 (show yI (-2) 4294967294 from by unfold yI; decide)) (fun _ c23 q23 _ t23 qt23 => ?_)
      exact sm_some ⟨q23, qt23⟩
    intro k24 gk24 hk24
    refine sm_if (sy_eq32 q22 (yI_lit 0)) ?_ ?_
    · exact hk24
    · refine sm_bi (sX12_in_ok (yJ_i2l q1) (yJ_lit 0) (yJ_lit 2)) (fun _ c25 q25 => ?_)
      refine sm_if (sy_eq32 q25 (yI_lit 0)) ?_ ?_
      · exact hk24
      · refine sm_rR qt q0 rfl (fun _ c26 q26 => ?_)
        refine sm_dr q26 (fun _ a27 q27 => ?_)
        refine sm_in qt q27 q2 (fun p28 q28 => ?_)
        refine sm_rI qt q27 q28 (fun c29 q29 => ?_)
        refine sm_jn (fun (k' : Option (Nat × Sy)) (k : Option (Int32 × Zh)) => Sm (fun b a => yI a.1 b.1 ∧ syR ι e h0 b.2 a.2) k' k) ?_ ?_
        · skip
          unfold sX12_weightsOf_J2 gX12_weightsOf_J2
          refine sm_rR qt q0 rfl (fun _ c30 q30 => ?_)
          refine sm_dr q30 (fun _ a31 q31 => ?_)
          refine sm_in qt q31 q2 (fun p32 q32 => ?_)
          refine sm_rI qt q31 q32 (fun c33 q33 => ?_)
          refine sm_if (sy_le32 (yI_lit 0) q33) ?_ ?_
          · refine sm_rR qt q0 rfl (fun _ c34 q34 => ?_)
            refine sm_dr q34 (fun _ a35 q35 => ?_)
            refine sm_in qt q35 q2 (fun p36 q36 => ?_)
            refine sm_rI qt q35 q36 (fun c37 q37 => ?_)
            refine sm_bi (sX12_isBeyond_ok q4 (yJ_lit 3) q37) (fun _ c38 q38 => ?_)
            refine sm_if (sy_eq32 q38 (yI_lit 0)) ?_ ?_
            · refine sm_lti (yI_add (yI_mul (yI_lit 60) q2) q4) (fun _ c39 q39 => ?_)
              refine sm_rR qt q0 rfl (fun _ c40 q40 => ?_)
              refine sm_dr q40 (fun _ a41 q41 => ?_)
              refine sm_in qt q41 q39 (fun p42 q42 => ?_)
              refine sm_rI qt q41 q42 (fun c43 q43 => ?_)
              refine sm_rR qt q0 rfl (fun _ c44 q44 => ?_)
              refine sm_dr q44 (fun _ a45 q45 => ?_)
              refine sm_in qt q45 (yI_add q39 (yI_lit 1)) (fun p46 q46 => ?_)
              refine sm_rI qt q45 q46 (fun c47 q47 => ?_)
              refine sm_rR qt q0 rfl (fun _ c48 q48 => ?_)
              refine sm_dr q48 (fun _ a49 q49 => ?_)
              refine sm_in qt q49 (yI_add q39 (yI_lit 2)) (fun p50 q50 => ?_)
              refine sm_rI qt q49 q50 (fun c51 q51 => ?_)
              refine sm_bI (sX12_addWeights_ok hι qt q0 q1 q43 q47 q51) (fun _ c52 q52 _ t52 qt52 => ?_)
              refine sm_bI (sX12_refused_ok hι qt52 q0 q52) (fun _ c53 q53 _ t53 qt53 => ?_)
              exact sm_some ⟨q53, qt53⟩
            · refine sm_bI (sX12_failed_ok hι qt q0 (yI_lit 3)) (fun _ c54 q54 _ t54 qt54 => ?_)
              exact sm_some ⟨q54, qt54⟩
          · refine sm_bI (sX12_failed_ok hι qt q0 (yI_lit 1)) (fun _ c55 q55 _ t55 qt55 => ?_)
            exact sm_some ⟨q55, qt55⟩
        intro k56 gk56 hk56
        refine sm_if (sy_lt32 q29 (yI_lit 0)) ?_ ?_
        · exact hk56
        · refine sm_rR qt q0 rfl (fun _ c57 q57 => ?_)
          refine sm_dr q57 (fun _ a58 q58 => ?_)
          refine sm_in qt q58 q2 (fun p59 q59 => ?_)
          refine sm_rI qt q58 q59 (fun c60 q60 => ?_)
          refine sm_if (sy_eq32 q60 q3) ?_ ?_
          · exact hk56
          · refine sm_bI (sX12_failed_ok hι qt q0 (yI_lit 2)) (fun _ c61 q61 _ t61 qt61 => ?_)
            exact sm_some ⟨q61, qt61⟩
  · refine sm_bI (sX12_refused_ok hι qt q0 (show yI (-1) 4294967295 from by unfold yI; decide)) (fun _ c62 q62 _ t62 qt62 => ?_)
    exact sm_some ⟨q62, qt62⟩
noncomputable def sX12_weight (e : Se) (t : Sy) (a0 : Nat) (c1 : Nat) (c2 : Nat) : Option (Nat) :=
  sbi (sX12_noWeights e t a0 c1) (fun c21 => syc (Nat.beq (Nat.mod c21 4294967296) (Nat.mod 0 4294967296)) (syc (Nat.beq (Nat.mod c2 4294967296) (Nat.mod 0 4294967296)) (srR t a0 21 (fun c22 => syr c22 (fun a23 => syi e a23 c1 (fun p24 => srI t a23 p24 (fun c25 => some (sy2l c25))))))
  (syc (Nat.beq (Nat.mod c2 4294967296) (Nat.mod 1 4294967296)) (srR t a0 22 (fun c26 => syr c26 (fun a27 => syi e a27 c1 (fun p28 => srI t a27 p28 (fun c29 => some (sy2l c29))))))
  (syc (Nat.beq (Nat.mod c2 4294967296) (Nat.mod 2 4294967296)) (srR t a0 23 (fun c30 => syr c30 (fun a31 => syi e a31 c1 (fun p32 => srI t a31 p32 (fun c33 => some (sy2l c33))))))
  (syc (Nat.beq (Nat.mod c2 4294967296) (Nat.mod 3 4294967296)) (srR t a0 20 (fun c34 => syr c34 (fun a35 => syi e a35 c1 (fun p36 => srI t a35 p36 (fun c37 => some (sy2l c37))))))
  (sbj (sX12_lost ) (fun c38 => some c38))))))
  (sbj (sX12_lost ) (fun c39 => some c39)))
theorem sX12_weight_ok {ι : Nat → Nat} {e : Se} {h0 h : Zh} {t : Sy} (hι : ∀ a b, ι a = ι b → a = b) (qt : syR ι e h0 t h) {x0 : Nat} {a0 : Nat} {x1 : Int32} {c1 : Nat} {x2 : Int32} {c2 : Nat} (q0 : yA ι x0 a0) (q1 : yI x1 c1) (q2 : yI x2 c2) : Sm (fun b a => yJ a b) (sX12_weight e t a0 c1 c2) (gX12_weight h x0 x1 x2) := by
  unfold sX12_weight gX12_weight
  refine sm_bi (sX12_noWeights_ok hι qt q0 q1) (fun _ c21 q21 => ?_)
  refine sm_if (sy_eq32 q21 (yI_lit 0)) ?_ ?_
  · refine sm_if (sy_eq32 q2 (yI_lit 0)) ?_ ?_
    · refine sm_rR qt q0 rfl (fun _ c22 q22 => ?_)
      refine sm_dr q22 (fun _ a23 q23 => ?_)
      refine sm_in qt q23 q1 (fun p24 q24 => ?_)
      refine sm_rI qt q23 q24 (fun c25 q25 => ?_)
      exact sm_some (yJ_i2l q25)
    refine sm_if (sy_eq32 q2 (yI_lit 1)) ?_ ?_
    · refine sm_rR qt q0 rfl (fun _ c26 q26 => ?_)
      refine sm_dr q26 (fun _ a27 q27 => ?_)
      refine sm_in qt q27 q1 (fun p28 q28 => ?_)
      refine sm_rI qt q27 q28 (fun c29 q29 => ?_)
      exact sm_some (yJ_i2l q29)
    refine sm_if (sy_eq32 q2 (yI_lit 2)) ?_ ?_
    · refine sm_rR qt q0 rfl (fun _ c30 q30 => ?_)
      refine sm_dr q30 (fun _ a31 q31 => ?_)
      refine sm_in qt q31 q1 (fun p32 q32 => ?_)
      refine sm_rI qt q31 q32 (fun c33 q33 => ?_)
      exact sm_some (yJ_i2l q33)
    refine sm_if (sy_eq32 q2 (yI_lit 3)) ?_ ?_
    · refine sm_rR qt q0 rfl (fun _ c34 q34 => ?_)
      refine sm_dr q34 (fun _ a35 q35 => ?_)
      refine sm_in qt q35 q1 (fun p36 q36 => ?_)
      refine sm_rI qt q35 q36 (fun c37 q37 => ?_)
      exact sm_some (yJ_i2l q37)
    refine sm_bj (sX12_lost_ok ) (fun _ c38 q38 => ?_)
    exact sm_some q38
  · refine sm_bj (sX12_lost_ok ) (fun _ c39 q39 => ?_)
    exact sm_some q39
noncomputable def sX12_crossing_J1 : Option (Nat) :=
  some 0
noncomputable def sX12_crossing_J2 (e : Se) (t : Sy) (a0 : Nat) (c1 : Nat) (c2 : Nat) (c3 : Nat) (c4 : Nat) (c5 : Nat) : Option (Nat) :=
  zjn sX12_crossing_J1 (fun (k21 : Option (Nat)) =>
  syc (Nat.beq (Nat.mod c2 4294967296) (Nat.mod c5 4294967296)) (syc (Nat.beq (Nat.mod c3 4294967296) (Nat.mod c4 4294967296)) (srR t a0 23 (fun c22 => syr c22 (fun a23 => syi e a23 c1 (fun p24 => srI t a23 p24 (fun c25 => some c25)))))
  (k21))
  (k21))
noncomputable def sX12_crossing_J3 : Option (Nat) :=
  some 0
noncomputable def sX12_crossing (e : Se) (t : Sy) (a0 : Nat) (c1 : Nat) (c2 : Nat) (c3 : Nat) (c4 : Nat) (c5 : Nat) : Option (Nat) :=
  syc (Nat.beq (Nat.mod c2 4294967296) (Nat.mod c3 4294967296)) (zjn sX12_crossing_J3 (fun (k31 : Option (Nat)) =>
  syc (Nat.beq (Nat.mod c4 4294967296) (Nat.mod c2 4294967296)) (syc (Nat.beq (Nat.mod c5 4294967296) (Nat.mod c2 4294967296)) (srR t a0 21 (fun c32 => syr c32 (fun a33 => syi e a33 c1 (fun p34 => srI t a33 p34 (fun c35 => some c35)))))
  (k31))
  (k31)))
  (zjn (sX12_crossing_J2 e t a0 c1 c2 c3 c4 c5) (fun (k26 : Option (Nat)) =>
  syc (Nat.beq (Nat.mod c2 4294967296) (Nat.mod c4 4294967296)) (syc (Nat.beq (Nat.mod c3 4294967296) (Nat.mod c5 4294967296)) (srR t a0 22 (fun c27 => syr c27 (fun a28 => syi e a28 c1 (fun p29 => srI t a28 p29 (fun c30 => some c30)))))
  (k26))
  (k26)))
theorem sX12_crossing_ok {ι : Nat → Nat} {e : Se} {h0 h : Zh} {t : Sy} (hι : ∀ a b, ι a = ι b → a = b) (qt : syR ι e h0 t h) {x0 : Nat} {a0 : Nat} {x1 : Int32} {c1 : Nat} {x2 : Int32} {c2 : Nat} {x3 : Int32} {c3 : Nat} {x4 : Int32} {c4 : Nat} {x5 : Int32} {c5 : Nat} (q0 : yA ι x0 a0) (q1 : yI x1 c1) (q2 : yI x2 c2) (q3 : yI x3 c3) (q4 : yI x4 c4) (q5 : yI x5 c5) : Sm (fun b a => yI a b) (sX12_crossing e t a0 c1 c2 c3 c4 c5) (gX12_crossing h x0 x1 x2 x3 x4 x5) := by
  unfold sX12_crossing gX12_crossing
  refine sm_if (sy_eq32 q2 q3) ?_ ?_
  · refine sm_jn (fun (k' : Option (Nat)) (k : Option (Int32)) => Sm (fun b a => yI a b) k' k) ?_ ?_
    · skip
      unfold sX12_crossing_J3 gX12_crossing_J3
      exact sm_some (yI_lit 0)
    intro k31 gk31 hk31
    refine sm_if (sy_eq32 q4 q2) ?_ ?_
    · refine sm_if (sy_eq32 q5 q2) ?_ ?_
      · refine sm_rR qt q0 rfl (fun _ c32 q32 => ?_)
        refine sm_dr q32 (fun _ a33 q33 => ?_)
        refine sm_in qt q33 q1 (fun p34 q34 => ?_)
        refine sm_rI qt q33 q34 (fun c35 q35 => ?_)
        exact sm_some q35
      · exact hk31
    · exact hk31
  · refine sm_jn (fun (k' : Option (Nat)) (k : Option (Int32)) => Sm (fun b a => yI a b) k' k) ?_ ?_
    · skip
      unfold sX12_crossing_J2 gX12_crossing_J2
      refine sm_jn (fun (k' : Option (Nat)) (k : Option (Int32)) => Sm (fun b a => yI a b) k' k) ?_ ?_
      · skip
        unfold sX12_crossing_J1 gX12_crossing_J1
        exact sm_some (yI_lit 0)
      intro k21 gk21 hk21
      refine sm_if (sy_eq32 q2 q5) ?_ ?_
      · refine sm_if (sy_eq32 q3 q4) ?_ ?_
        · refine sm_rR qt q0 rfl (fun _ c22 q22 => ?_)
          refine sm_dr q22 (fun _ a23 q23 => ?_)
          refine sm_in qt q23 q1 (fun p24 q24 => ?_)
          refine sm_rI qt q23 q24 (fun c25 q25 => ?_)
          exact sm_some q25
        · exact hk21
      · exact hk21
    intro k26 gk26 hk26
    refine sm_if (sy_eq32 q2 q4) ?_ ?_
    · refine sm_if (sy_eq32 q3 q5) ?_ ?_
      · refine sm_rR qt q0 rfl (fun _ c27 q27 => ?_)
        refine sm_dr q27 (fun _ a28 q28 => ?_)
        refine sm_in qt q28 q1 (fun p29 q29 => ?_)
        refine sm_rI qt q28 q29 (fun c30 q30 => ?_)
        exact sm_some q30
      · exact hk26
    · exact hk26
noncomputable def sX12_along_J1 (c6 : Nat) : Nat → Nat → Option (Nat) :=
  fun (c23 : Nat) (c24 : Nat) => syc (Nat.beq (Nat.mod c6 4294967296) (Nat.mod 0 4294967296)) (some c23)
  (some c24)
noncomputable def sX12_along_L2 (e : Se) (t : Sy) (a0 : Nat) (c1 : Nat) (c2 : Nat) (c3 : Nat) (c4 : Nat) (k25 : Nat → Nat → Option (Nat)) : (Nat → Nat → Nat → Option (Nat)) → Nat → Nat → Nat → Option (Nat) :=
  fun (k29 : Nat → Nat → Nat → Option (Nat)) (c26 : Nat) (c27 : Nat) (c28 : Nat) => syc (Nat.ble (syo32 c2) (syo32 c28)) (k25 c26 c27)
  (syf (Nat.land (sysr c3 c28) 1) (fun c30 => syf (Nat.land (sysr c4 c28) 1) (fun c31 => sbi (sX12_crossing e t a0 c1 0 c30 0 c31) (fun c32 => sbi (sX12_crossing e t a0 c1 1 c30 0 c31) (fun c33 => syf (Nat.add (Nat.mul c26 (sy2l c32)) (Nat.mul c27 (sy2l c33))) (fun c34 => sbi (sX12_crossing e t a0 c1 0 c30 1 c31) (fun c35 => sbi (sX12_crossing e t a0 c1 1 c30 1 c31) (fun c36 => syf (Nat.add (Nat.mul c26 (sy2l c35)) (Nat.mul c27 (sy2l c36))) (fun c37 => syf (Nat.add c28 1) (fun c38 => k29 c34 c37 c38))))))))))
noncomputable def sX12_along_J3 (e : Se) (t : Sy) (a0 : Nat) (c1 : Nat) (c2 : Nat) (c3 : Nat) (c4 : Nat) (c6 : Nat) (c21 : Nat) : Nat → Option (Nat) :=
  fun (c22 : Nat) => zjn (sX12_along_J1 c6) (fun (k25 : Nat → Nat → Option (Nat)) =>
  syl (fun _ _ _ => (none : Option (Nat))) (sX12_along_L2 e t a0 c1 c2 c3 c4 k25) zFU c21 c22 0)
noncomputable def sX12_along_J4 (e : Se) (t : Sy) (a0 : Nat) (c1 : Nat) (c2 : Nat) (c3 : Nat) (c4 : Nat) (c5 : Nat) (c6 : Nat) : Nat → Option (Nat) :=
  fun (c21 : Nat) => zjn (sX12_along_J3 e t a0 c1 c2 c3 c4 c6 c21) (fun (k39 : Nat → Option (Nat)) =>
  syc (Nat.beq (Nat.mod c5 4294967296) (Nat.mod 1 4294967296)) (k39 1)
  (k39 0))
noncomputable def sX12_along (e : Se) (t : Sy) (a0 : Nat) (c1 : Nat) (c2 : Nat) (c3 : Nat) (c4 : Nat) (c5 : Nat) (c6 : Nat) : Option (Nat) :=
  zjn (sX12_along_J4 e t a0 c1 c2 c3 c4 c5 c6) (fun (k40 : Nat → Option (Nat)) =>
  syc (Nat.beq (Nat.mod c5 4294967296) (Nat.mod 0 4294967296)) (k40 1)
  (k40 0))
theorem sX12_along_ok {ι : Nat → Nat} {e : Se} {h0 h : Zh} {t : Sy} (hι : ∀ a b, ι a = ι b → a = b) (qt : syR ι e h0 t h) {x0 : Nat} {a0 : Nat} {x1 : Int32} {c1 : Nat} {x2 : Int32} {c2 : Nat} {x3 : Int32} {c3 : Nat} {x4 : Int32} {c4 : Nat} {x5 : Int32} {c5 : Nat} {x6 : Int32} {c6 : Nat} (q0 : yA ι x0 a0) (q1 : yI x1 c1) (q2 : yI x2 c2) (q3 : yI x3 c3) (q4 : yI x4 c4) (q5 : yI x5 c5) (q6 : yI x6 c6) : Sm (fun b a => yJ a b) (sX12_along e t a0 c1 c2 c3 c4 c5 c6) (gX12_along h x0 x1 x2 x3 x4 x5 x6) := by
  unfold sX12_along gX12_along
  refine sm_jn (fun (k' : Nat → Option (Nat)) (k : Int64 → Option (Int64)) => ∀ (c21 : Nat) (x21 : Int64), yJ x21 c21 → Sm (fun b a => yJ a b) (k' c21) (k x21)) ?_ ?_
  · intro c21 x21 q21
    unfold sX12_along_J4 gX12_along_J4
    refine sm_jn (fun (k' : Nat → Option (Nat)) (k : Int64 → Option (Int64)) => ∀ (c22 : Nat) (x22 : Int64), yJ x22 c22 → Sm (fun b a => yJ a b) (k' c22) (k x22)) ?_ ?_
    · intro c22 x22 q22
      unfold sX12_along_J3 gX12_along_J3
      refine sm_jn (fun (k' : Nat → Nat → Option (Nat)) (k : Int64 → Int64 → Option (Int64)) => ∀ (c23 : Nat) (x23 : Int64) (c24 : Nat) (x24 : Int64), yJ x23 c23 → yJ x24 c24 → Sm (fun b a => yJ a b) (k' c23 c24) (k x23 x24)) ?_ ?_
      · intro c23 x23 c24 x24 q23 q24
        unfold sX12_along_J1 gX12_along_J1
        refine sm_if (sy_eq32 q6 (yI_lit 0)) ?_ ?_
        · exact sm_some q23
        · exact sm_some q24
      intro k25 gk25 hk25
      refine sm_lp (fun (k' : Nat → Nat → Nat → Option (Nat)) (k : Int64 → Int64 → Int32 → Option (Int64)) => ∀ (c26 : Nat) (x26 : Int64) (c27 : Nat) (x27 : Int64) (c28 : Nat) (x28 : Int32), yJ x26 c26 → yJ x27 c27 → yI x28 c28 → Sm (fun b a => yJ a b) (k' c26 c27 c28) (k x26 x27 x28)) ?_ ?_ zFU _ _ _ _ _ _ q21 q22 (yI_lit 0)
      · exact fun _ _ _ _ _ _ _ _ _ => sm_none
      intro k29 gk29 hk29
      intro c26 x26 c27 x27 c28 x28 q26 q27 q28
      unfold sX12_along_L2 gX12_along_L2
      refine sm_if (sy_le32 q2 q28) ?_ ?_
      · exact hk25 _ _ _ _ q26 q27
      · refine sm_lti (yI_and (yI_shr q3 q28) (yI_lit 1)) (fun _ c30 q30 => ?_)
        refine sm_lti (yI_and (yI_shr q4 q28) (yI_lit 1)) (fun _ c31 q31 => ?_)
        refine sm_bi (sX12_crossing_ok hι qt q0 q1 (yI_lit 0) q30 (yI_lit 0) q31) (fun _ c32 q32 => ?_)
        refine sm_bi (sX12_crossing_ok hι qt q0 q1 (yI_lit 1) q30 (yI_lit 0) q31) (fun _ c33 q33 => ?_)
        refine sm_ltj (yJ_add (yJ_mul q26 (yJ_i2l q32)) (yJ_mul q27 (yJ_i2l q33))) (fun _ c34 q34 => ?_)
        refine sm_bi (sX12_crossing_ok hι qt q0 q1 (yI_lit 0) q30 (yI_lit 1) q31) (fun _ c35 q35 => ?_)
        refine sm_bi (sX12_crossing_ok hι qt q0 q1 (yI_lit 1) q30 (yI_lit 1) q31) (fun _ c36 q36 => ?_)
        refine sm_ltj (yJ_add (yJ_mul q26 (yJ_i2l q35)) (yJ_mul q27 (yJ_i2l q36))) (fun _ c37 q37 => ?_)
        refine sm_f ?_
        exact hk29 _ _ _ _ _ _ q34 q37 (yI_add q28 (yI_lit 1))
    intro k39 gk39 hk39
    refine sm_if (sy_eq32 q5 (yI_lit 1)) ?_ ?_
    · exact hk39 _ _ (yJ_lit 1)
    · exact hk39 _ _ (yJ_lit 0)
  intro k40 gk40 hk40
  refine sm_if (sy_eq32 q5 (yI_lit 0)) ?_ ?_
  · exact hk40 _ _ (yJ_lit 1)
  · exact hk40 _ _ (yJ_lit 0)
noncomputable def sX12_rowOf (e : Se) (t : Sy) (a0 : Nat) (c1 : Nat) (c2 : Nat) (c3 : Nat) (c4 : Nat) : Option (Nat) :=
  sbj (sX12_along e t a0 c1 c2 c3 c4 0 0) (fun c21 => sbj (sX12_along e t a0 c1 c2 c3 c4 1 1) (fun c22 => some (Nat.add c21 c22)))
theorem sX12_rowOf_ok {ι : Nat → Nat} {e : Se} {h0 h : Zh} {t : Sy} (hι : ∀ a b, ι a = ι b → a = b) (qt : syR ι e h0 t h) {x0 : Nat} {a0 : Nat} {x1 : Int32} {c1 : Nat} {x2 : Int32} {c2 : Nat} {x3 : Int32} {c3 : Nat} {x4 : Int32} {c4 : Nat} (q0 : yA ι x0 a0) (q1 : yI x1 c1) (q2 : yI x2 c2) (q3 : yI x3 c3) (q4 : yI x4 c4) : Sm (fun b a => yJ a b) (sX12_rowOf e t a0 c1 c2 c3 c4) (gX12_rowOf h x0 x1 x2 x3 x4) := by
  unfold sX12_rowOf gX12_rowOf
  refine sm_bj (sX12_along_ok hι qt q0 q1 q2 q3 q4 (yI_lit 0) (yI_lit 0)) (fun _ c21 q21 => ?_)
  refine sm_bj (sX12_along_ok hι qt q0 q1 q2 q3 q4 (yI_lit 1) (yI_lit 1)) (fun _ c22 q22 => ?_)
  exact sm_some (yJ_add q21 q22)
noncomputable def sX12_layRows_J1 (c22 : Nat) (k24 : Nat → Sy → Option (Sy)) : Sy → Option (Sy) :=
  fun (t25 : Sy) => syf (Nat.add c22 1) (fun c26 => k24 c26 t25)
noncomputable def sX12_layRows_J2 (c28 : Nat) (k30 : Nat → Sy → Option (Sy)) : Sy → Option (Sy) :=
  fun (t31 : Sy) => syf (Nat.add c28 1) (fun c32 => k30 c32 t31)
noncomputable def sX12_layRows_L3 (e : Se) (a0 : Nat) (c1 : Nat) (c2 : Nat) (c3 : Nat) (c21 : Nat) (c22 : Nat) (k27 : Sy → Option (Sy)) : (Nat → Sy → Option (Sy)) → Nat → Sy → Option (Sy) :=
  fun (k30 : Nat → Sy → Option (Sy)) (c28 : Nat) (t29 : Sy) => syc (Nat.ble (syo32 c21) (syo32 c28)) (k27 t29)
  (zjn (sX12_layRows_J2 c28 k30) (fun (k33 : Sy → Option (Sy)) =>
  syc (Nat.beq (Nat.mod c3 4294967296) (Nat.mod 0 4294967296)) (srR t29 a0 25 (fun c34 => sbj (sX12_rowOf e t29 a0 c1 c2 c22 c28) (fun c35 => syr c34 (fun a36 => syi e a36 (Nat.add (Nat.mul 64 c22) c28) (fun p37 => swJ e t29 a36 p37 c35 (fun t38 => k33 t38))))))
  (srR t29 a0 24 (fun c39 => sbj (sX12_rowOf e t29 a0 c1 c2 c22 c28) (fun c40 => syr c39 (fun a41 => syi e a41 (Nat.add (Nat.mul 64 c22) c28) (fun p42 => swJ e t29 a41 p42 c40 (fun t43 => k33 t43))))))))
noncomputable def sX12_layRows_L4 (e : Se) (a0 : Nat) (c1 : Nat) (c2 : Nat) (c3 : Nat) (c21 : Nat) : (Nat → Sy → Option (Sy)) → Nat → Sy → Option (Sy) :=
  fun (k24 : Nat → Sy → Option (Sy)) (c22 : Nat) (t23 : Sy) => syc (Nat.ble (syo32 c21) (syo32 c22)) (some t23)
  (zjn (sX12_layRows_J1 c22 k24) (fun (k27 : Sy → Option (Sy)) =>
  syl (fun _ _ => (none : Option (Sy))) (sX12_layRows_L3 e a0 c1 c2 c3 c21 c22 k27) zFU 0 t23))
noncomputable def sX12_layRows (e : Se) (t : Sy) (a0 : Nat) (c1 : Nat) (c2 : Nat) (c3 : Nat) : Option (Sy) :=
  syf (Nat.shiftLeft 1 (Nat.mod c2 32)) (fun c21 => syl (fun _ _ => (none : Option (Sy))) (sX12_layRows_L4 e a0 c1 c2 c3 c21) zFU 0 t)
theorem sX12_layRows_ok {ι : Nat → Nat} {e : Se} {h0 h : Zh} {t : Sy} (hι : ∀ a b, ι a = ι b → a = b) (qt : syR ι e h0 t h) {x0 : Nat} {a0 : Nat} {x1 : Int32} {c1 : Nat} {x2 : Int32} {c2 : Nat} {x3 : Int32} {c3 : Nat} (q0 : yA ι x0 a0) (q1 : yI x1 c1) (q2 : yI x2 c2) (q3 : yI x3 c3) : Sm (fun b a => syR ι e h0 b a) (sX12_layRows e t a0 c1 c2 c3) (gX12_layRows h x0 x1 x2 x3) := by
  unfold sX12_layRows gX12_layRows
  refine sm_lti (yI_shl (yI_lit 1) q2) (fun _ c21 q21 => ?_)
  refine sm_lp (fun (k' : Nat → Sy → Option (Sy)) (k : Int32 → Zh → Option (Zh)) => ∀ (c22 : Nat) (x22 : Int32) (t23 : Sy) (h23 : Zh), yI x22 c22 → syR ι e h0 t23 h23 → Sm (fun b a => syR ι e h0 b a) (k' c22 t23) (k x22 h23)) ?_ ?_ zFU _ _ _ _ (yI_lit 0) qt
  · exact fun _ _ _ _ _ _ => sm_none
  intro k24 gk24 hk24
  intro c22 x22 t23 h23 q22 qt23
  unfold sX12_layRows_L4 gX12_layRows_L4
  refine sm_if (sy_le32 q21 q22) ?_ ?_
  · exact sm_some qt23
  · refine sm_jn (fun (k' : Sy → Option (Sy)) (k : Zh → Option (Zh)) => ∀ (t25 : Sy) (h25 : Zh), syR ι e h0 t25 h25 → Sm (fun b a => syR ι e h0 b a) (k' t25) (k h25)) ?_ ?_
    · intro t25 h25 qt25
      unfold sX12_layRows_J1 gX12_layRows_J1
      refine sm_f ?_
      exact hk24 _ _ _ _ (yI_add q22 (yI_lit 1)) qt25
    intro k27 gk27 hk27
    refine sm_lp (fun (k' : Nat → Sy → Option (Sy)) (k : Int32 → Zh → Option (Zh)) => ∀ (c28 : Nat) (x28 : Int32) (t29 : Sy) (h29 : Zh), yI x28 c28 → syR ι e h0 t29 h29 → Sm (fun b a => syR ι e h0 b a) (k' c28 t29) (k x28 h29)) ?_ ?_ zFU _ _ _ _ (yI_lit 0) qt23
    · exact fun _ _ _ _ _ _ => sm_none
    intro k30 gk30 hk30
    intro c28 x28 t29 h29 q28 qt29
    unfold sX12_layRows_L3 gX12_layRows_L3
    refine sm_if (sy_le32 q21 q28) ?_ ?_
    · exact hk27 _ _ qt29
    · refine sm_jn (fun (k' : Sy → Option (Sy)) (k : Zh → Option (Zh)) => ∀ (t31 : Sy) (h31 : Zh), syR ι e h0 t31 h31 → Sm (fun b a => syR ι e h0 b a) (k' t31) (k h31)) ?_ ?_
      · intro t31 h31 qt31
        unfold sX12_layRows_J2 gX12_layRows_J2
        refine sm_f ?_
        exact hk30 _ _ _ _ (yI_add q28 (yI_lit 1)) qt31
      intro k33 gk33 hk33
      refine sm_if (sy_eq32 q3 (yI_lit 0)) ?_ ?_
      · refine sm_rR qt29 q0 rfl (fun _ c34 q34 => ?_)
        refine sm_bj (sX12_rowOf_ok hι qt29 q0 q1 q2 q22 q28) (fun _ c35 q35 => ?_)
        refine sm_dr q34 (fun _ a36 q36 => ?_)
        refine sm_in qt29 q36 (yI_add (yI_mul (yI_lit 64) q22) q28) (fun p37 q37 => ?_)
        refine sm_wJ hι qt29 q36 q37 q35 (fun _ t38 qt38 => ?_)
        exact hk33 _ _ qt38
      · refine sm_rR qt29 q0 rfl (fun _ c39 q39 => ?_)
        refine sm_bj (sX12_rowOf_ok hι qt29 q0 q1 q2 q22 q28) (fun _ c40 q40 => ?_)
        refine sm_dr q39 (fun _ a41 q41 => ?_)
        refine sm_in qt29 q41 (yI_add (yI_mul (yI_lit 64) q22) q28) (fun p42 q42 => ?_)
        refine sm_wJ hι qt29 q41 q42 q40 (fun _ t43 qt43 => ?_)
        exact hk33 _ _ qt43
noncomputable def sX12_unlike_J1 (c28 : Nat) (k29 : Nat → Nat → Option (Nat × Sy)) : Nat → Option (Nat × Sy) :=
  fun (c30 : Nat) => syf (Nat.add c28 1) (fun c31 => k29 c30 c31)
noncomputable def sX12_unlike_J2 (c33 : Nat) (c34 : Nat) (k35 : Nat → Nat → Option (Nat × Sy)) : Nat → Option (Nat × Sy) :=
  fun (c37 : Nat) => syf (Nat.add c33 c37) (fun c38 => syf (Nat.add c34 1) (fun c39 => k35 c38 c39))
noncomputable def sX12_unlike_J3 (c33 : Nat) (c34 : Nat) (k35 : Nat → Nat → Option (Nat × Sy)) : Nat → Option (Nat × Sy) :=
  fun (c36 : Nat) => zjn (sX12_unlike_J2 c33 c34 k35) (fun (k40 : Nat → Option (Nat × Sy)) =>
  syc (Nat.beq (Nat.mod (sycmp c36 0) 4294967296) (Nat.mod 0 4294967296)) (k40 0)
  (k40 1))
noncomputable def sX12_unlike_L4 (e : Se) (a0 : Nat) (t25 : Sy) (c26 : Nat) (c28 : Nat) (c34 : Nat) (k41 : Nat → Option (Nat × Sy)) : (Nat → Nat → Option (Nat × Sy)) → Nat → Nat → Option (Nat × Sy) :=
  fun (k44 : Nat → Nat → Option (Nat × Sy)) (c42 : Nat) (c43 : Nat) => syc (Nat.ble (syo32 c26) (syo32 c43)) (k41 c42)
  (srR t25 a0 24 (fun c45 => syr c45 (fun a46 => syi e a46 (Nat.add (Nat.mul 64 c28) c43) (fun p47 => srJ t25 a46 p47 (fun c48 => srR t25 a0 25 (fun c49 => syr c49 (fun a50 => syi e a50 (Nat.add (Nat.mul 64 c43) c34) (fun p51 => srJ t25 a50 p51 (fun c52 => srR t25 a0 25 (fun c53 => syr c53 (fun a54 => syi e a54 (Nat.add (Nat.mul 64 c28) c43) (fun p55 => srJ t25 a54 p55 (fun c56 => srR t25 a0 24 (fun c57 => syr c57 (fun a58 => syi e a58 (Nat.add (Nat.mul 64 c43) c34) (fun p59 => srJ t25 a58 p59 (fun c60 => syf (Nat.add c42 (Nat.add (Nat.mul c48 c52) (syn64 (Nat.mul c56 c60)))) (fun c61 => syf (Nat.add c43 1) (fun c62 => k44 c61 c62)))))))))))))))))))
noncomputable def sX12_unlike_L5 (e : Se) (a0 : Nat) (t25 : Sy) (c26 : Nat) (c28 : Nat) (k32 : Nat → Option (Nat × Sy)) : (Nat → Nat → Option (Nat × Sy)) → Nat → Nat → Option (Nat × Sy) :=
  fun (k35 : Nat → Nat → Option (Nat × Sy)) (c33 : Nat) (c34 : Nat) => syc (Nat.ble (syo32 c26) (syo32 c34)) (k32 c33)
  (zjn (sX12_unlike_J3 c33 c34 k35) (fun (k41 : Nat → Option (Nat × Sy)) =>
  syl (fun _ _ => (none : Option (Nat × Sy))) (sX12_unlike_L4 e a0 t25 c26 c28 c34 k41) zFU 0 0))
noncomputable def sX12_unlike_L6 (e : Se) (a0 : Nat) (t25 : Sy) (c26 : Nat) : (Nat → Nat → Option (Nat × Sy)) → Nat → Nat → Option (Nat × Sy) :=
  fun (k29 : Nat → Nat → Option (Nat × Sy)) (c27 : Nat) (c28 : Nat) => syc (Nat.ble (syo32 c26) (syo32 c28)) (some (c27, t25))
  (zjn (sX12_unlike_J1 c28 k29) (fun (k32 : Nat → Option (Nat × Sy)) =>
  syl (fun _ _ => (none : Option (Nat × Sy))) (sX12_unlike_L5 e a0 t25 c26 c28 k32) zFU c27 0))
noncomputable def sX12_unlike (e : Se) (t : Sy) (a0 : Nat) (c1 : Nat) (c2 : Nat) (c3 : Nat) : Option (Nat × Sy) :=
  sbi (sX12_noWeights e t a0 c1) (fun c21 => syc (Nat.beq (Nat.mod c21 4294967296) (Nat.mod 0 4294967296)) (sbi (sX12_noWeights e t a0 c2) (fun c22 => syc (Nat.beq (Nat.mod c22 4294967296) (Nat.mod 0 4294967296)) (sbi (sX12_in (sy2l c3) 2 6) (fun c23 => syc (Nat.beq (Nat.mod c23 4294967296) (Nat.mod 0 4294967296)) (some (4294967294, t))
  (sbV (sX12_layRows e t a0 c1 c3 1) (fun t24 => sbV (sX12_layRows e t24 a0 c2 c3 0) (fun t25 => syf (Nat.shiftLeft 1 (Nat.mod c3 32)) (fun c26 => syl (fun _ _ => (none : Option (Nat × Sy))) (sX12_unlike_L6 e a0 t25 c26) zFU 0 0))))))
  (some (4294967295, t))))
  (some (4294967295, t)))
theorem sX12_unlike_ok {ι : Nat → Nat} {e : Se} {h0 h : Zh} {t : Sy} (hι : ∀ a b, ι a = ι b → a = b) (qt : syR ι e h0 t h) {x0 : Nat} {a0 : Nat} {x1 : Int32} {c1 : Nat} {x2 : Int32} {c2 : Nat} {x3 : Int32} {c3 : Nat} (q0 : yA ι x0 a0) (q1 : yI x1 c1) (q2 : yI x2 c2) (q3 : yI x3 c3) : Sm (fun b a => yI a.1 b.1 ∧ syR ι e h0 b.2 a.2) (sX12_unlike e t a0 c1 c2 c3) (gX12_unlike h x0 x1 x2 x3) := by
  unfold sX12_unlike gX12_unlike
  refine sm_bi (sX12_noWeights_ok hι qt q0 q1) (fun _ c21 q21 => ?_)
  refine sm_if (sy_eq32 q21 (yI_lit 0)) ?_ ?_
  · refine sm_bi (sX12_noWeights_ok hι qt q0 q2) (fun _ c22 q22 => ?_)
    refine sm_if (sy_eq32 q22 (yI_lit 0)) ?_ ?_
    · refine sm_bi (sX12_in_ok (yJ_i2l q3) (yJ_lit 2) (yJ_lit 6)) (fun _ c23 q23 => ?_)
      refine sm_if (sy_eq32 q23 (yI_lit 0)) ?_ ?_
      · exact sm_some ⟨(show yI (-2) 4294967294 from by unfold yI; decide), qt⟩
      · refine sm_bV (sX12_layRows_ok hι qt q0 q1 q3 (yI_lit 1)) (fun _ t24 qt24 => ?_)
        refine sm_bV (sX12_layRows_ok hι qt24 q0 q2 q3 (yI_lit 0)) (fun _ t25 qt25 => ?_)
        refine sm_lti (yI_shl (yI_lit 1) q3) (fun _ c26 q26 => ?_)
        refine sm_lp (fun (k' : Nat → Nat → Option (Nat × Sy)) (k : Int32 → Int32 → Option (Int32 × Zh)) => ∀ (c27 : Nat) (x27 : Int32) (c28 : Nat) (x28 : Int32), yI x27 c27 → yI x28 c28 → Sm (fun b a => yI a.1 b.1 ∧ syR ι e h0 b.2 a.2) (k' c27 c28) (k x27 x28)) ?_ ?_ zFU _ _ _ _ (yI_lit 0) (yI_lit 0)
        · exact fun _ _ _ _ _ _ => sm_none
        intro k29 gk29 hk29
        intro c27 x27 c28 x28 q27 q28
        unfold sX12_unlike_L6 gX12_unlike_L6
        refine sm_if (sy_le32 q26 q28) ?_ ?_
        · exact sm_some ⟨q27, qt25⟩
        · refine sm_jn (fun (k' : Nat → Option (Nat × Sy)) (k : Int32 → Option (Int32 × Zh)) => ∀ (c30 : Nat) (x30 : Int32), yI x30 c30 → Sm (fun b a => yI a.1 b.1 ∧ syR ι e h0 b.2 a.2) (k' c30) (k x30)) ?_ ?_
          · intro c30 x30 q30
            unfold sX12_unlike_J1 gX12_unlike_J1
            refine sm_f ?_
            exact hk29 _ _ _ _ q30 (yI_add q28 (yI_lit 1))
          intro k32 gk32 hk32
          refine sm_lp (fun (k' : Nat → Nat → Option (Nat × Sy)) (k : Int32 → Int32 → Option (Int32 × Zh)) => ∀ (c33 : Nat) (x33 : Int32) (c34 : Nat) (x34 : Int32), yI x33 c33 → yI x34 c34 → Sm (fun b a => yI a.1 b.1 ∧ syR ι e h0 b.2 a.2) (k' c33 c34) (k x33 x34)) ?_ ?_ zFU _ _ _ _ q27 (yI_lit 0)
          · exact fun _ _ _ _ _ _ => sm_none
          intro k35 gk35 hk35
          intro c33 x33 c34 x34 q33 q34
          unfold sX12_unlike_L5 gX12_unlike_L5
          refine sm_if (sy_le32 q26 q34) ?_ ?_
          · exact hk32 _ _ q33
          · refine sm_jn (fun (k' : Nat → Option (Nat × Sy)) (k : Int64 → Option (Int32 × Zh)) => ∀ (c36 : Nat) (x36 : Int64), yJ x36 c36 → Sm (fun b a => yI a.1 b.1 ∧ syR ι e h0 b.2 a.2) (k' c36) (k x36)) ?_ ?_
            · intro c36 x36 q36
              unfold sX12_unlike_J3 gX12_unlike_J3
              refine sm_jn (fun (k' : Nat → Option (Nat × Sy)) (k : Int32 → Option (Int32 × Zh)) => ∀ (c37 : Nat) (x37 : Int32), yI x37 c37 → Sm (fun b a => yI a.1 b.1 ∧ syR ι e h0 b.2 a.2) (k' c37) (k x37)) ?_ ?_
              · intro c37 x37 q37
                unfold sX12_unlike_J2 gX12_unlike_J2
                refine sm_lti (yI_add q33 q37) (fun _ c38 q38 => ?_)
                refine sm_f ?_
                exact hk35 _ _ _ _ q38 (yI_add q34 (yI_lit 1))
              intro k40 gk40 hk40
              refine sm_if (sy_eq32 (yI_cmp q36 (yJ_lit 0)) (yI_lit 0)) ?_ ?_
              · exact hk40 _ _ (yI_lit 0)
              · exact hk40 _ _ (yI_lit 1)
            intro k41 gk41 hk41
            refine sm_lp (fun (k' : Nat → Nat → Option (Nat × Sy)) (k : Int64 → Int32 → Option (Int32 × Zh)) => ∀ (c42 : Nat) (x42 : Int64) (c43 : Nat) (x43 : Int32), yJ x42 c42 → yI x43 c43 → Sm (fun b a => yI a.1 b.1 ∧ syR ι e h0 b.2 a.2) (k' c42 c43) (k x42 x43)) ?_ ?_ zFU _ _ _ _ (yJ_lit 0) (yI_lit 0)
            · exact fun _ _ _ _ _ _ => sm_none
            intro k44 gk44 hk44
            intro c42 x42 c43 x43 q42 q43
            unfold sX12_unlike_L4 gX12_unlike_L4
            refine sm_if (sy_le32 q26 q43) ?_ ?_
            · exact hk41 _ _ q42
            · refine sm_rR qt25 q0 rfl (fun _ c45 q45 => ?_)
              refine sm_dr q45 (fun _ a46 q46 => ?_)
              refine sm_in qt25 q46 (yI_add (yI_mul (yI_lit 64) q28) q43) (fun p47 q47 => ?_)
              refine sm_rJ qt25 q46 q47 (fun c48 q48 => ?_)
              refine sm_rR qt25 q0 rfl (fun _ c49 q49 => ?_)
              refine sm_dr q49 (fun _ a50 q50 => ?_)
              refine sm_in qt25 q50 (yI_add (yI_mul (yI_lit 64) q43) q34) (fun p51 q51 => ?_)
              refine sm_rJ qt25 q50 q51 (fun c52 q52 => ?_)
              refine sm_rR qt25 q0 rfl (fun _ c53 q53 => ?_)
              refine sm_dr q53 (fun _ a54 q54 => ?_)
              refine sm_in qt25 q54 (yI_add (yI_mul (yI_lit 64) q28) q43) (fun p55 q55 => ?_)
              refine sm_rJ qt25 q54 q55 (fun c56 q56 => ?_)
              refine sm_rR qt25 q0 rfl (fun _ c57 q57 => ?_)
              refine sm_dr q57 (fun _ a58 q58 => ?_)
              refine sm_in qt25 q58 (yI_add (yI_mul (yI_lit 64) q43) q34) (fun p59 q59 => ?_)
              refine sm_rJ qt25 q58 q59 (fun c60 q60 => ?_)
              refine sm_ltj (yJ_add q42 (yJ_sub (yJ_mul q48 q52) (yJ_mul q56 q60))) (fun _ c61 q61 => ?_)
              refine sm_f ?_
              exact hk44 _ _ _ _ q61 (yI_add q43 (yI_lit 1))
    · exact sm_some ⟨(show yI (-1) 4294967295 from by unfold yI; decide), qt⟩
  · exact sm_some ⟨(show yI (-1) 4294967295 from by unfold yI; decide), qt⟩
noncomputable def sX12_restBy (c0 : Nat) : Option (Nat) :=
  syc (Nat.beq (Nat.mod 1000000007 18446744073709551616) (Nat.mod 0 18446744073709551616)) none (syc (Nat.beq (Nat.mod 1000000007 18446744073709551616) (Nat.mod 0 18446744073709551616)) none (some (Nat.add (Nat.add (Nat.add c0 (syn64 (Nat.mul (syd 18446744073709551616 (Nat.mod c0 18446744073709551616) (Nat.mod 1000000007 18446744073709551616)) 1000000007))) 1000000007) (syn64 (Nat.mul (syd 18446744073709551616 (Nat.mod (Nat.add (Nat.add c0 (syn64 (Nat.mul (syd 18446744073709551616 (Nat.mod c0 18446744073709551616) (Nat.mod 1000000007 18446744073709551616)) 1000000007))) 1000000007) 18446744073709551616) (Nat.mod 1000000007 18446744073709551616)) 1000000007)))))
theorem sX12_restBy_ok {x0 : Int64} {c0 : Nat} (q0 : yJ x0 c0) : Sm (fun b a => yJ a b) (sX12_restBy c0) (gX12_restBy x0) := by
  unfold sX12_restBy gX12_restBy
  refine sm_if (sy_eq64 (yJ_lit 1000000007) (yJ_lit 0)) sm_none ?_
  refine sm_if (sy_eq64 (yJ_lit 1000000007) (yJ_lit 0)) sm_none ?_
  exact sm_some (yJ_sub (yJ_add (yJ_sub q0 (yJ_mul (yJ_div q0 (yJ_lit 1000000007)) (yJ_lit 1000000007))) (yJ_lit 1000000007)) (yJ_mul (yJ_div (yJ_add (yJ_sub q0 (yJ_mul (yJ_div q0 (yJ_lit 1000000007)) (yJ_lit 1000000007))) (yJ_lit 1000000007)) (yJ_lit 1000000007)) (yJ_lit 1000000007)))
noncomputable def sX12_ice_J1 : Nat → Sy → Option (Nat × Sy) :=
  fun (c26 : Nat) (t27 : Sy) => some (c26, t27)
noncomputable def sX12_ice_J2 (e : Se) (a0 : Nat) (c29 : Nat) (c30 : Nat) (k32 : Nat → Nat → Sy → Option (Nat × Sy)) : Sy → Option (Nat × Sy) :=
  fun (t34 : Sy) => srR t34 a0 16 (fun c35 => syr c35 (fun a36 => syi e a36 c30 (fun p37 => srJ t34 a36 p37 (fun c38 => sbj (sX12_restBy (Nat.add c29 c38)) (fun c39 => syf (Nat.add c30 1) (fun c40 => k32 c39 c40 t34))))))
noncomputable def sX12_ice_J3 (c42 : Nat) (k44 : Nat → Sy → Option (Nat × Sy)) : Sy → Option (Nat × Sy) :=
  fun (t46 : Sy) => syf (Nat.add c42 1) (fun c47 => k44 c47 t46)
noncomputable def sX12_ice_L4 (e : Se) (a0 : Nat) (c25 : Nat) (k48 : Sy → Option (Nat × Sy)) : (Nat → Sy → Option (Nat × Sy)) → Nat → Sy → Option (Nat × Sy) :=
  fun (k51 : Nat → Sy → Option (Nat × Sy)) (c49 : Nat) (t50 : Sy) => syc (Nat.ble (syo32 c25) (syo32 c49)) (k48 t50)
  (srR t50 a0 16 (fun c52 => srR t50 a0 17 (fun c53 => syr c53 (fun a54 => syi e a54 c49 (fun p55 => srJ t50 a54 p55 (fun c56 => syr c52 (fun a57 => syi e a57 c49 (fun p58 => swJ e t50 a57 p58 c56 (fun t59 => syf (Nat.add c49 1) (fun c60 => k51 c60 t59))))))))))
noncomputable def sX12_ice_J5 (e : Se) (a0 : Nat) (c25 : Nat) (c42 : Nat) (k44 : Nat → Sy → Option (Nat × Sy)) : Sy → Option (Nat × Sy) :=
  fun (t45 : Sy) => zjn (sX12_ice_J3 c42 k44) (fun (k48 : Sy → Option (Nat × Sy)) =>
  syl (fun _ _ => (none : Option (Nat × Sy))) (sX12_ice_L4 e a0 c25 k48) zFU 0 t45)
noncomputable def sX12_ice_J6 (c62 : Nat) (k64 : Nat → Sy → Option (Nat × Sy)) : Sy → Option (Nat × Sy) :=
  fun (t69 : Sy) => syf (Nat.add c62 1) (fun c70 => k64 c70 t69)
noncomputable def sX12_ice_L7 (e : Se) (a0 : Nat) (c25 : Nat) (c62 : Nat) (k71 : Sy → Option (Nat × Sy)) : (Nat → Sy → Option (Nat × Sy)) → Nat → Sy → Option (Nat × Sy) :=
  fun (k74 : Nat → Sy → Option (Nat × Sy)) (c72 : Nat) (t73 : Sy) => syc (Nat.ble (syo32 c25) (syo32 c72)) (k71 t73)
  (srR t73 a0 17 (fun c75 => srR t73 a0 17 (fun c76 => syr c76 (fun a77 => syi e a77 c62 (fun p78 => srJ t73 a77 p78 (fun c79 => srR t73 a0 16 (fun c80 => syr c80 (fun a81 => syi e a81 c72 (fun p82 => srJ t73 a81 p82 (fun c83 => srR t73 a0 24 (fun c84 => syr c84 (fun a85 => syi e a85 (Nat.add (Nat.mul 64 c72) c62) (fun p86 => srJ t73 a85 p86 (fun c87 => sbj (sX12_restBy c87) (fun c88 => sbj (sX12_restBy (Nat.add c79 (Nat.mul c83 c88))) (fun c89 => syr c75 (fun a90 => syi e a90 c62 (fun p91 => swJ e t73 a90 p91 c89 (fun t92 => syf (Nat.add c72 1) (fun c93 => k74 c93 t92))))))))))))))))))))
noncomputable def sX12_ice_L8 (e : Se) (a0 : Nat) (c25 : Nat) (k61 : Sy → Option (Nat × Sy)) : (Nat → Sy → Option (Nat × Sy)) → Nat → Sy → Option (Nat × Sy) :=
  fun (k64 : Nat → Sy → Option (Nat × Sy)) (c62 : Nat) (t63 : Sy) => syc (Nat.ble (syo32 c25) (syo32 c62)) (k61 t63)
  (srR t63 a0 17 (fun c65 => syr c65 (fun a66 => syi e a66 c62 (fun p67 => swJ e t63 a66 p67 0 (fun t68 => zjn (sX12_ice_J6 c62 k64) (fun (k71 : Sy → Option (Nat × Sy)) =>
  syl (fun _ _ => (none : Option (Nat × Sy))) (sX12_ice_L7 e a0 c25 c62 k71) zFU 0 t68))))))
noncomputable def sX12_ice_L9 (e : Se) (a0 : Nat) (c3 : Nat) (c25 : Nat) (k41 : Sy → Option (Nat × Sy)) : (Nat → Sy → Option (Nat × Sy)) → Nat → Sy → Option (Nat × Sy) :=
  fun (k44 : Nat → Sy → Option (Nat × Sy)) (c42 : Nat) (t43 : Sy) => syc (Nat.ble (syo32 c3) (syo32 c42)) (k41 t43)
  (zjn (sX12_ice_J5 e a0 c25 c42 k44) (fun (k61 : Sy → Option (Nat × Sy)) =>
  syl (fun _ _ => (none : Option (Nat × Sy))) (sX12_ice_L8 e a0 c25 k61) zFU 0 t43))
noncomputable def sX12_ice_J10 (e : Se) (a0 : Nat) (c3 : Nat) (c25 : Nat) (c29 : Nat) (c30 : Nat) (k32 : Nat → Nat → Sy → Option (Nat × Sy)) : Sy → Option (Nat × Sy) :=
  fun (t33 : Sy) => zjn (sX12_ice_J2 e a0 c29 c30 k32) (fun (k41 : Sy → Option (Nat × Sy)) =>
  syl (fun _ _ => (none : Option (Nat × Sy))) (sX12_ice_L9 e a0 c3 c25 k41) zFU 0 t33)
noncomputable def sX12_ice_J11 (e : Se) (c95 : Nat) (t96 : Sy) (k97 : Nat → Sy → Option (Nat × Sy)) (c98 : Nat) : Nat → Option (Nat × Sy) :=
  fun (c99 : Nat) => syr c98 (fun a100 => syi e a100 c95 (fun p101 => swJ e t96 a100 p101 c99 (fun t102 => syf (Nat.add c95 1) (fun c103 => k97 c103 t102))))
noncomputable def sX12_ice_L12 (e : Se) (a0 : Nat) (c25 : Nat) (c30 : Nat) (k94 : Sy → Option (Nat × Sy)) : (Nat → Sy → Option (Nat × Sy)) → Nat → Sy → Option (Nat × Sy) :=
  fun (k97 : Nat → Sy → Option (Nat × Sy)) (c95 : Nat) (t96 : Sy) => syc (Nat.ble (syo32 c25) (syo32 c95)) (k94 t96)
  (srR t96 a0 16 (fun c98 => zjn (sX12_ice_J11 e c95 t96 k97 c98) (fun (k104 : Nat → Option (Nat × Sy)) =>
  syc (Nat.beq (Nat.mod c95 4294967296) (Nat.mod c30 4294967296)) (k104 1)
  (k104 0))))
noncomputable def sX12_ice_L13 (e : Se) (a0 : Nat) (c3 : Nat) (c25 : Nat) (k28 : Nat → Sy → Option (Nat × Sy)) : (Nat → Nat → Sy → Option (Nat × Sy)) → Nat → Nat → Sy → Option (Nat × Sy) :=
  fun (k32 : Nat → Nat → Sy → Option (Nat × Sy)) (c29 : Nat) (c30 : Nat) (t31 : Sy) => syc (Nat.ble (syo32 c25) (syo32 c30)) (k28 c29 t31)
  (zjn (sX12_ice_J10 e a0 c3 c25 c29 c30 k32) (fun (k94 : Sy → Option (Nat × Sy)) =>
  syl (fun _ _ => (none : Option (Nat × Sy))) (sX12_ice_L12 e a0 c25 c30 k94) zFU 0 t31))
noncomputable def sX12_ice (e : Se) (t : Sy) (a0 : Nat) (c1 : Nat) (c2 : Nat) (c3 : Nat) : Option (Nat × Sy) :=
  sbi (sX12_noWeights e t a0 c1) (fun c21 => syc (Nat.beq (Nat.mod c21 4294967296) (Nat.mod 0 4294967296)) (sbi (sX12_in (sy2l c2) 2 6) (fun c22 => syc (Nat.beq (Nat.mod c22 4294967296) (Nat.mod 0 4294967296)) (some (4294967294, t))
  (sbi (sX12_in (sy2l c3) 1 8) (fun c23 => syc (Nat.beq (Nat.mod c23 4294967296) (Nat.mod 0 4294967296)) (some (4294967294, t))
  (sbV (sX12_layRows e t a0 c1 c2 1) (fun t24 => syf (Nat.shiftLeft 1 (Nat.mod c2 32)) (fun c25 => zjn sX12_ice_J1 (fun (k28 : Nat → Sy → Option (Nat × Sy)) =>
  syl (fun _ _ _ => (none : Option (Nat × Sy))) (sX12_ice_L13 e a0 c3 c25 k28) zFU 0 0 t24))))))))
  (some (4294967295, t)))
theorem sX12_ice_ok {ι : Nat → Nat} {e : Se} {h0 h : Zh} {t : Sy} (hι : ∀ a b, ι a = ι b → a = b) (qt : syR ι e h0 t h) {x0 : Nat} {a0 : Nat} {x1 : Int32} {c1 : Nat} {x2 : Int32} {c2 : Nat} {x3 : Int32} {c3 : Nat} (q0 : yA ι x0 a0) (q1 : yI x1 c1) (q2 : yI x2 c2) (q3 : yI x3 c3) : Sm (fun b a => yI a.1 b.1 ∧ syR ι e h0 b.2 a.2) (sX12_ice e t a0 c1 c2 c3) (gX12_ice h x0 x1 x2 x3) := by
  unfold sX12_ice gX12_ice
  refine sm_bi (sX12_noWeights_ok hι qt q0 q1) (fun _ c21 q21 => ?_)
  refine sm_if (sy_eq32 q21 (yI_lit 0)) ?_ ?_
  · refine sm_bi (sX12_in_ok (yJ_i2l q2) (yJ_lit 2) (yJ_lit 6)) (fun _ c22 q22 => ?_)
    refine sm_if (sy_eq32 q22 (yI_lit 0)) ?_ ?_
    · exact sm_some ⟨(show yI (-2) 4294967294 from by unfold yI; decide), qt⟩
    · refine sm_bi (sX12_in_ok (yJ_i2l q3) (yJ_lit 1) (yJ_lit 8)) (fun _ c23 q23 => ?_)
      refine sm_if (sy_eq32 q23 (yI_lit 0)) ?_ ?_
      · exact sm_some ⟨(show yI (-2) 4294967294 from by unfold yI; decide), qt⟩
      · refine sm_bV (sX12_layRows_ok hι qt q0 q1 q2 (yI_lit 1)) (fun _ t24 qt24 => ?_)
        refine sm_lti (yI_shl (yI_lit 1) q2) (fun _ c25 q25 => ?_)
        refine sm_jn (fun (k' : Nat → Sy → Option (Nat × Sy)) (k : Int64 → Zh → Option (Int32 × Zh)) => ∀ (c26 : Nat) (x26 : Int64) (t27 : Sy) (h27 : Zh), yJ x26 c26 → syR ι e h0 t27 h27 → Sm (fun b a => yI a.1 b.1 ∧ syR ι e h0 b.2 a.2) (k' c26 t27) (k x26 h27)) ?_ ?_
        · intro c26 x26 t27 h27 q26 qt27
          unfold sX12_ice_J1 gX12_ice_J1
          exact sm_some ⟨(yI_l2i q26), qt27⟩
        intro k28 gk28 hk28
        refine sm_lp (fun (k' : Nat → Nat → Sy → Option (Nat × Sy)) (k : Int64 → Int32 → Zh → Option (Int32 × Zh)) => ∀ (c29 : Nat) (x29 : Int64) (c30 : Nat) (x30 : Int32) (t31 : Sy) (h31 : Zh), yJ x29 c29 → yI x30 c30 → syR ι e h0 t31 h31 → Sm (fun b a => yI a.1 b.1 ∧ syR ι e h0 b.2 a.2) (k' c29 c30 t31) (k x29 x30 h31)) ?_ ?_ zFU _ _ _ _ _ _ (yJ_lit 0) (yI_lit 0) qt24
        · exact fun _ _ _ _ _ _ _ _ _ => sm_none
        intro k32 gk32 hk32
        intro c29 x29 c30 x30 t31 h31 q29 q30 qt31
        unfold sX12_ice_L13 gX12_ice_L13
        refine sm_if (sy_le32 q25 q30) ?_ ?_
        · exact hk28 _ _ _ _ q29 qt31
        · refine sm_jn (fun (k' : Sy → Option (Nat × Sy)) (k : Zh → Option (Int32 × Zh)) => ∀ (t33 : Sy) (h33 : Zh), syR ι e h0 t33 h33 → Sm (fun b a => yI a.1 b.1 ∧ syR ι e h0 b.2 a.2) (k' t33) (k h33)) ?_ ?_
          · intro t33 h33 qt33
            unfold sX12_ice_J10 gX12_ice_J10
            refine sm_jn (fun (k' : Sy → Option (Nat × Sy)) (k : Zh → Option (Int32 × Zh)) => ∀ (t34 : Sy) (h34 : Zh), syR ι e h0 t34 h34 → Sm (fun b a => yI a.1 b.1 ∧ syR ι e h0 b.2 a.2) (k' t34) (k h34)) ?_ ?_
            · intro t34 h34 qt34
              unfold sX12_ice_J2 gX12_ice_J2
              refine sm_rR qt34 q0 rfl (fun _ c35 q35 => ?_)
              refine sm_dr q35 (fun _ a36 q36 => ?_)
              refine sm_in qt34 q36 q30 (fun p37 q37 => ?_)
              refine sm_rJ qt34 q36 q37 (fun c38 q38 => ?_)
              refine sm_bj (sX12_restBy_ok (yJ_add q29 q38)) (fun _ c39 q39 => ?_)
              refine sm_f ?_
              exact hk32 _ _ _ _ _ _ q39 (yI_add q30 (yI_lit 1)) qt34
            intro k41 gk41 hk41
            refine sm_lp (fun (k' : Nat → Sy → Option (Nat × Sy)) (k : Int32 → Zh → Option (Int32 × Zh)) => ∀ (c42 : Nat) (x42 : Int32) (t43 : Sy) (h43 : Zh), yI x42 c42 → syR ι e h0 t43 h43 → Sm (fun b a => yI a.1 b.1 ∧ syR ι e h0 b.2 a.2) (k' c42 t43) (k x42 h43)) ?_ ?_ zFU _ _ _ _ (yI_lit 0) qt33
            · exact fun _ _ _ _ _ _ => sm_none
            intro k44 gk44 hk44
            intro c42 x42 t43 h43 q42 qt43
            unfold sX12_ice_L9 gX12_ice_L9
            refine sm_if (sy_le32 q3 q42) ?_ ?_
            · exact hk41 _ _ qt43
            · refine sm_jn (fun (k' : Sy → Option (Nat × Sy)) (k : Zh → Option (Int32 × Zh)) => ∀ (t45 : Sy) (h45 : Zh), syR ι e h0 t45 h45 → Sm (fun b a => yI a.1 b.1 ∧ syR ι e h0 b.2 a.2) (k' t45) (k h45)) ?_ ?_
              · intro t45 h45 qt45
                unfold sX12_ice_J5 gX12_ice_J5
                refine sm_jn (fun (k' : Sy → Option (Nat × Sy)) (k : Zh → Option (Int32 × Zh)) => ∀ (t46 : Sy) (h46 : Zh), syR ι e h0 t46 h46 → Sm (fun b a => yI a.1 b.1 ∧ syR ι e h0 b.2 a.2) (k' t46) (k h46)) ?_ ?_
                · intro t46 h46 qt46
                  unfold sX12_ice_J3 gX12_ice_J3
                  refine sm_f ?_
                  exact hk44 _ _ _ _ (yI_add q42 (yI_lit 1)) qt46
                intro k48 gk48 hk48
                refine sm_lp (fun (k' : Nat → Sy → Option (Nat × Sy)) (k : Int32 → Zh → Option (Int32 × Zh)) => ∀ (c49 : Nat) (x49 : Int32) (t50 : Sy) (h50 : Zh), yI x49 c49 → syR ι e h0 t50 h50 → Sm (fun b a => yI a.1 b.1 ∧ syR ι e h0 b.2 a.2) (k' c49 t50) (k x49 h50)) ?_ ?_ zFU _ _ _ _ (yI_lit 0) qt45
                · exact fun _ _ _ _ _ _ => sm_none
                intro k51 gk51 hk51
                intro c49 x49 t50 h50 q49 qt50
                unfold sX12_ice_L4 gX12_ice_L4
                refine sm_if (sy_le32 q25 q49) ?_ ?_
                · exact hk48 _ _ qt50
                · refine sm_rR qt50 q0 rfl (fun _ c52 q52 => ?_)
                  refine sm_rR qt50 q0 rfl (fun _ c53 q53 => ?_)
                  refine sm_dr q53 (fun _ a54 q54 => ?_)
                  refine sm_in qt50 q54 q49 (fun p55 q55 => ?_)
                  refine sm_rJ qt50 q54 q55 (fun c56 q56 => ?_)
                  refine sm_dr q52 (fun _ a57 q57 => ?_)
                  refine sm_in qt50 q57 q49 (fun p58 q58 => ?_)
                  refine sm_wJ hι qt50 q57 q58 q56 (fun _ t59 qt59 => ?_)
                  refine sm_f ?_
                  exact hk51 _ _ _ _ (yI_add q49 (yI_lit 1)) qt59
              intro k61 gk61 hk61
              refine sm_lp (fun (k' : Nat → Sy → Option (Nat × Sy)) (k : Int32 → Zh → Option (Int32 × Zh)) => ∀ (c62 : Nat) (x62 : Int32) (t63 : Sy) (h63 : Zh), yI x62 c62 → syR ι e h0 t63 h63 → Sm (fun b a => yI a.1 b.1 ∧ syR ι e h0 b.2 a.2) (k' c62 t63) (k x62 h63)) ?_ ?_ zFU _ _ _ _ (yI_lit 0) qt43
              · exact fun _ _ _ _ _ _ => sm_none
              intro k64 gk64 hk64
              intro c62 x62 t63 h63 q62 qt63
              unfold sX12_ice_L8 gX12_ice_L8
              refine sm_if (sy_le32 q25 q62) ?_ ?_
              · exact hk61 _ _ qt63
              · refine sm_rR qt63 q0 rfl (fun _ c65 q65 => ?_)
                refine sm_dr q65 (fun _ a66 q66 => ?_)
                refine sm_in qt63 q66 q62 (fun p67 q67 => ?_)
                refine sm_wJ hι qt63 q66 q67 (yJ_lit 0) (fun _ t68 qt68 => ?_)
                refine sm_jn (fun (k' : Sy → Option (Nat × Sy)) (k : Zh → Option (Int32 × Zh)) => ∀ (t69 : Sy) (h69 : Zh), syR ι e h0 t69 h69 → Sm (fun b a => yI a.1 b.1 ∧ syR ι e h0 b.2 a.2) (k' t69) (k h69)) ?_ ?_
                · intro t69 h69 qt69
                  unfold sX12_ice_J6 gX12_ice_J6
                  refine sm_f ?_
                  exact hk64 _ _ _ _ (yI_add q62 (yI_lit 1)) qt69
                intro k71 gk71 hk71
                refine sm_lp (fun (k' : Nat → Sy → Option (Nat × Sy)) (k : Int32 → Zh → Option (Int32 × Zh)) => ∀ (c72 : Nat) (x72 : Int32) (t73 : Sy) (h73 : Zh), yI x72 c72 → syR ι e h0 t73 h73 → Sm (fun b a => yI a.1 b.1 ∧ syR ι e h0 b.2 a.2) (k' c72 t73) (k x72 h73)) ?_ ?_ zFU _ _ _ _ (yI_lit 0) qt68
                · exact fun _ _ _ _ _ _ => sm_none
                intro k74 gk74 hk74
                intro c72 x72 t73 h73 q72 qt73
                unfold sX12_ice_L7 gX12_ice_L7
                refine sm_if (sy_le32 q25 q72) ?_ ?_
                · exact hk71 _ _ qt73
                · refine sm_rR qt73 q0 rfl (fun _ c75 q75 => ?_)
                  refine sm_rR qt73 q0 rfl (fun _ c76 q76 => ?_)
                  refine sm_dr q76 (fun _ a77 q77 => ?_)
                  refine sm_in qt73 q77 q62 (fun p78 q78 => ?_)
                  refine sm_rJ qt73 q77 q78 (fun c79 q79 => ?_)
                  refine sm_rR qt73 q0 rfl (fun _ c80 q80 => ?_)
                  refine sm_dr q80 (fun _ a81 q81 => ?_)
                  refine sm_in qt73 q81 q72 (fun p82 q82 => ?_)
                  refine sm_rJ qt73 q81 q82 (fun c83 q83 => ?_)
                  refine sm_rR qt73 q0 rfl (fun _ c84 q84 => ?_)
                  refine sm_dr q84 (fun _ a85 q85 => ?_)
                  refine sm_in qt73 q85 (yI_add (yI_mul (yI_lit 64) q72) q62) (fun p86 q86 => ?_)
                  refine sm_rJ qt73 q85 q86 (fun c87 q87 => ?_)
                  refine sm_bj (sX12_restBy_ok q87) (fun _ c88 q88 => ?_)
                  refine sm_bj (sX12_restBy_ok (yJ_add q79 (yJ_mul q83 q88))) (fun _ c89 q89 => ?_)
                  refine sm_dr q75 (fun _ a90 q90 => ?_)
                  refine sm_in qt73 q90 q62 (fun p91 q91 => ?_)
                  refine sm_wJ hι qt73 q90 q91 q89 (fun _ t92 qt92 => ?_)
                  refine sm_f ?_
                  exact hk74 _ _ _ _ (yI_add q72 (yI_lit 1)) qt92
          intro k94 gk94 hk94
          refine sm_lp (fun (k' : Nat → Sy → Option (Nat × Sy)) (k : Int32 → Zh → Option (Int32 × Zh)) => ∀ (c95 : Nat) (x95 : Int32) (t96 : Sy) (h96 : Zh), yI x95 c95 → syR ι e h0 t96 h96 → Sm (fun b a => yI a.1 b.1 ∧ syR ι e h0 b.2 a.2) (k' c95 t96) (k x95 h96)) ?_ ?_ zFU _ _ _ _ (yI_lit 0) qt31
          · exact fun _ _ _ _ _ _ => sm_none
          intro k97 gk97 hk97
          intro c95 x95 t96 h96 q95 qt96
          unfold sX12_ice_L12 gX12_ice_L12
          refine sm_if (sy_le32 q25 q95) ?_ ?_
          · exact hk94 _ _ qt96
          · refine sm_rR qt96 q0 rfl (fun _ c98 q98 => ?_)
            refine sm_jn (fun (k' : Nat → Option (Nat × Sy)) (k : Int64 → Option (Int32 × Zh)) => ∀ (c99 : Nat) (x99 : Int64), yJ x99 c99 → Sm (fun b a => yI a.1 b.1 ∧ syR ι e h0 b.2 a.2) (k' c99) (k x99)) ?_ ?_
            · intro c99 x99 q99
              unfold sX12_ice_J11 gX12_ice_J11
              refine sm_dr q98 (fun _ a100 q100 => ?_)
              refine sm_in qt96 q100 q95 (fun p101 q101 => ?_)
              refine sm_wJ hι qt96 q100 q101 q99 (fun _ t102 qt102 => ?_)
              refine sm_f ?_
              exact hk97 _ _ _ _ (yI_add q95 (yI_lit 1)) qt102
            intro k104 gk104 hk104
            refine sm_if (sy_eq32 q95 q30) ?_ ?_
            · exact hk104 _ _ (yJ_lit 1)
            · exact hk104 _ _ (yJ_lit 0)
  · exact sm_some ⟨(show yI (-1) 4294967295 from by unfold yI; decide), qt⟩
noncomputable def sX12_walls_J1 (e : Se) (a0 : Nat) (c23 : Nat) : Sy → Option (Nat × Sy) :=
  fun (t25 : Sy) => srR t25 a0 16 (fun c26 => syr c26 (fun a27 => syi e a27 (Nat.add c23 (syn32 1)) (fun p28 => srJ t25 a27 p28 (fun c29 => some (c29, t25)))))
noncomputable def sX12_walls_J2 (c31 : Nat) (k33 : Nat → Sy → Option (Nat × Sy)) : Sy → Option (Nat × Sy) :=
  fun (t35 : Sy) => syf (Nat.add c31 1) (fun c36 => k33 c36 t35)
noncomputable def sX12_walls_L3 (e : Se) (a0 : Nat) (c23 : Nat) (k37 : Sy → Option (Nat × Sy)) : (Nat → Sy → Option (Nat × Sy)) → Nat → Sy → Option (Nat × Sy) :=
  fun (k40 : Nat → Sy → Option (Nat × Sy)) (c38 : Nat) (t39 : Sy) => syc (Nat.ble (syo32 c23) (syo32 c38)) (k37 t39)
  (srR t39 a0 16 (fun c41 => srR t39 a0 17 (fun c42 => syr c42 (fun a43 => syi e a43 c38 (fun p44 => srJ t39 a43 p44 (fun c45 => syr c41 (fun a46 => syi e a46 c38 (fun p47 => swJ e t39 a46 p47 c45 (fun t48 => syf (Nat.add c38 1) (fun c49 => k40 c49 t48))))))))))
noncomputable def sX12_walls_J4 (e : Se) (a0 : Nat) (c23 : Nat) (c31 : Nat) (k33 : Nat → Sy → Option (Nat × Sy)) : Sy → Option (Nat × Sy) :=
  fun (t34 : Sy) => zjn (sX12_walls_J2 c31 k33) (fun (k37 : Sy → Option (Nat × Sy)) =>
  syl (fun _ _ => (none : Option (Nat × Sy))) (sX12_walls_L3 e a0 c23 k37) zFU 0 t34)
noncomputable def sX12_walls_J5 (c51 : Nat) (k53 : Nat → Sy → Option (Nat × Sy)) : Sy → Option (Nat × Sy) :=
  fun (t58 : Sy) => syf (Nat.add c51 1) (fun c59 => k53 c59 t58)
noncomputable def sX12_walls_L6 (e : Se) (a0 : Nat) (c1 : Nat) (c2 : Nat) (c23 : Nat) (c51 : Nat) (k60 : Sy → Option (Nat × Sy)) : (Nat → Sy → Option (Nat × Sy)) → Nat → Sy → Option (Nat × Sy) :=
  fun (k63 : Nat → Sy → Option (Nat × Sy)) (c61 : Nat) (t62 : Sy) => syc (Nat.ble (syo32 c23) (syo32 c61)) (k60 t62)
  (srR t62 a0 17 (fun c64 => srR t62 a0 17 (fun c65 => syr c65 (fun a66 => syi e a66 c51 (fun p67 => srJ t62 a66 p67 (fun c68 => srR t62 a0 16 (fun c69 => syr c69 (fun a70 => syi e a70 c61 (fun p71 => srJ t62 a70 p71 (fun c72 => sbj (sX12_along e t62 a0 c1 c2 c61 c51 1 0) (fun c73 => sbj (sX12_restBy c73) (fun c74 => sbj (sX12_restBy (Nat.add c68 (Nat.mul c72 c74))) (fun c75 => syr c64 (fun a76 => syi e a76 c51 (fun p77 => swJ e t62 a76 p77 c75 (fun t78 => syf (Nat.add c61 1) (fun c79 => k63 c79 t78)))))))))))))))))
noncomputable def sX12_walls_L7 (e : Se) (a0 : Nat) (c1 : Nat) (c2 : Nat) (c23 : Nat) (k50 : Sy → Option (Nat × Sy)) : (Nat → Sy → Option (Nat × Sy)) → Nat → Sy → Option (Nat × Sy) :=
  fun (k53 : Nat → Sy → Option (Nat × Sy)) (c51 : Nat) (t52 : Sy) => syc (Nat.ble (syo32 c23) (syo32 c51)) (k50 t52)
  (srR t52 a0 17 (fun c54 => syr c54 (fun a55 => syi e a55 c51 (fun p56 => swJ e t52 a55 p56 0 (fun t57 => zjn (sX12_walls_J5 c51 k53) (fun (k60 : Sy → Option (Nat × Sy)) =>
  syl (fun _ _ => (none : Option (Nat × Sy))) (sX12_walls_L6 e a0 c1 c2 c23 c51 k60) zFU 0 t57))))))
noncomputable def sX12_walls_L8 (e : Se) (a0 : Nat) (c1 : Nat) (c2 : Nat) (c23 : Nat) (k30 : Sy → Option (Nat × Sy)) : (Nat → Sy → Option (Nat × Sy)) → Nat → Sy → Option (Nat × Sy) :=
  fun (k33 : Nat → Sy → Option (Nat × Sy)) (c31 : Nat) (t32 : Sy) => syc (Nat.ble (syo32 c2) (syo32 c31)) (k30 t32)
  (zjn (sX12_walls_J4 e a0 c23 c31 k33) (fun (k50 : Sy → Option (Nat × Sy)) =>
  syl (fun _ _ => (none : Option (Nat × Sy))) (sX12_walls_L7 e a0 c1 c2 c23 k50) zFU 0 t32))
noncomputable def sX12_walls_J9 (e : Se) (a0 : Nat) (c1 : Nat) (c2 : Nat) (c23 : Nat) : Sy → Option (Nat × Sy) :=
  fun (t24 : Sy) => zjn (sX12_walls_J1 e a0 c23) (fun (k30 : Sy → Option (Nat × Sy)) =>
  syl (fun _ _ => (none : Option (Nat × Sy))) (sX12_walls_L8 e a0 c1 c2 c23 k30) zFU 0 t24)
noncomputable def sX12_walls_J10 (e : Se) (c81 : Nat) (t82 : Sy) (k83 : Nat → Sy → Option (Nat × Sy)) (c84 : Nat) : Nat → Option (Nat × Sy) :=
  fun (c85 : Nat) => syr c84 (fun a86 => syi e a86 c81 (fun p87 => swJ e t82 a86 p87 c85 (fun t88 => syf (Nat.add c81 1) (fun c89 => k83 c89 t88))))
noncomputable def sX12_walls_L11 (e : Se) (a0 : Nat) (c23 : Nat) (k80 : Sy → Option (Nat × Sy)) : (Nat → Sy → Option (Nat × Sy)) → Nat → Sy → Option (Nat × Sy) :=
  fun (k83 : Nat → Sy → Option (Nat × Sy)) (c81 : Nat) (t82 : Sy) => syc (Nat.ble (syo32 c23) (syo32 c81)) (k80 t82)
  (srR t82 a0 16 (fun c84 => zjn (sX12_walls_J10 e c81 t82 k83 c84) (fun (k90 : Nat → Option (Nat × Sy)) =>
  syc (Nat.beq (Nat.mod c81 4294967296) (Nat.mod 0 4294967296)) (k90 1)
  (k90 0))))
noncomputable def sX12_walls (e : Se) (t : Sy) (a0 : Nat) (c1 : Nat) (c2 : Nat) : Option (Nat × Sy) :=
  sbi (sX12_noWeights e t a0 c1) (fun c21 => syc (Nat.beq (Nat.mod c21 4294967296) (Nat.mod 0 4294967296)) (sbi (sX12_in (sy2l c2) 1 6) (fun c22 => syc (Nat.beq (Nat.mod c22 4294967296) (Nat.mod 0 4294967296)) (some (4294967294, t))
  (syf (Nat.shiftLeft 1 (Nat.mod c2 32)) (fun c23 => zjn (sX12_walls_J9 e a0 c1 c2 c23) (fun (k80 : Sy → Option (Nat × Sy)) =>
  syl (fun _ _ => (none : Option (Nat × Sy))) (sX12_walls_L11 e a0 c23 k80) zFU 0 t)))))
  (some (4294967295, t)))
theorem sX12_walls_ok {ι : Nat → Nat} {e : Se} {h0 h : Zh} {t : Sy} (hι : ∀ a b, ι a = ι b → a = b) (qt : syR ι e h0 t h) {x0 : Nat} {a0 : Nat} {x1 : Int32} {c1 : Nat} {x2 : Int32} {c2 : Nat} (q0 : yA ι x0 a0) (q1 : yI x1 c1) (q2 : yI x2 c2) : Sm (fun b a => yI a.1 b.1 ∧ syR ι e h0 b.2 a.2) (sX12_walls e t a0 c1 c2) (gX12_walls h x0 x1 x2) := by
  unfold sX12_walls gX12_walls
  refine sm_bi (sX12_noWeights_ok hι qt q0 q1) (fun _ c21 q21 => ?_)
  refine sm_if (sy_eq32 q21 (yI_lit 0)) ?_ ?_
  · refine sm_bi (sX12_in_ok (yJ_i2l q2) (yJ_lit 1) (yJ_lit 6)) (fun _ c22 q22 => ?_)
    refine sm_if (sy_eq32 q22 (yI_lit 0)) ?_ ?_
    · exact sm_some ⟨(show yI (-2) 4294967294 from by unfold yI; decide), qt⟩
    · refine sm_lti (yI_shl (yI_lit 1) q2) (fun _ c23 q23 => ?_)
      refine sm_jn (fun (k' : Sy → Option (Nat × Sy)) (k : Zh → Option (Int32 × Zh)) => ∀ (t24 : Sy) (h24 : Zh), syR ι e h0 t24 h24 → Sm (fun b a => yI a.1 b.1 ∧ syR ι e h0 b.2 a.2) (k' t24) (k h24)) ?_ ?_
      · intro t24 h24 qt24
        unfold sX12_walls_J9 gX12_walls_J9
        refine sm_jn (fun (k' : Sy → Option (Nat × Sy)) (k : Zh → Option (Int32 × Zh)) => ∀ (t25 : Sy) (h25 : Zh), syR ι e h0 t25 h25 → Sm (fun b a => yI a.1 b.1 ∧ syR ι e h0 b.2 a.2) (k' t25) (k h25)) ?_ ?_
        · intro t25 h25 qt25
          unfold sX12_walls_J1 gX12_walls_J1
          refine sm_rR qt25 q0 rfl (fun _ c26 q26 => ?_)
          refine sm_dr q26 (fun _ a27 q27 => ?_)
          refine sm_in qt25 q27 (yI_sub q23 (yI_lit 1)) (fun p28 q28 => ?_)
          refine sm_rJ qt25 q27 q28 (fun c29 q29 => ?_)
          exact sm_some ⟨(yI_l2i q29), qt25⟩
        intro k30 gk30 hk30
        refine sm_lp (fun (k' : Nat → Sy → Option (Nat × Sy)) (k : Int32 → Zh → Option (Int32 × Zh)) => ∀ (c31 : Nat) (x31 : Int32) (t32 : Sy) (h32 : Zh), yI x31 c31 → syR ι e h0 t32 h32 → Sm (fun b a => yI a.1 b.1 ∧ syR ι e h0 b.2 a.2) (k' c31 t32) (k x31 h32)) ?_ ?_ zFU _ _ _ _ (yI_lit 0) qt24
        · exact fun _ _ _ _ _ _ => sm_none
        intro k33 gk33 hk33
        intro c31 x31 t32 h32 q31 qt32
        unfold sX12_walls_L8 gX12_walls_L8
        refine sm_if (sy_le32 q2 q31) ?_ ?_
        · exact hk30 _ _ qt32
        · refine sm_jn (fun (k' : Sy → Option (Nat × Sy)) (k : Zh → Option (Int32 × Zh)) => ∀ (t34 : Sy) (h34 : Zh), syR ι e h0 t34 h34 → Sm (fun b a => yI a.1 b.1 ∧ syR ι e h0 b.2 a.2) (k' t34) (k h34)) ?_ ?_
          · intro t34 h34 qt34
            unfold sX12_walls_J4 gX12_walls_J4
            refine sm_jn (fun (k' : Sy → Option (Nat × Sy)) (k : Zh → Option (Int32 × Zh)) => ∀ (t35 : Sy) (h35 : Zh), syR ι e h0 t35 h35 → Sm (fun b a => yI a.1 b.1 ∧ syR ι e h0 b.2 a.2) (k' t35) (k h35)) ?_ ?_
            · intro t35 h35 qt35
              unfold sX12_walls_J2 gX12_walls_J2
              refine sm_f ?_
              exact hk33 _ _ _ _ (yI_add q31 (yI_lit 1)) qt35
            intro k37 gk37 hk37
            refine sm_lp (fun (k' : Nat → Sy → Option (Nat × Sy)) (k : Int32 → Zh → Option (Int32 × Zh)) => ∀ (c38 : Nat) (x38 : Int32) (t39 : Sy) (h39 : Zh), yI x38 c38 → syR ι e h0 t39 h39 → Sm (fun b a => yI a.1 b.1 ∧ syR ι e h0 b.2 a.2) (k' c38 t39) (k x38 h39)) ?_ ?_ zFU _ _ _ _ (yI_lit 0) qt34
            · exact fun _ _ _ _ _ _ => sm_none
            intro k40 gk40 hk40
            intro c38 x38 t39 h39 q38 qt39
            unfold sX12_walls_L3 gX12_walls_L3
            refine sm_if (sy_le32 q23 q38) ?_ ?_
            · exact hk37 _ _ qt39
            · refine sm_rR qt39 q0 rfl (fun _ c41 q41 => ?_)
              refine sm_rR qt39 q0 rfl (fun _ c42 q42 => ?_)
              refine sm_dr q42 (fun _ a43 q43 => ?_)
              refine sm_in qt39 q43 q38 (fun p44 q44 => ?_)
              refine sm_rJ qt39 q43 q44 (fun c45 q45 => ?_)
              refine sm_dr q41 (fun _ a46 q46 => ?_)
              refine sm_in qt39 q46 q38 (fun p47 q47 => ?_)
              refine sm_wJ hι qt39 q46 q47 q45 (fun _ t48 qt48 => ?_)
              refine sm_f ?_
              exact hk40 _ _ _ _ (yI_add q38 (yI_lit 1)) qt48
          intro k50 gk50 hk50
          refine sm_lp (fun (k' : Nat → Sy → Option (Nat × Sy)) (k : Int32 → Zh → Option (Int32 × Zh)) => ∀ (c51 : Nat) (x51 : Int32) (t52 : Sy) (h52 : Zh), yI x51 c51 → syR ι e h0 t52 h52 → Sm (fun b a => yI a.1 b.1 ∧ syR ι e h0 b.2 a.2) (k' c51 t52) (k x51 h52)) ?_ ?_ zFU _ _ _ _ (yI_lit 0) qt32
          · exact fun _ _ _ _ _ _ => sm_none
          intro k53 gk53 hk53
          intro c51 x51 t52 h52 q51 qt52
          unfold sX12_walls_L7 gX12_walls_L7
          refine sm_if (sy_le32 q23 q51) ?_ ?_
          · exact hk50 _ _ qt52
          · refine sm_rR qt52 q0 rfl (fun _ c54 q54 => ?_)
            refine sm_dr q54 (fun _ a55 q55 => ?_)
            refine sm_in qt52 q55 q51 (fun p56 q56 => ?_)
            refine sm_wJ hι qt52 q55 q56 (yJ_lit 0) (fun _ t57 qt57 => ?_)
            refine sm_jn (fun (k' : Sy → Option (Nat × Sy)) (k : Zh → Option (Int32 × Zh)) => ∀ (t58 : Sy) (h58 : Zh), syR ι e h0 t58 h58 → Sm (fun b a => yI a.1 b.1 ∧ syR ι e h0 b.2 a.2) (k' t58) (k h58)) ?_ ?_
            · intro t58 h58 qt58
              unfold sX12_walls_J5 gX12_walls_J5
              refine sm_f ?_
              exact hk53 _ _ _ _ (yI_add q51 (yI_lit 1)) qt58
            intro k60 gk60 hk60
            refine sm_lp (fun (k' : Nat → Sy → Option (Nat × Sy)) (k : Int32 → Zh → Option (Int32 × Zh)) => ∀ (c61 : Nat) (x61 : Int32) (t62 : Sy) (h62 : Zh), yI x61 c61 → syR ι e h0 t62 h62 → Sm (fun b a => yI a.1 b.1 ∧ syR ι e h0 b.2 a.2) (k' c61 t62) (k x61 h62)) ?_ ?_ zFU _ _ _ _ (yI_lit 0) qt57
            · exact fun _ _ _ _ _ _ => sm_none
            intro k63 gk63 hk63
            intro c61 x61 t62 h62 q61 qt62
            unfold sX12_walls_L6 gX12_walls_L6
            refine sm_if (sy_le32 q23 q61) ?_ ?_
            · exact hk60 _ _ qt62
            · refine sm_rR qt62 q0 rfl (fun _ c64 q64 => ?_)
              refine sm_rR qt62 q0 rfl (fun _ c65 q65 => ?_)
              refine sm_dr q65 (fun _ a66 q66 => ?_)
              refine sm_in qt62 q66 q51 (fun p67 q67 => ?_)
              refine sm_rJ qt62 q66 q67 (fun c68 q68 => ?_)
              refine sm_rR qt62 q0 rfl (fun _ c69 q69 => ?_)
              refine sm_dr q69 (fun _ a70 q70 => ?_)
              refine sm_in qt62 q70 q61 (fun p71 q71 => ?_)
              refine sm_rJ qt62 q70 q71 (fun c72 q72 => ?_)
              refine sm_bj (sX12_along_ok hι qt62 q0 q1 q2 q61 q51 (yI_lit 1) (yI_lit 0)) (fun _ c73 q73 => ?_)
              refine sm_bj (sX12_restBy_ok q73) (fun _ c74 q74 => ?_)
              refine sm_bj (sX12_restBy_ok (yJ_add q68 (yJ_mul q72 q74))) (fun _ c75 q75 => ?_)
              refine sm_dr q64 (fun _ a76 q76 => ?_)
              refine sm_in qt62 q76 q51 (fun p77 q77 => ?_)
              refine sm_wJ hι qt62 q76 q77 q75 (fun _ t78 qt78 => ?_)
              refine sm_f ?_
              exact hk63 _ _ _ _ (yI_add q61 (yI_lit 1)) qt78
      intro k80 gk80 hk80
      refine sm_lp (fun (k' : Nat → Sy → Option (Nat × Sy)) (k : Int32 → Zh → Option (Int32 × Zh)) => ∀ (c81 : Nat) (x81 : Int32) (t82 : Sy) (h82 : Zh), yI x81 c81 → syR ι e h0 t82 h82 → Sm (fun b a => yI a.1 b.1 ∧ syR ι e h0 b.2 a.2) (k' c81 t82) (k x81 h82)) ?_ ?_ zFU _ _ _ _ (yI_lit 0) qt
      · exact fun _ _ _ _ _ _ => sm_none
      intro k83 gk83 hk83
      intro c81 x81 t82 h82 q81 qt82
      unfold sX12_walls_L11 gX12_walls_L11
      refine sm_if (sy_le32 q23 q81) ?_ ?_
      · exact hk80 _ _ qt82
      · refine sm_rR qt82 q0 rfl (fun _ c84 q84 => ?_)
        refine sm_jn (fun (k' : Nat → Option (Nat × Sy)) (k : Int64 → Option (Int32 × Zh)) => ∀ (c85 : Nat) (x85 : Int64), yJ x85 c85 → Sm (fun b a => yI a.1 b.1 ∧ syR ι e h0 b.2 a.2) (k' c85) (k x85)) ?_ ?_
        · intro c85 x85 q85
          unfold sX12_walls_J10 gX12_walls_J10
          refine sm_dr q84 (fun _ a86 q86 => ?_)
          refine sm_in qt82 q86 q81 (fun p87 q87 => ?_)
          refine sm_wJ hι qt82 q86 q87 q85 (fun _ t88 qt88 => ?_)
          refine sm_f ?_
          exact hk83 _ _ _ _ (yI_add q81 (yI_lit 1)) qt88
        intro k90 gk90 hk90
        refine sm_if (sy_eq32 q81 (yI_lit 0)) ?_ ?_
        · exact hk90 _ _ (yJ_lit 1)
        · exact hk90 _ _ (yJ_lit 0)
  · exact sm_some ⟨(show yI (-1) 4294967295 from by unfold yI; decide), qt⟩
noncomputable def sX12_goOn_L1 (e : Se) (a0 : Nat) : (Nat → Sy → Option (Sy)) → Nat → Sy → Option (Sy) :=
  fun (k25 : Nat → Sy → Option (Sy)) (c23 : Nat) (t24 : Sy) => syc (Nat.ble (syo32 8) (syo32 c23)) (some t24)
  (srR t24 a0 26 (fun c26 => srR t24 a0 27 (fun c27 => syr c27 (fun a28 => syi e a28 c23 (fun p29 => srJ t24 a28 p29 (fun c30 => syr c26 (fun a31 => syi e a31 c23 (fun p32 => swJ e t24 a31 p32 c30 (fun t33 => syf (Nat.add c23 1) (fun c34 => k25 c34 t33))))))))))
noncomputable def sX12_goOn_J2 (e : Se) (a0 : Nat) : Sy → Option (Sy) :=
  fun (t22 : Sy) => syl (fun _ _ => (none : Option (Sy))) (sX12_goOn_L1 e a0) zFU 0 t22
noncomputable def sX12_goOn_J3 (c36 : Nat) (k38 : Nat → Sy → Option (Sy)) : Sy → Option (Sy) :=
  fun (t39 : Sy) => syf (Nat.add c36 1) (fun c40 => k38 c40 t39)
noncomputable def sX12_goOn_L4 (e : Se) (a0 : Nat) (c1 : Nat) (c2 : Nat) (c3 : Nat) (c36 : Nat) (k41 : Sy → Option (Sy)) : (Nat → Sy → Option (Sy)) → Nat → Sy → Option (Sy) :=
  fun (k44 : Nat → Sy → Option (Sy)) (c42 : Nat) (t43 : Sy) => syc (Nat.ble (syo32 4) (syo32 c42)) (k41 t43)
  (srR t43 a0 26 (fun c45 => syr c45 (fun a46 => syi e a46 c36 (fun p47 => srJ t43 a46 p47 (fun c48 => syc (Nat.beq (Nat.mod (sycmp c48 0) 4294967296) (Nat.mod 0 4294967296)) (k41 t43)
  (syf (Nat.land c42 1) (fun c49 => syf (sysr c42 1) (fun c50 => syf (Nat.lor (Nat.lor (Nat.land (Nat.land c36 (Nat.xor (Nat.shiftLeft 1 (Nat.mod c2 32)) 4294967295)) (Nat.xor (Nat.shiftLeft 1 (Nat.mod c3 32)) 4294967295)) (Nat.shiftLeft c49 (Nat.mod c2 32))) (Nat.shiftLeft c50 (Nat.mod c3 32))) (fun c51 => srR t43 a0 27 (fun c52 => syr c52 (fun a53 => syi e a53 c51 (fun p54 => srJ t43 a53 p54 (fun c55 => srR t43 a0 26 (fun c56 => syr c56 (fun a57 => syi e a57 c36 (fun p58 => srJ t43 a57 p58 (fun c59 => sbi (sX12_crossing e t43 a0 c1 (Nat.land (sysr c36 c2) 1) (Nat.land (sysr c36 c3) 1) c49 c50) (fun c60 => syi e a53 c51 (fun p61 => swJ e t43 a53 p61 (Nat.add c55 (Nat.mul c59 (sy2l c60))) (fun t62 => syf (Nat.add c42 1) (fun c63 => k44 c63 t62)))))))))))))))))))))
noncomputable def sX12_goOn_L5 (e : Se) (a0 : Nat) (c1 : Nat) (c2 : Nat) (c3 : Nat) (k35 : Sy → Option (Sy)) : (Nat → Sy → Option (Sy)) → Nat → Sy → Option (Sy) :=
  fun (k38 : Nat → Sy → Option (Sy)) (c36 : Nat) (t37 : Sy) => syc (Nat.ble (syo32 8) (syo32 c36)) (k35 t37)
  (zjn (sX12_goOn_J3 c36 k38) (fun (k41 : Sy → Option (Sy)) =>
  syl (fun _ _ => (none : Option (Sy))) (sX12_goOn_L4 e a0 c1 c2 c3 c36 k41) zFU 0 t37))
noncomputable def sX12_goOn_J6 (e : Se) (a0 : Nat) (c1 : Nat) (c2 : Nat) (c3 : Nat) : Sy → Option (Sy) :=
  fun (t21 : Sy) => zjn (sX12_goOn_J2 e a0) (fun (k35 : Sy → Option (Sy)) =>
  syl (fun _ _ => (none : Option (Sy))) (sX12_goOn_L5 e a0 c1 c2 c3 k35) zFU 0 t21)
noncomputable def sX12_goOn_L7 (e : Se) (a0 : Nat) (k64 : Sy → Option (Sy)) : (Nat → Sy → Option (Sy)) → Nat → Sy → Option (Sy) :=
  fun (k67 : Nat → Sy → Option (Sy)) (c65 : Nat) (t66 : Sy) => syc (Nat.ble (syo32 8) (syo32 c65)) (k64 t66)
  (srR t66 a0 27 (fun c68 => syr c68 (fun a69 => syi e a69 c65 (fun p70 => swJ e t66 a69 p70 0 (fun t71 => syf (Nat.add c65 1) (fun c72 => k67 c72 t71))))))
noncomputable def sX12_goOn (e : Se) (t : Sy) (a0 : Nat) (c1 : Nat) (c2 : Nat) (c3 : Nat) : Option (Sy) :=
  zjn (sX12_goOn_J6 e a0 c1 c2 c3) (fun (k64 : Sy → Option (Sy)) =>
  syl (fun _ _ => (none : Option (Sy))) (sX12_goOn_L7 e a0 k64) zFU 0 t)
theorem sX12_goOn_ok {ι : Nat → Nat} {e : Se} {h0 h : Zh} {t : Sy} (hι : ∀ a b, ι a = ι b → a = b) (qt : syR ι e h0 t h) {x0 : Nat} {a0 : Nat} {x1 : Int32} {c1 : Nat} {x2 : Int32} {c2 : Nat} {x3 : Int32} {c3 : Nat} (q0 : yA ι x0 a0) (q1 : yI x1 c1) (q2 : yI x2 c2) (q3 : yI x3 c3) : Sm (fun b a => syR ι e h0 b a) (sX12_goOn e t a0 c1 c2 c3) (gX12_goOn h x0 x1 x2 x3) := by
  unfold sX12_goOn gX12_goOn
  refine sm_jn (fun (k' : Sy → Option (Sy)) (k : Zh → Option (Zh)) => ∀ (t21 : Sy) (h21 : Zh), syR ι e h0 t21 h21 → Sm (fun b a => syR ι e h0 b a) (k' t21) (k h21)) ?_ ?_
  · intro t21 h21 qt21
    unfold sX12_goOn_J6 gX12_goOn_J6
    refine sm_jn (fun (k' : Sy → Option (Sy)) (k : Zh → Option (Zh)) => ∀ (t22 : Sy) (h22 : Zh), syR ι e h0 t22 h22 → Sm (fun b a => syR ι e h0 b a) (k' t22) (k h22)) ?_ ?_
    · intro t22 h22 qt22
      unfold sX12_goOn_J2 gX12_goOn_J2
      refine sm_lp (fun (k' : Nat → Sy → Option (Sy)) (k : Int32 → Zh → Option (Zh)) => ∀ (c23 : Nat) (x23 : Int32) (t24 : Sy) (h24 : Zh), yI x23 c23 → syR ι e h0 t24 h24 → Sm (fun b a => syR ι e h0 b a) (k' c23 t24) (k x23 h24)) ?_ ?_ zFU _ _ _ _ (yI_lit 0) qt22
      · exact fun _ _ _ _ _ _ => sm_none
      intro k25 gk25 hk25
      intro c23 x23 t24 h24 q23 qt24
      unfold sX12_goOn_L1 gX12_goOn_L1
      refine sm_if (sy_le32 (yI_lit 8) q23) ?_ ?_
      · exact sm_some qt24
      · refine sm_rR qt24 q0 rfl (fun _ c26 q26 => ?_)
        refine sm_rR qt24 q0 rfl (fun _ c27 q27 => ?_)
        refine sm_dr q27 (fun _ a28 q28 => ?_)
        refine sm_in qt24 q28 q23 (fun p29 q29 => ?_)
        refine sm_rJ qt24 q28 q29 (fun c30 q30 => ?_)
        refine sm_dr q26 (fun _ a31 q31 => ?_)
        refine sm_in qt24 q31 q23 (fun p32 q32 => ?_)
        refine sm_wJ hι qt24 q31 q32 q30 (fun _ t33 qt33 => ?_)
        refine sm_f ?_
        exact hk25 _ _ _ _ (yI_add q23 (yI_lit 1)) qt33
    intro k35 gk35 hk35
    refine sm_lp (fun (k' : Nat → Sy → Option (Sy)) (k : Int32 → Zh → Option (Zh)) => ∀ (c36 : Nat) (x36 : Int32) (t37 : Sy) (h37 : Zh), yI x36 c36 → syR ι e h0 t37 h37 → Sm (fun b a => syR ι e h0 b a) (k' c36 t37) (k x36 h37)) ?_ ?_ zFU _ _ _ _ (yI_lit 0) qt21
    · exact fun _ _ _ _ _ _ => sm_none
    intro k38 gk38 hk38
    intro c36 x36 t37 h37 q36 qt37
    unfold sX12_goOn_L5 gX12_goOn_L5
    refine sm_if (sy_le32 (yI_lit 8) q36) ?_ ?_
    · exact hk35 _ _ qt37
    · refine sm_jn (fun (k' : Sy → Option (Sy)) (k : Zh → Option (Zh)) => ∀ (t39 : Sy) (h39 : Zh), syR ι e h0 t39 h39 → Sm (fun b a => syR ι e h0 b a) (k' t39) (k h39)) ?_ ?_
      · intro t39 h39 qt39
        unfold sX12_goOn_J3 gX12_goOn_J3
        refine sm_f ?_
        exact hk38 _ _ _ _ (yI_add q36 (yI_lit 1)) qt39
      intro k41 gk41 hk41
      refine sm_lp (fun (k' : Nat → Sy → Option (Sy)) (k : Int32 → Zh → Option (Zh)) => ∀ (c42 : Nat) (x42 : Int32) (t43 : Sy) (h43 : Zh), yI x42 c42 → syR ι e h0 t43 h43 → Sm (fun b a => syR ι e h0 b a) (k' c42 t43) (k x42 h43)) ?_ ?_ zFU _ _ _ _ (yI_lit 0) qt37
      · exact fun _ _ _ _ _ _ => sm_none
      intro k44 gk44 hk44
      intro c42 x42 t43 h43 q42 qt43
      unfold sX12_goOn_L4 gX12_goOn_L4
      refine sm_if (sy_le32 (yI_lit 4) q42) ?_ ?_
      · exact hk41 _ _ qt43
      · refine sm_rR qt43 q0 rfl (fun _ c45 q45 => ?_)
        refine sm_dr q45 (fun _ a46 q46 => ?_)
        refine sm_in qt43 q46 q36 (fun p47 q47 => ?_)
        refine sm_rJ qt43 q46 q47 (fun c48 q48 => ?_)
        refine sm_if (sy_eq32 (yI_cmp q48 (yJ_lit 0)) (yI_lit 0)) ?_ ?_
        · exact hk41 _ _ qt43
        · refine sm_lti (yI_and q42 (yI_lit 1)) (fun _ c49 q49 => ?_)
          refine sm_lti (yI_shr q42 (yI_lit 1)) (fun _ c50 q50 => ?_)
          refine sm_lti (yI_or (yI_or (yI_and (yI_and q36 (yI_xor (yI_shl (yI_lit 1) q2) (show yI (-1) 4294967295 from by unfold yI; decide))) (yI_xor (yI_shl (yI_lit 1) q3) (show yI (-1) 4294967295 from by unfold yI; decide))) (yI_shl q49 q2)) (yI_shl q50 q3)) (fun _ c51 q51 => ?_)
          refine sm_rR qt43 q0 rfl (fun _ c52 q52 => ?_)
          refine sm_dr q52 (fun _ a53 q53 => ?_)
          refine sm_in qt43 q53 q51 (fun p54 q54 => ?_)
          refine sm_rJ qt43 q53 q54 (fun c55 q55 => ?_)
          refine sm_rR qt43 q0 rfl (fun _ c56 q56 => ?_)
          refine sm_dr q56 (fun _ a57 q57 => ?_)
          refine sm_in qt43 q57 q36 (fun p58 q58 => ?_)
          refine sm_rJ qt43 q57 q58 (fun c59 q59 => ?_)
          refine sm_bi (sX12_crossing_ok hι qt43 q0 q1 (yI_and (yI_shr q36 q2) (yI_lit 1)) (yI_and (yI_shr q36 q3) (yI_lit 1)) q49 q50) (fun _ c60 q60 => ?_)
          refine sm_in qt43 q53 q51 (fun p61 q61 => ?_)
          refine sm_wJ hι qt43 q53 q61 (yJ_add q55 (yJ_mul q59 (yJ_i2l q60))) (fun _ t62 qt62 => ?_)
          refine sm_f ?_
          exact hk44 _ _ _ _ (yI_add q42 (yI_lit 1)) qt62
  intro k64 gk64 hk64
  refine sm_lp (fun (k' : Nat → Sy → Option (Sy)) (k : Int32 → Zh → Option (Zh)) => ∀ (c65 : Nat) (x65 : Int32) (t66 : Sy) (h66 : Zh), yI x65 c65 → syR ι e h0 t66 h66 → Sm (fun b a => syR ι e h0 b a) (k' c65 t66) (k x65 h66)) ?_ ?_ zFU _ _ _ _ (yI_lit 0) qt
  · exact fun _ _ _ _ _ _ => sm_none
  intro k67 gk67 hk67
  intro c65 x65 t66 h66 q65 qt66
  unfold sX12_goOn_L7 gX12_goOn_L7
  refine sm_if (sy_le32 (yI_lit 8) q65) ?_ ?_
  · exact hk64 _ _ qt66
  · refine sm_rR qt66 q0 rfl (fun _ c68 q68 => ?_)
    refine sm_dr q68 (fun _ a69 q69 => ?_)
    refine sm_in qt66 q69 q65 (fun p70 q70 => ?_)
    refine sm_wJ hι qt66 q69 q70 (yJ_lit 0) (fun _ t71 qt71 => ?_)
    refine sm_f ?_
    exact hk67 _ _ _ _ (yI_add q65 (yI_lit 1)) qt71
noncomputable def sX12_startThree_J1 (e : Se) (c21 : Nat) (t22 : Sy) (k23 : Nat → Sy → Option (Sy)) (c24 : Nat) : Nat → Option (Sy) :=
  fun (c25 : Nat) => syr c24 (fun a26 => syi e a26 c21 (fun p27 => swJ e t22 a26 p27 c25 (fun t28 => syf (Nat.add c21 1) (fun c29 => k23 c29 t28))))
noncomputable def sX12_startThree_L2 (e : Se) (a0 : Nat) (c1 : Nat) : (Nat → Sy → Option (Sy)) → Nat → Sy → Option (Sy) :=
  fun (k23 : Nat → Sy → Option (Sy)) (c21 : Nat) (t22 : Sy) => syc (Nat.ble (syo32 8) (syo32 c21)) (some t22)
  (srR t22 a0 26 (fun c24 => zjn (sX12_startThree_J1 e c21 t22 k23 c24) (fun (k30 : Nat → Option (Sy)) =>
  syc (Nat.beq (Nat.mod c21 4294967296) (Nat.mod c1 4294967296)) (k30 1)
  (k30 0))))
noncomputable def sX12_startThree (e : Se) (t : Sy) (a0 : Nat) (c1 : Nat) : Option (Sy) :=
  syl (fun _ _ => (none : Option (Sy))) (sX12_startThree_L2 e a0 c1) zFU 0 t
theorem sX12_startThree_ok {ι : Nat → Nat} {e : Se} {h0 h : Zh} {t : Sy} (hι : ∀ a b, ι a = ι b → a = b) (qt : syR ι e h0 t h) {x0 : Nat} {a0 : Nat} {x1 : Int32} {c1 : Nat} (q0 : yA ι x0 a0) (q1 : yI x1 c1) : Sm (fun b a => syR ι e h0 b a) (sX12_startThree e t a0 c1) (gX12_startThree h x0 x1) := by
  unfold sX12_startThree gX12_startThree
  refine sm_lp (fun (k' : Nat → Sy → Option (Sy)) (k : Int32 → Zh → Option (Zh)) => ∀ (c21 : Nat) (x21 : Int32) (t22 : Sy) (h22 : Zh), yI x21 c21 → syR ι e h0 t22 h22 → Sm (fun b a => syR ι e h0 b a) (k' c21 t22) (k x21 h22)) ?_ ?_ zFU _ _ _ _ (yI_lit 0) qt
  · exact fun _ _ _ _ _ _ => sm_none
  intro k23 gk23 hk23
  intro c21 x21 t22 h22 q21 qt22
  unfold sX12_startThree_L2 gX12_startThree_L2
  refine sm_if (sy_le32 (yI_lit 8) q21) ?_ ?_
  · exact sm_some qt22
  · refine sm_rR qt22 q0 rfl (fun _ c24 q24 => ?_)
    refine sm_jn (fun (k' : Nat → Option (Sy)) (k : Int64 → Option (Zh)) => ∀ (c25 : Nat) (x25 : Int64), yJ x25 c25 → Sm (fun b a => syR ι e h0 b a) (k' c25) (k x25)) ?_ ?_
    · intro c25 x25 q25
      unfold sX12_startThree_J1 gX12_startThree_J1
      refine sm_dr q24 (fun _ a26 q26 => ?_)
      refine sm_in qt22 q26 q21 (fun p27 q27 => ?_)
      refine sm_wJ hι qt22 q26 q27 q25 (fun _ t28 qt28 => ?_)
      refine sm_f ?_
      exact hk23 _ _ _ _ (yI_add q21 (yI_lit 1)) qt28
    intro k30 gk30 hk30
    refine sm_if (sy_eq32 q21 q1) ?_ ?_
    · exact hk30 _ _ (yJ_lit 1)
    · exact hk30 _ _ (yJ_lit 0)
noncomputable def sX12_exchange_J1 (c25 : Nat) (k27 : Nat → Nat → Sy → Option (Nat × Sy)) (t36 : Sy) : Nat → Option (Nat × Sy) :=
  fun (c37 : Nat) => syf (Nat.add c25 1) (fun c38 => k27 c37 c38 t36)
noncomputable def sX12_exchange_J2 (c40 : Nat) (c41 : Nat) (k42 : Nat → Nat → Option (Nat × Sy)) : Nat → Option (Nat × Sy) :=
  fun (c51 : Nat) => syf (Nat.add c40 c51) (fun c52 => syf (Nat.add c41 1) (fun c53 => k42 c52 c53))
noncomputable def sX12_exchange_L3 (e : Se) (a0 : Nat) (t36 : Sy) (k39 : Nat → Option (Nat × Sy)) : (Nat → Nat → Option (Nat × Sy)) → Nat → Nat → Option (Nat × Sy) :=
  fun (k42 : Nat → Nat → Option (Nat × Sy)) (c40 : Nat) (c41 : Nat) => syc (Nat.ble (syo32 8) (syo32 c41)) (k39 c40)
  (srR t36 a0 28 (fun c43 => syr c43 (fun a44 => syi e a44 c41 (fun p45 => srJ t36 a44 p45 (fun c46 => srR t36 a0 26 (fun c47 => syr c47 (fun a48 => syi e a48 c41 (fun p49 => srJ t36 a48 p49 (fun c50 => zjn (sX12_exchange_J2 c40 c41 k42) (fun (k54 : Nat → Option (Nat × Sy)) =>
  syc (Nat.beq (Nat.mod (sycmp c46 c50) 4294967296) (Nat.mod 0 4294967296)) (k54 0)
  (k54 1)))))))))))
noncomputable def sX12_exchange_J4 (e : Se) (a0 : Nat) (c1 : Nat) (c2 : Nat) (c3 : Nat) (c24 : Nat) (c25 : Nat) (k27 : Nat → Nat → Sy → Option (Nat × Sy)) : Sy → Option (Nat × Sy) :=
  fun (t32 : Sy) => sbV (sX12_startThree e t32 a0 c25) (fun t33 => sbV (sX12_goOn e t33 a0 c3 1 2) (fun t34 => sbV (sX12_goOn e t34 a0 c2 0 2) (fun t35 => sbV (sX12_goOn e t35 a0 c1 0 1) (fun t36 => zjn (sX12_exchange_J1 c25 k27 t36) (fun (k39 : Nat → Option (Nat × Sy)) =>
  syl (fun _ _ => (none : Option (Nat × Sy))) (sX12_exchange_L3 e a0 t36 k39) zFU c24 0)))))
noncomputable def sX12_exchange_L5 (e : Se) (a0 : Nat) (k55 : Sy → Option (Nat × Sy)) : (Nat → Sy → Option (Nat × Sy)) → Nat → Sy → Option (Nat × Sy) :=
  fun (k58 : Nat → Sy → Option (Nat × Sy)) (c56 : Nat) (t57 : Sy) => syc (Nat.ble (syo32 8) (syo32 c56)) (k55 t57)
  (srR t57 a0 28 (fun c59 => srR t57 a0 26 (fun c60 => syr c60 (fun a61 => syi e a61 c56 (fun p62 => srJ t57 a61 p62 (fun c63 => syr c59 (fun a64 => syi e a64 c56 (fun p65 => swJ e t57 a64 p65 c63 (fun t66 => syf (Nat.add c56 1) (fun c67 => k58 c67 t66))))))))))
noncomputable def sX12_exchange_L6 (e : Se) (a0 : Nat) (c1 : Nat) (c2 : Nat) (c3 : Nat) : (Nat → Nat → Sy → Option (Nat × Sy)) → Nat → Nat → Sy → Option (Nat × Sy) :=
  fun (k27 : Nat → Nat → Sy → Option (Nat × Sy)) (c24 : Nat) (c25 : Nat) (t26 : Sy) => syc (Nat.ble (syo32 8) (syo32 c25)) (some (c24, t26))
  (sbV (sX12_startThree e t26 a0 c25) (fun t28 => sbV (sX12_goOn e t28 a0 c1 0 1) (fun t29 => sbV (sX12_goOn e t29 a0 c2 0 2) (fun t30 => sbV (sX12_goOn e t30 a0 c3 1 2) (fun t31 => zjn (sX12_exchange_J4 e a0 c1 c2 c3 c24 c25 k27) (fun (k55 : Sy → Option (Nat × Sy)) =>
  syl (fun _ _ => (none : Option (Nat × Sy))) (sX12_exchange_L5 e a0 k55) zFU 0 t31))))))
noncomputable def sX12_exchange (e : Se) (t : Sy) (a0 : Nat) (c1 : Nat) (c2 : Nat) (c3 : Nat) : Option (Nat × Sy) :=
  sbi (sX12_noWeights e t a0 c1) (fun c21 => syc (Nat.beq (Nat.mod c21 4294967296) (Nat.mod 0 4294967296)) (sbi (sX12_noWeights e t a0 c2) (fun c22 => syc (Nat.beq (Nat.mod c22 4294967296) (Nat.mod 0 4294967296)) (sbi (sX12_noWeights e t a0 c3) (fun c23 => syc (Nat.beq (Nat.mod c23 4294967296) (Nat.mod 0 4294967296)) (syl (fun _ _ _ => (none : Option (Nat × Sy))) (sX12_exchange_L6 e a0 c1 c2 c3) zFU 0 0 t)
  (some (4294967295, t))))
  (some (4294967295, t))))
  (some (4294967295, t)))
theorem sX12_exchange_ok {ι : Nat → Nat} {e : Se} {h0 h : Zh} {t : Sy} (hι : ∀ a b, ι a = ι b → a = b) (qt : syR ι e h0 t h) {x0 : Nat} {a0 : Nat} {x1 : Int32} {c1 : Nat} {x2 : Int32} {c2 : Nat} {x3 : Int32} {c3 : Nat} (q0 : yA ι x0 a0) (q1 : yI x1 c1) (q2 : yI x2 c2) (q3 : yI x3 c3) : Sm (fun b a => yI a.1 b.1 ∧ syR ι e h0 b.2 a.2) (sX12_exchange e t a0 c1 c2 c3) (gX12_exchange h x0 x1 x2 x3) := by
  unfold sX12_exchange gX12_exchange
  refine sm_bi (sX12_noWeights_ok hι qt q0 q1) (fun _ c21 q21 => ?_)
  refine sm_if (sy_eq32 q21 (yI_lit 0)) ?_ ?_
  · refine sm_bi (sX12_noWeights_ok hι qt q0 q2) (fun _ c22 q22 => ?_)
    refine sm_if (sy_eq32 q22 (yI_lit 0)) ?_ ?_
    · refine sm_bi (sX12_noWeights_ok hι qt q0 q3) (fun _ c23 q23 => ?_)
      refine sm_if (sy_eq32 q23 (yI_lit 0)) ?_ ?_
      · refine sm_lp (fun (k' : Nat → Nat → Sy → Option (Nat × Sy)) (k : Int32 → Int32 → Zh → Option (Int32 × Zh)) => ∀ (c24 : Nat) (x24 : Int32) (c25 : Nat) (x25 : Int32) (t26 : Sy) (h26 : Zh), yI x24 c24 → yI x25 c25 → syR ι e h0 t26 h26 → Sm (fun b a => yI a.1 b.1 ∧ syR ι e h0 b.2 a.2) (k' c24 c25 t26) (k x24 x25 h26)) ?_ ?_ zFU _ _ _ _ _ _ (yI_lit 0) (yI_lit 0) qt
        · exact fun _ _ _ _ _ _ _ _ _ => sm_none
        intro k27 gk27 hk27
        intro c24 x24 c25 x25 t26 h26 q24 q25 qt26
        unfold sX12_exchange_L6 gX12_exchange_L6
        refine sm_if (sy_le32 (yI_lit 8) q25) ?_ ?_
        · exact sm_some ⟨q24, qt26⟩
        · refine sm_bV (sX12_startThree_ok hι qt26 q0 q25) (fun _ t28 qt28 => ?_)
          refine sm_bV (sX12_goOn_ok hι qt28 q0 q1 (yI_lit 0) (yI_lit 1)) (fun _ t29 qt29 => ?_)
          refine sm_bV (sX12_goOn_ok hι qt29 q0 q2 (yI_lit 0) (yI_lit 2)) (fun _ t30 qt30 => ?_)
          refine sm_bV (sX12_goOn_ok hι qt30 q0 q3 (yI_lit 1) (yI_lit 2)) (fun _ t31 qt31 => ?_)
          refine sm_jn (fun (k' : Sy → Option (Nat × Sy)) (k : Zh → Option (Int32 × Zh)) => ∀ (t32 : Sy) (h32 : Zh), syR ι e h0 t32 h32 → Sm (fun b a => yI a.1 b.1 ∧ syR ι e h0 b.2 a.2) (k' t32) (k h32)) ?_ ?_
          · intro t32 h32 qt32
            unfold sX12_exchange_J4 gX12_exchange_J4
            refine sm_bV (sX12_startThree_ok hι qt32 q0 q25) (fun _ t33 qt33 => ?_)
            refine sm_bV (sX12_goOn_ok hι qt33 q0 q3 (yI_lit 1) (yI_lit 2)) (fun _ t34 qt34 => ?_)
            refine sm_bV (sX12_goOn_ok hι qt34 q0 q2 (yI_lit 0) (yI_lit 2)) (fun _ t35 qt35 => ?_)
            refine sm_bV (sX12_goOn_ok hι qt35 q0 q1 (yI_lit 0) (yI_lit 1)) (fun _ t36 qt36 => ?_)
            refine sm_jn (fun (k' : Nat → Option (Nat × Sy)) (k : Int32 → Option (Int32 × Zh)) => ∀ (c37 : Nat) (x37 : Int32), yI x37 c37 → Sm (fun b a => yI a.1 b.1 ∧ syR ι e h0 b.2 a.2) (k' c37) (k x37)) ?_ ?_
            · intro c37 x37 q37
              unfold sX12_exchange_J1 gX12_exchange_J1
              refine sm_f ?_
              exact hk27 _ _ _ _ _ _ q37 (yI_add q25 (yI_lit 1)) qt36
            intro k39 gk39 hk39
            refine sm_lp (fun (k' : Nat → Nat → Option (Nat × Sy)) (k : Int32 → Int32 → Option (Int32 × Zh)) => ∀ (c40 : Nat) (x40 : Int32) (c41 : Nat) (x41 : Int32), yI x40 c40 → yI x41 c41 → Sm (fun b a => yI a.1 b.1 ∧ syR ι e h0 b.2 a.2) (k' c40 c41) (k x40 x41)) ?_ ?_ zFU _ _ _ _ q24 (yI_lit 0)
            · exact fun _ _ _ _ _ _ => sm_none
            intro k42 gk42 hk42
            intro c40 x40 c41 x41 q40 q41
            unfold sX12_exchange_L3 gX12_exchange_L3
            refine sm_if (sy_le32 (yI_lit 8) q41) ?_ ?_
            · exact hk39 _ _ q40
            · refine sm_rR qt36 q0 rfl (fun _ c43 q43 => ?_)
              refine sm_dr q43 (fun _ a44 q44 => ?_)
              refine sm_in qt36 q44 q41 (fun p45 q45 => ?_)
              refine sm_rJ qt36 q44 q45 (fun c46 q46 => ?_)
              refine sm_rR qt36 q0 rfl (fun _ c47 q47 => ?_)
              refine sm_dr q47 (fun _ a48 q48 => ?_)
              refine sm_in qt36 q48 q41 (fun p49 q49 => ?_)
              refine sm_rJ qt36 q48 q49 (fun c50 q50 => ?_)
              refine sm_jn (fun (k' : Nat → Option (Nat × Sy)) (k : Int32 → Option (Int32 × Zh)) => ∀ (c51 : Nat) (x51 : Int32), yI x51 c51 → Sm (fun b a => yI a.1 b.1 ∧ syR ι e h0 b.2 a.2) (k' c51) (k x51)) ?_ ?_
              · intro c51 x51 q51
                unfold sX12_exchange_J2 gX12_exchange_J2
                refine sm_lti (yI_add q40 q51) (fun _ c52 q52 => ?_)
                refine sm_f ?_
                exact hk42 _ _ _ _ q52 (yI_add q41 (yI_lit 1))
              intro k54 gk54 hk54
              refine sm_if (sy_eq32 (yI_cmp q46 q50) (yI_lit 0)) ?_ ?_
              · exact hk54 _ _ (yI_lit 0)
              · exact hk54 _ _ (yI_lit 1)
          intro k55 gk55 hk55
          refine sm_lp (fun (k' : Nat → Sy → Option (Nat × Sy)) (k : Int32 → Zh → Option (Int32 × Zh)) => ∀ (c56 : Nat) (x56 : Int32) (t57 : Sy) (h57 : Zh), yI x56 c56 → syR ι e h0 t57 h57 → Sm (fun b a => yI a.1 b.1 ∧ syR ι e h0 b.2 a.2) (k' c56 t57) (k x56 h57)) ?_ ?_ zFU _ _ _ _ (yI_lit 0) qt31
          · exact fun _ _ _ _ _ _ => sm_none
          intro k58 gk58 hk58
          intro c56 x56 t57 h57 q56 qt57
          unfold sX12_exchange_L5 gX12_exchange_L5
          refine sm_if (sy_le32 (yI_lit 8) q56) ?_ ?_
          · exact hk55 _ _ qt57
          · refine sm_rR qt57 q0 rfl (fun _ c59 q59 => ?_)
            refine sm_rR qt57 q0 rfl (fun _ c60 q60 => ?_)
            refine sm_dr q60 (fun _ a61 q61 => ?_)
            refine sm_in qt57 q61 q56 (fun p62 q62 => ?_)
            refine sm_rJ qt57 q61 q62 (fun c63 q63 => ?_)
            refine sm_dr q59 (fun _ a64 q64 => ?_)
            refine sm_in qt57 q64 q56 (fun p65 q65 => ?_)
            refine sm_wJ hι qt57 q64 q65 q63 (fun _ t66 qt66 => ?_)
            refine sm_f ?_
            exact hk58 _ _ _ _ (yI_add q56 (yI_lit 1)) qt66
      · exact sm_some ⟨(show yI (-1) 4294967295 from by unfold yI; decide), qt⟩
    · exact sm_some ⟨(show yI (-1) 4294967295 from by unfold yI; decide), qt⟩
  · exact sm_some ⟨(show yI (-1) 4294967295 from by unfold yI; decide), qt⟩
noncomputable def sX12_noSum (c0 : Nat) : Option (Nat) :=
  sbi (sX12_in (sy2l c0) 0 3) (fun c21 => syc (Nat.beq (Nat.mod c21 4294967296) (Nat.mod 0 4294967296)) (some 1)
  (some 0))
theorem sX12_noSum_ok {x0 : Int32} {c0 : Nat} (q0 : yI x0 c0) : Sm (fun b a => yI a b) (sX12_noSum c0) (gX12_noSum x0) := by
  unfold sX12_noSum gX12_noSum
  refine sm_bi (sX12_in_ok (yJ_i2l q0) (yJ_lit 0) (yJ_lit 3)) (fun _ c21 q21 => ?_)
  refine sm_if (sy_eq32 q21 (yI_lit 0)) ?_ ?_
  · exact sm_some (yI_lit 1)
  · exact sm_some (yI_lit 0)
noncomputable def sX12_startSum_L1 (e : Se) (a0 : Nat) : (Nat → Sy → Option (Sy)) → Nat → Sy → Option (Sy) :=
  fun (k23 : Nat → Sy → Option (Sy)) (c21 : Nat) (t22 : Sy) => syc (Nat.ble (syo32 65536) (syo32 c21)) (some t22)
  (srR t22 a0 33 (fun c24 => syr c24 (fun a25 => syi e a25 c21 (fun p26 => swJ e t22 a25 p26 0 (fun t27 => srR t27 a0 34 (fun c28 => syr c28 (fun a29 => syi e a29 c21 (fun p30 => swJ e t27 a29 p30 0 (fun t31 => syf (Nat.add c21 1) (fun c32 => k23 c32 t31))))))))))
noncomputable def sX12_startSum (e : Se) (t : Sy) (a0 : Nat) : Option (Sy) :=
  syl (fun _ _ => (none : Option (Sy))) (sX12_startSum_L1 e a0) zFU 0 t
theorem sX12_startSum_ok {ι : Nat → Nat} {e : Se} {h0 h : Zh} {t : Sy} (hι : ∀ a b, ι a = ι b → a = b) (qt : syR ι e h0 t h) {x0 : Nat} {a0 : Nat} (q0 : yA ι x0 a0) : Sm (fun b a => syR ι e h0 b a) (sX12_startSum e t a0) (gX12_startSum h x0) := by
  unfold sX12_startSum gX12_startSum
  refine sm_lp (fun (k' : Nat → Sy → Option (Sy)) (k : Int32 → Zh → Option (Zh)) => ∀ (c21 : Nat) (x21 : Int32) (t22 : Sy) (h22 : Zh), yI x21 c21 → syR ι e h0 t22 h22 → Sm (fun b a => syR ι e h0 b a) (k' c21 t22) (k x21 h22)) ?_ ?_ zFU _ _ _ _ (yI_lit 0) qt
  · exact fun _ _ _ _ _ _ => sm_none
  intro k23 gk23 hk23
  intro c21 x21 t22 h22 q21 qt22
  unfold sX12_startSum_L1 gX12_startSum_L1
  refine sm_if (sy_le32 (yI_lit 65536) q21) ?_ ?_
  · exact sm_some qt22
  · refine sm_rR qt22 q0 rfl (fun _ c24 q24 => ?_)
    refine sm_dr q24 (fun _ a25 q25 => ?_)
    refine sm_in qt22 q25 q21 (fun p26 q26 => ?_)
    refine sm_wJ hι qt22 q25 q26 (yJ_lit 0) (fun _ t27 qt27 => ?_)
    refine sm_rR qt27 q0 rfl (fun _ c28 q28 => ?_)
    refine sm_dr q28 (fun _ a29 q29 => ?_)
    refine sm_in qt27 q29 q21 (fun p30 q30 => ?_)
    refine sm_wJ hι qt27 q29 q30 (yJ_lit 0) (fun _ t31 qt31 => ?_)
    refine sm_f ?_
    exact hk23 _ _ _ _ (yI_add q21 (yI_lit 1)) qt31
noncomputable def sX12_takeSum_L1 (e : Se) (a0 : Nat) (c1 : Nat) (c2 : Nat) : (Nat → Sy → Option (Sy)) → Nat → Sy → Option (Sy) :=
  fun (k24 : Nat → Sy → Option (Sy)) (c22 : Nat) (t23 : Sy) => srR t23 a0 29 (fun c25 => syr c25 (fun a26 => syi e a26 c1 (fun p27 => srI t23 a26 p27 (fun c28 => syc (Nat.ble (syo32 (Nat.add (Nat.mul 60 c1) c28)) (syo32 c22)) (some t23)
  (srR t23 a0 33 (fun c29 => srR t23 a0 30 (fun c30 => syr c30 (fun a31 => syi e a31 c22 (fun p32 => srI t23 a31 p32 (fun c33 => syr c29 (fun a35 => syi e a35 c33 (fun p36 => srJ t23 a35 p36 (fun c37 => srR t23 a0 31 (fun c38 => syr c38 (fun a39 => syi e a39 c22 (fun p40 => srI t23 a39 p40 (fun c41 => syi e a35 c33 (fun p42 => swJ e t23 a35 p42 (Nat.add c37 (sy2l (Nat.mul c2 c41))) (fun t43 => srR t43 a0 34 (fun c44 => srR t43 a0 30 (fun c45 => syr c45 (fun a46 => syi e a46 c22 (fun p47 => srI t43 a46 p47 (fun c48 => syr c44 (fun a50 => syi e a50 c48 (fun p51 => srJ t43 a50 p51 (fun c52 => srR t43 a0 32 (fun c53 => syr c53 (fun a54 => syi e a54 c22 (fun p55 => srI t43 a54 p55 (fun c56 => syi e a50 c48 (fun p57 => swJ e t43 a50 p57 (Nat.add c52 (sy2l (Nat.mul c2 c56))) (fun t58 => syf (Nat.add c22 1) (fun c59 => k24 c59 t58))))))))))))))))))))))))))))))))))
noncomputable def sX12_takeSum (e : Se) (t : Sy) (a0 : Nat) (c1 : Nat) (c2 : Nat) : Option (Sy) :=
  syf (Nat.mul 60 c1) (fun c21 => syl (fun _ _ => (none : Option (Sy))) (sX12_takeSum_L1 e a0 c1 c2) zFU c21 t)
theorem sX12_takeSum_ok {ι : Nat → Nat} {e : Se} {h0 h : Zh} {t : Sy} (hι : ∀ a b, ι a = ι b → a = b) (qt : syR ι e h0 t h) {x0 : Nat} {a0 : Nat} {x1 : Int32} {c1 : Nat} {x2 : Int32} {c2 : Nat} (q0 : yA ι x0 a0) (q1 : yI x1 c1) (q2 : yI x2 c2) : Sm (fun b a => syR ι e h0 b a) (sX12_takeSum e t a0 c1 c2) (gX12_takeSum h x0 x1 x2) := by
  unfold sX12_takeSum gX12_takeSum
  refine sm_lti (yI_mul (yI_lit 60) q1) (fun _ c21 q21 => ?_)
  refine sm_lp (fun (k' : Nat → Sy → Option (Sy)) (k : Int32 → Zh → Option (Zh)) => ∀ (c22 : Nat) (x22 : Int32) (t23 : Sy) (h23 : Zh), yI x22 c22 → syR ι e h0 t23 h23 → Sm (fun b a => syR ι e h0 b a) (k' c22 t23) (k x22 h23)) ?_ ?_ zFU _ _ _ _ q21 qt
  · exact fun _ _ _ _ _ _ => sm_none
  intro k24 gk24 hk24
  intro c22 x22 t23 h23 q22 qt23
  unfold sX12_takeSum_L1 gX12_takeSum_L1
  refine sm_rR qt23 q0 rfl (fun _ c25 q25 => ?_)
  refine sm_dr q25 (fun _ a26 q26 => ?_)
  refine sm_in qt23 q26 q1 (fun p27 q27 => ?_)
  refine sm_rI qt23 q26 q27 (fun c28 q28 => ?_)
  refine sm_if (sy_le32 (yI_add (yI_mul (yI_lit 60) q1) q28) q22) ?_ ?_
  · exact sm_some qt23
  · refine sm_rR qt23 q0 rfl (fun _ c29 q29 => ?_)
    refine sm_rR qt23 q0 rfl (fun _ c30 q30 => ?_)
    refine sm_dr q30 (fun _ a31 q31 => ?_)
    refine sm_in qt23 q31 q22 (fun p32 q32 => ?_)
    refine sm_rI qt23 q31 q32 (fun c33 q33 => ?_)
    refine sm_lt0i q33 (fun _ q34 => ?_)
    refine sm_dr q29 (fun _ a35 q35 => ?_)
    refine sm_in qt23 q35 q34 (fun p36 q36 => ?_)
    refine sm_rJ qt23 q35 q36 (fun c37 q37 => ?_)
    refine sm_rR qt23 q0 rfl (fun _ c38 q38 => ?_)
    refine sm_dr q38 (fun _ a39 q39 => ?_)
    refine sm_in qt23 q39 q22 (fun p40 q40 => ?_)
    refine sm_rI qt23 q39 q40 (fun c41 q41 => ?_)
    refine sm_in qt23 q35 q34 (fun p42 q42 => ?_)
    refine sm_wJ hι qt23 q35 q42 (yJ_add q37 (yJ_i2l (yI_mul q2 q41))) (fun _ t43 qt43 => ?_)
    refine sm_rR qt43 q0 rfl (fun _ c44 q44 => ?_)
    refine sm_rR qt43 q0 rfl (fun _ c45 q45 => ?_)
    refine sm_dr q45 (fun _ a46 q46 => ?_)
    refine sm_in qt43 q46 q22 (fun p47 q47 => ?_)
    refine sm_rI qt43 q46 q47 (fun c48 q48 => ?_)
    refine sm_lt0i q48 (fun _ q49 => ?_)
    refine sm_dr q44 (fun _ a50 q50 => ?_)
    refine sm_in qt43 q50 q49 (fun p51 q51 => ?_)
    refine sm_rJ qt43 q50 q51 (fun c52 q52 => ?_)
    refine sm_rR qt43 q0 rfl (fun _ c53 q53 => ?_)
    refine sm_dr q53 (fun _ a54 q54 => ?_)
    refine sm_in qt43 q54 q22 (fun p55 q55 => ?_)
    refine sm_rI qt43 q54 q55 (fun c56 q56 => ?_)
    refine sm_in qt43 q50 q49 (fun p57 q57 => ?_)
    refine sm_wJ hι qt43 q50 q57 (yJ_add q52 (yJ_i2l (yI_mul q2 q56))) (fun _ t58 qt58 => ?_)
    refine sm_f ?_
    exact hk24 _ _ _ _ (yI_add q22 (yI_lit 1)) qt58
noncomputable def sX12_phase_J1 : Nat → Option (Nat) :=
  fun (c21 : Nat) => syc (Nat.beq (Nat.mod 4 4294967296) (Nat.mod 0 4294967296)) none (some (Nat.add c21 (syn32 (Nat.mul (syd 4294967296 (Nat.mod c21 4294967296) (Nat.mod 4 4294967296)) 4))))
noncomputable def sX12_phase_J2 (c23 : Nat) (c24 : Nat) (k25 : Nat → Nat → Option (Nat)) : Nat → Option (Nat) :=
  fun (c30 : Nat) => syf (Nat.add c23 c30) (fun c31 => syf (Nat.add c24 1) (fun c32 => k25 c31 c32))
noncomputable def sX12_phase_J3 (c23 : Nat) (c24 : Nat) (k25 : Nat → Nat → Option (Nat)) (c28 : Nat) : Nat → Option (Nat) :=
  fun (c29 : Nat) => zjn (sX12_phase_J2 c23 c24 k25) (fun (k33 : Nat → Option (Nat)) =>
  syc (Nat.beq (Nat.mod c28 4294967296) (Nat.mod 0 4294967296)) (syc (Nat.beq (Nat.mod c29 4294967296) (Nat.mod 0 4294967296)) (k33 0)
  (k33 3))
  (k33 1))
noncomputable def sX12_phase_J4 (k34 : Nat → Option (Nat)) : Option (Nat) :=
  k34 1
noncomputable def sX12_phase_J5 (k34 : Nat → Option (Nat)) : Option (Nat) :=
  k34 0
noncomputable def sX12_phase_J6 (c26 : Nat) (c27 : Nat) (k34 : Nat → Option (Nat)) (k35 : Option (Nat)) : Option (Nat) :=
  zjn (sX12_phase_J5 k34) (fun (k36 : Option (Nat)) =>
  syc (Nat.beq (Nat.mod c26 4294967296) (Nat.mod 1 4294967296)) (syc (Nat.beq (Nat.mod c27 4294967296) (Nat.mod 2 4294967296)) (k35)
  (k36))
  (k36))
noncomputable def sX12_phase_J7 (c26 : Nat) (c27 : Nat) (k34 : Nat → Option (Nat)) (k35 : Option (Nat)) : Option (Nat) :=
  zjn (sX12_phase_J6 c26 c27 k34 k35) (fun (k37 : Option (Nat)) =>
  syc (Nat.beq (Nat.mod c26 4294967296) (Nat.mod 2 4294967296)) (syc (Nat.beq (Nat.mod c27 4294967296) (Nat.mod 3 4294967296)) (k35)
  (k37))
  (k37))
noncomputable def sX12_phase_J8 (c23 : Nat) (c24 : Nat) (k25 : Nat → Nat → Option (Nat)) (c26 : Nat) (c27 : Nat) : Nat → Option (Nat) :=
  fun (c28 : Nat) => zjn (sX12_phase_J3 c23 c24 k25 c28) (fun (k34 : Nat → Option (Nat)) =>
  zjn (sX12_phase_J4 k34) (fun (k35 : Option (Nat)) =>
  zjn (sX12_phase_J7 c26 c27 k34 k35) (fun (k38 : Option (Nat)) =>
  syc (Nat.beq (Nat.mod c26 4294967296) (Nat.mod 3 4294967296)) (syc (Nat.beq (Nat.mod c27 4294967296) (Nat.mod 1 4294967296)) (k35)
  (k38))
  (k38))))
noncomputable def sX12_phase_J9 (k39 : Nat → Option (Nat)) : Option (Nat) :=
  k39 1
noncomputable def sX12_phase_J10 (k39 : Nat → Option (Nat)) : Option (Nat) :=
  k39 0
noncomputable def sX12_phase_J11 (c26 : Nat) (c27 : Nat) (k39 : Nat → Option (Nat)) (k40 : Option (Nat)) : Option (Nat) :=
  zjn (sX12_phase_J10 k39) (fun (k41 : Option (Nat)) =>
  syc (Nat.beq (Nat.mod c26 4294967296) (Nat.mod 2 4294967296)) (syc (Nat.beq (Nat.mod c27 4294967296) (Nat.mod 1 4294967296)) (k40)
  (k41))
  (k41))
noncomputable def sX12_phase_J12 (c26 : Nat) (c27 : Nat) (k39 : Nat → Option (Nat)) (k40 : Option (Nat)) : Option (Nat) :=
  zjn (sX12_phase_J11 c26 c27 k39 k40) (fun (k42 : Option (Nat)) =>
  syc (Nat.beq (Nat.mod c26 4294967296) (Nat.mod 3 4294967296)) (syc (Nat.beq (Nat.mod c27 4294967296) (Nat.mod 2 4294967296)) (k40)
  (k42))
  (k42))
noncomputable def sX12_phase_L13 (c0 : Nat) (c1 : Nat) (k22 : Nat → Option (Nat)) : (Nat → Nat → Option (Nat)) → Nat → Nat → Option (Nat) :=
  fun (k25 : Nat → Nat → Option (Nat)) (c23 : Nat) (c24 : Nat) => syc (Nat.ble (syo32 8) (syo32 c24)) (k22 c23)
  (syf (Nat.add (Nat.land (sysr c0 (Nat.add 8 c24)) 1) (Nat.mul 2 (Nat.land (sysr c0 c24) 1))) (fun c26 => syf (Nat.add (Nat.land (sysr c1 (Nat.add 8 c24)) 1) (Nat.mul 2 (Nat.land (sysr c1 c24) 1))) (fun c27 => zjn (sX12_phase_J8 c23 c24 k25 c26 c27) (fun (k39 : Nat → Option (Nat)) =>
  zjn (sX12_phase_J9 k39) (fun (k40 : Option (Nat)) =>
  zjn (sX12_phase_J12 c26 c27 k39 k40) (fun (k43 : Option (Nat)) =>
  syc (Nat.beq (Nat.mod c26 4294967296) (Nat.mod 1 4294967296)) (syc (Nat.beq (Nat.mod c27 4294967296) (Nat.mod 3 4294967296)) (k40)
  (k43))
  (k43)))))))
noncomputable def sX12_phase (c0 : Nat) (c1 : Nat) : Option (Nat) :=
  zjn sX12_phase_J1 (fun (k22 : Nat → Option (Nat)) =>
  syl (fun _ _ => (none : Option (Nat))) (sX12_phase_L13 c0 c1 k22) zFU 0 0)
theorem sX12_phase_ok {x0 : Int32} {c0 : Nat} {x1 : Int32} {c1 : Nat} (q0 : yI x0 c0) (q1 : yI x1 c1) : Sm (fun b a => yI a b) (sX12_phase c0 c1) (gX12_phase x0 x1) := by
  unfold sX12_phase gX12_phase
  refine sm_jn (fun (k' : Nat → Option (Nat)) (k : Int32 → Option (Int32)) => ∀ (c21 : Nat) (x21 : Int32), yI x21 c21 → Sm (fun b a => yI a b) (k' c21) (k x21)) ?_ ?_
  · intro c21 x21 q21
    unfold sX12_phase_J1 gX12_phase_J1
    refine sm_if (sy_eq32 (yI_lit 4) (yI_lit 0)) sm_none ?_
    exact sm_some (yI_sub q21 (yI_mul (yI_div q21 (yI_lit 4)) (yI_lit 4)))
  intro k22 gk22 hk22
  refine sm_lp (fun (k' : Nat → Nat → Option (Nat)) (k : Int32 → Int32 → Option (Int32)) => ∀ (c23 : Nat) (x23 : Int32) (c24 : Nat) (x24 : Int32), yI x23 c23 → yI x24 c24 → Sm (fun b a => yI a b) (k' c23 c24) (k x23 x24)) ?_ ?_ zFU _ _ _ _ (yI_lit 0) (yI_lit 0)
  · exact fun _ _ _ _ _ _ => sm_none
  intro k25 gk25 hk25
  intro c23 x23 c24 x24 q23 q24
  unfold sX12_phase_L13 gX12_phase_L13
  refine sm_if (sy_le32 (yI_lit 8) q24) ?_ ?_
  · exact hk22 _ _ q23
  · refine sm_lti (yI_add (yI_and (yI_shr q0 (yI_add (yI_lit 8) q24)) (yI_lit 1)) (yI_mul (yI_lit 2) (yI_and (yI_shr q0 q24) (yI_lit 1)))) (fun _ c26 q26 => ?_)
    refine sm_lti (yI_add (yI_and (yI_shr q1 (yI_add (yI_lit 8) q24)) (yI_lit 1)) (yI_mul (yI_lit 2) (yI_and (yI_shr q1 q24) (yI_lit 1)))) (fun _ c27 q27 => ?_)
    refine sm_jn (fun (k' : Nat → Option (Nat)) (k : Int32 → Option (Int32)) => ∀ (c28 : Nat) (x28 : Int32), yI x28 c28 → Sm (fun b a => yI a b) (k' c28) (k x28)) ?_ ?_
    · intro c28 x28 q28
      unfold sX12_phase_J8 gX12_phase_J8
      refine sm_jn (fun (k' : Nat → Option (Nat)) (k : Int32 → Option (Int32)) => ∀ (c29 : Nat) (x29 : Int32), yI x29 c29 → Sm (fun b a => yI a b) (k' c29) (k x29)) ?_ ?_
      · intro c29 x29 q29
        unfold sX12_phase_J3 gX12_phase_J3
        refine sm_jn (fun (k' : Nat → Option (Nat)) (k : Int32 → Option (Int32)) => ∀ (c30 : Nat) (x30 : Int32), yI x30 c30 → Sm (fun b a => yI a b) (k' c30) (k x30)) ?_ ?_
        · intro c30 x30 q30
          unfold sX12_phase_J2 gX12_phase_J2
          refine sm_lti (yI_add q23 q30) (fun _ c31 q31 => ?_)
          refine sm_f ?_
          exact hk25 _ _ _ _ q31 (yI_add q24 (yI_lit 1))
        intro k33 gk33 hk33
        refine sm_if (sy_eq32 q28 (yI_lit 0)) ?_ ?_
        · refine sm_if (sy_eq32 q29 (yI_lit 0)) ?_ ?_
          · exact hk33 _ _ (yI_lit 0)
          · exact hk33 _ _ (yI_lit 3)
        · exact hk33 _ _ (yI_lit 1)
      intro k34 gk34 hk34
      refine sm_jn (fun (k' : Option (Nat)) (k : Option (Int32)) => Sm (fun b a => yI a b) k' k) ?_ ?_
      · skip
        unfold sX12_phase_J4 gX12_phase_J4
        exact hk34 _ _ (yI_lit 1)
      intro k35 gk35 hk35
      refine sm_jn (fun (k' : Option (Nat)) (k : Option (Int32)) => Sm (fun b a => yI a b) k' k) ?_ ?_
      · skip
        unfold sX12_phase_J7 gX12_phase_J7
        refine sm_jn (fun (k' : Option (Nat)) (k : Option (Int32)) => Sm (fun b a => yI a b) k' k) ?_ ?_
        · skip
          unfold sX12_phase_J6 gX12_phase_J6
          refine sm_jn (fun (k' : Option (Nat)) (k : Option (Int32)) => Sm (fun b a => yI a b) k' k) ?_ ?_
          · skip
            unfold sX12_phase_J5 gX12_phase_J5
            exact hk34 _ _ (yI_lit 0)
          intro k36 gk36 hk36
          refine sm_if (sy_eq32 q26 (yI_lit 1)) ?_ ?_
          · refine sm_if (sy_eq32 q27 (yI_lit 2)) ?_ ?_
            · exact hk35
            · exact hk36
          · exact hk36
        intro k37 gk37 hk37
        refine sm_if (sy_eq32 q26 (yI_lit 2)) ?_ ?_
        · refine sm_if (sy_eq32 q27 (yI_lit 3)) ?_ ?_
          · exact hk35
          · exact hk37
        · exact hk37
      intro k38 gk38 hk38
      refine sm_if (sy_eq32 q26 (yI_lit 3)) ?_ ?_
      · refine sm_if (sy_eq32 q27 (yI_lit 1)) ?_ ?_
        · exact hk35
        · exact hk38
      · exact hk38
    intro k39 gk39 hk39
    refine sm_jn (fun (k' : Option (Nat)) (k : Option (Int32)) => Sm (fun b a => yI a b) k' k) ?_ ?_
    · skip
      unfold sX12_phase_J9 gX12_phase_J9
      exact hk39 _ _ (yI_lit 1)
    intro k40 gk40 hk40
    refine sm_jn (fun (k' : Option (Nat)) (k : Option (Int32)) => Sm (fun b a => yI a b) k' k) ?_ ?_
    · skip
      unfold sX12_phase_J12 gX12_phase_J12
      refine sm_jn (fun (k' : Option (Nat)) (k : Option (Int32)) => Sm (fun b a => yI a b) k' k) ?_ ?_
      · skip
        unfold sX12_phase_J11 gX12_phase_J11
        refine sm_jn (fun (k' : Option (Nat)) (k : Option (Int32)) => Sm (fun b a => yI a b) k' k) ?_ ?_
        · skip
          unfold sX12_phase_J10 gX12_phase_J10
          exact hk39 _ _ (yI_lit 0)
        intro k41 gk41 hk41
        refine sm_if (sy_eq32 q26 (yI_lit 2)) ?_ ?_
        · refine sm_if (sy_eq32 q27 (yI_lit 1)) ?_ ?_
          · exact hk40
          · exact hk41
        · exact hk41
      intro k42 gk42 hk42
      refine sm_if (sy_eq32 q26 (yI_lit 3)) ?_ ?_
      · refine sm_if (sy_eq32 q27 (yI_lit 2)) ?_ ?_
        · exact hk40
        · exact hk42
      · exact hk42
    intro k43 gk43 hk43
    refine sm_if (sy_eq32 q26 (yI_lit 1)) ?_ ?_
    · refine sm_if (sy_eq32 q27 (yI_lit 3)) ?_ ?_
      · exact hk40
      · exact hk43
    · exact hk43
noncomputable def sX12_takeProduct_J1 (c22 : Nat) (k24 : Nat → Sy → Option (Sy)) : Sy → Option (Sy) :=
  fun (t30 : Sy) => syf (Nat.add c22 1) (fun c31 => k24 c31 t30)
noncomputable def sX12_takeProduct_J2 (e : Se) (c3 : Nat) (c33 : Nat) (k35 : Nat → Sy → Option (Sy)) (c91 : Nat) (t98 : Sy) (a100 : Nat) (c102 : Nat) : Nat → Option (Sy) :=
  fun (c103 : Nat) => syi e a100 c91 (fun p104 => swJ e t98 a100 p104 (Nat.add c102 (Nat.mul (sy2l c3) c103)) (fun t105 => syf (Nat.add c33 1) (fun c106 => k35 c106 t105)))
noncomputable def sX12_takeProduct_J3 (e : Se) (a0 : Nat) (c3 : Nat) (c33 : Nat) (t34 : Sy) (k35 : Nat → Sy → Option (Sy)) (c56 : Nat) (c73 : Nat) (c82 : Nat) (c91 : Nat) (a93 : Nat) (c95 : Nat) : Nat → Option (Sy) :=
  fun (c96 : Nat) => syi e a93 c91 (fun p97 => swJ e t34 a93 p97 (Nat.add c95 (Nat.mul (sy2l c3) c96)) (fun t98 => srR t98 a0 34 (fun c99 => syr c99 (fun a100 => syi e a100 c91 (fun p101 => srJ t98 a100 p101 (fun c102 => zjn (sX12_takeProduct_J2 e c3 c33 k35 c91 t98 a100 c102) (fun (k107 : Nat → Option (Sy)) =>
  syc (Nat.beq (Nat.mod c82 4294967296) (Nat.mod 0 4294967296)) (k107 c73)
  (syc (Nat.beq (Nat.mod c82 4294967296) (Nat.mod 1 4294967296)) (k107 c56)
  (syc (Nat.beq (Nat.mod c82 4294967296) (Nat.mod 2 4294967296)) (syf (syn64 c73) (fun c109 => k107 c109))
  (syf (syn64 c56) (fun c108 => k107 c108)))))))))))
noncomputable def sX12_takeProduct_L4 (e : Se) (a0 : Nat) (c2 : Nat) (c3 : Nat) (c22 : Nat) (k32 : Sy → Option (Sy)) : (Nat → Sy → Option (Sy)) → Nat → Sy → Option (Sy) :=
  fun (k35 : Nat → Sy → Option (Sy)) (c33 : Nat) (t34 : Sy) => srR t34 a0 29 (fun c36 => syr c36 (fun a37 => syi e a37 c2 (fun p38 => srI t34 a37 p38 (fun c39 => syc (Nat.ble (syo32 (Nat.add (Nat.mul 60 c2) c39)) (syo32 c33)) (k32 t34)
  (srR t34 a0 31 (fun c40 => syr c40 (fun a41 => syi e a41 c22 (fun p42 => srI t34 a41 p42 (fun c43 => srR t34 a0 31 (fun c44 => syr c44 (fun a45 => syi e a45 c33 (fun p46 => srI t34 a45 p46 (fun c47 => srR t34 a0 32 (fun c48 => syr c48 (fun a49 => syi e a49 c22 (fun p50 => srI t34 a49 p50 (fun c51 => srR t34 a0 32 (fun c52 => syr c52 (fun a53 => syi e a53 c33 (fun p54 => srI t34 a53 p54 (fun c55 => syf (Nat.add (Nat.mul (sy2l c43) (sy2l c47)) (syn64 (Nat.mul (sy2l c51) (sy2l c55)))) (fun c56 => srR t34 a0 31 (fun c57 => syr c57 (fun a58 => syi e a58 c22 (fun p59 => srI t34 a58 p59 (fun c60 => srR t34 a0 32 (fun c61 => syr c61 (fun a62 => syi e a62 c33 (fun p63 => srI t34 a62 p63 (fun c64 => srR t34 a0 32 (fun c65 => syr c65 (fun a66 => syi e a66 c22 (fun p67 => srI t34 a66 p67 (fun c68 => srR t34 a0 31 (fun c69 => syr c69 (fun a70 => syi e a70 c33 (fun p71 => srI t34 a70 p71 (fun c72 => syf (Nat.add (Nat.mul (sy2l c60) (sy2l c64)) (Nat.mul (sy2l c68) (sy2l c72))) (fun c73 => srR t34 a0 30 (fun c74 => syr c74 (fun a75 => syi e a75 c22 (fun p76 => srI t34 a75 p76 (fun c77 => srR t34 a0 30 (fun c78 => syr c78 (fun a79 => syi e a79 c33 (fun p80 => srI t34 a79 p80 (fun c81 => sbi (sX12_phase c77 c81) (fun c82 => srR t34 a0 30 (fun c83 => syr c83 (fun a84 => syi e a84 c22 (fun p85 => srI t34 a84 p85 (fun c86 => srR t34 a0 30 (fun c87 => syr c87 (fun a88 => syi e a88 c33 (fun p89 => srI t34 a88 p89 (fun c90 => syf (Nat.xor c86 c90) (fun c91 => srR t34 a0 33 (fun c92 => syr c92 (fun a93 => syi e a93 c91 (fun p94 => srJ t34 a93 p94 (fun c95 => zjn (sX12_takeProduct_J3 e a0 c3 c33 t34 k35 c56 c73 c82 c91 a93 c95) (fun (k110 : Nat → Option (Sy)) =>
  syc (Nat.beq (Nat.mod c82 4294967296) (Nat.mod 0 4294967296)) (k110 c56)
  (syc (Nat.beq (Nat.mod c82 4294967296) (Nat.mod 1 4294967296)) (syf (syn64 c73) (fun c112 => k110 c112))
  (syc (Nat.beq (Nat.mod c82 4294967296) (Nat.mod 2 4294967296)) (syf (syn64 c56) (fun c111 => k110 c111))
  (k110 c73)))))))))))))))))))))))))))))))))))))))))))))))))))))))))))))))))
noncomputable def sX12_takeProduct_L5 (e : Se) (a0 : Nat) (c1 : Nat) (c2 : Nat) (c3 : Nat) : (Nat → Sy → Option (Sy)) → Nat → Sy → Option (Sy) :=
  fun (k24 : Nat → Sy → Option (Sy)) (c22 : Nat) (t23 : Sy) => srR t23 a0 29 (fun c25 => syr c25 (fun a26 => syi e a26 c1 (fun p27 => srI t23 a26 p27 (fun c28 => syc (Nat.ble (syo32 (Nat.add (Nat.mul 60 c1) c28)) (syo32 c22)) (some t23)
  (syf (Nat.mul 60 c2) (fun c29 => zjn (sX12_takeProduct_J1 c22 k24) (fun (k32 : Sy → Option (Sy)) =>
  syl (fun _ _ => (none : Option (Sy))) (sX12_takeProduct_L4 e a0 c2 c3 c22 k32) zFU c29 t23)))))))
noncomputable def sX12_takeProduct (e : Se) (t : Sy) (a0 : Nat) (c1 : Nat) (c2 : Nat) (c3 : Nat) : Option (Sy) :=
  syf (Nat.mul 60 c1) (fun c21 => syl (fun _ _ => (none : Option (Sy))) (sX12_takeProduct_L5 e a0 c1 c2 c3) zFU c21 t)
theorem sX12_takeProduct_ok {ι : Nat → Nat} {e : Se} {h0 h : Zh} {t : Sy} (hι : ∀ a b, ι a = ι b → a = b) (qt : syR ι e h0 t h) {x0 : Nat} {a0 : Nat} {x1 : Int32} {c1 : Nat} {x2 : Int32} {c2 : Nat} {x3 : Int32} {c3 : Nat} (q0 : yA ι x0 a0) (q1 : yI x1 c1) (q2 : yI x2 c2) (q3 : yI x3 c3) : Sm (fun b a => syR ι e h0 b a) (sX12_takeProduct e t a0 c1 c2 c3) (gX12_takeProduct h x0 x1 x2 x3) := by
  unfold sX12_takeProduct gX12_takeProduct
  refine sm_lti (yI_mul (yI_lit 60) q1) (fun _ c21 q21 => ?_)
  refine sm_lp (fun (k' : Nat → Sy → Option (Sy)) (k : Int32 → Zh → Option (Zh)) => ∀ (c22 : Nat) (x22 : Int32) (t23 : Sy) (h23 : Zh), yI x22 c22 → syR ι e h0 t23 h23 → Sm (fun b a => syR ι e h0 b a) (k' c22 t23) (k x22 h23)) ?_ ?_ zFU _ _ _ _ q21 qt
  · exact fun _ _ _ _ _ _ => sm_none
  intro k24 gk24 hk24
  intro c22 x22 t23 h23 q22 qt23
  unfold sX12_takeProduct_L5 gX12_takeProduct_L5
  refine sm_rR qt23 q0 rfl (fun _ c25 q25 => ?_)
  refine sm_dr q25 (fun _ a26 q26 => ?_)
  refine sm_in qt23 q26 q1 (fun p27 q27 => ?_)
  refine sm_rI qt23 q26 q27 (fun c28 q28 => ?_)
  refine sm_if (sy_le32 (yI_add (yI_mul (yI_lit 60) q1) q28) q22) ?_ ?_
  · exact sm_some qt23
  · refine sm_lti (yI_mul (yI_lit 60) q2) (fun _ c29 q29 => ?_)
    refine sm_jn (fun (k' : Sy → Option (Sy)) (k : Zh → Option (Zh)) => ∀ (t30 : Sy) (h30 : Zh), syR ι e h0 t30 h30 → Sm (fun b a => syR ι e h0 b a) (k' t30) (k h30)) ?_ ?_
    · intro t30 h30 qt30
      unfold sX12_takeProduct_J1 gX12_takeProduct_J1
      refine sm_f ?_
      exact hk24 _ _ _ _ (yI_add q22 (yI_lit 1)) qt30
    intro k32 gk32 hk32
    refine sm_lp (fun (k' : Nat → Sy → Option (Sy)) (k : Int32 → Zh → Option (Zh)) => ∀ (c33 : Nat) (x33 : Int32) (t34 : Sy) (h34 : Zh), yI x33 c33 → syR ι e h0 t34 h34 → Sm (fun b a => syR ι e h0 b a) (k' c33 t34) (k x33 h34)) ?_ ?_ zFU _ _ _ _ q29 qt23
    · exact fun _ _ _ _ _ _ => sm_none
    intro k35 gk35 hk35
    intro c33 x33 t34 h34 q33 qt34
    unfold sX12_takeProduct_L4 gX12_takeProduct_L4
    refine sm_rR qt34 q0 rfl (fun _ c36 q36 => ?_)
    refine sm_dr q36 (fun _ a37 q37 => ?_)
    refine sm_in qt34 q37 q2 (fun p38 q38 => ?_)
    refine sm_rI qt34 q37 q38 (fun c39 q39 => ?_)
    refine sm_if (sy_le32 (yI_add (yI_mul (yI_lit 60) q2) q39) q33) ?_ ?_
    · exact hk32 _ _ qt34
    · refine sm_rR qt34 q0 rfl (fun _ c40 q40 => ?_)
      refine sm_dr q40 (fun _ a41 q41 => ?_)
      refine sm_in qt34 q41 q22 (fun p42 q42 => ?_)
      refine sm_rI qt34 q41 q42 (fun c43 q43 => ?_)
      refine sm_rR qt34 q0 rfl (fun _ c44 q44 => ?_)
      refine sm_dr q44 (fun _ a45 q45 => ?_)
      refine sm_in qt34 q45 q33 (fun p46 q46 => ?_)
      refine sm_rI qt34 q45 q46 (fun c47 q47 => ?_)
      refine sm_rR qt34 q0 rfl (fun _ c48 q48 => ?_)
      refine sm_dr q48 (fun _ a49 q49 => ?_)
      refine sm_in qt34 q49 q22 (fun p50 q50 => ?_)
      refine sm_rI qt34 q49 q50 (fun c51 q51 => ?_)
      refine sm_rR qt34 q0 rfl (fun _ c52 q52 => ?_)
      refine sm_dr q52 (fun _ a53 q53 => ?_)
      refine sm_in qt34 q53 q33 (fun p54 q54 => ?_)
      refine sm_rI qt34 q53 q54 (fun c55 q55 => ?_)
      refine sm_ltj (yJ_sub (yJ_mul (yJ_i2l q43) (yJ_i2l q47)) (yJ_mul (yJ_i2l q51) (yJ_i2l q55))) (fun _ c56 q56 => ?_)
      refine sm_rR qt34 q0 rfl (fun _ c57 q57 => ?_)
      refine sm_dr q57 (fun _ a58 q58 => ?_)
      refine sm_in qt34 q58 q22 (fun p59 q59 => ?_)
      refine sm_rI qt34 q58 q59 (fun c60 q60 => ?_)
      refine sm_rR qt34 q0 rfl (fun _ c61 q61 => ?_)
      refine sm_dr q61 (fun _ a62 q62 => ?_)
      refine sm_in qt34 q62 q33 (fun p63 q63 => ?_)
      refine sm_rI qt34 q62 q63 (fun c64 q64 => ?_)
      refine sm_rR qt34 q0 rfl (fun _ c65 q65 => ?_)
      refine sm_dr q65 (fun _ a66 q66 => ?_)
      refine sm_in qt34 q66 q22 (fun p67 q67 => ?_)
      refine sm_rI qt34 q66 q67 (fun c68 q68 => ?_)
      refine sm_rR qt34 q0 rfl (fun _ c69 q69 => ?_)
      refine sm_dr q69 (fun _ a70 q70 => ?_)
      refine sm_in qt34 q70 q33 (fun p71 q71 => ?_)
      refine sm_rI qt34 q70 q71 (fun c72 q72 => ?_)
      refine sm_ltj (yJ_add (yJ_mul (yJ_i2l q60) (yJ_i2l q64)) (yJ_mul (yJ_i2l q68) (yJ_i2l q72))) (fun _ c73 q73 => ?_)
      refine sm_rR qt34 q0 rfl (fun _ c74 q74 => ?_)
      refine sm_dr q74 (fun _ a75 q75 => ?_)
      refine sm_in qt34 q75 q22 (fun p76 q76 => ?_)
      refine sm_rI qt34 q75 q76 (fun c77 q77 => ?_)
      refine sm_rR qt34 q0 rfl (fun _ c78 q78 => ?_)
      refine sm_dr q78 (fun _ a79 q79 => ?_)
      refine sm_in qt34 q79 q33 (fun p80 q80 => ?_)
      refine sm_rI qt34 q79 q80 (fun c81 q81 => ?_)
      refine sm_bi (sX12_phase_ok q77 q81) (fun _ c82 q82 => ?_)
      refine sm_rR qt34 q0 rfl (fun _ c83 q83 => ?_)
      refine sm_dr q83 (fun _ a84 q84 => ?_)
      refine sm_in qt34 q84 q22 (fun p85 q85 => ?_)
      refine sm_rI qt34 q84 q85 (fun c86 q86 => ?_)
      refine sm_rR qt34 q0 rfl (fun _ c87 q87 => ?_)
      refine sm_dr q87 (fun _ a88 q88 => ?_)
      refine sm_in qt34 q88 q33 (fun p89 q89 => ?_)
      refine sm_rI qt34 q88 q89 (fun c90 q90 => ?_)
      refine sm_lti (yI_xor q86 q90) (fun _ c91 q91 => ?_)
      refine sm_rR qt34 q0 rfl (fun _ c92 q92 => ?_)
      refine sm_dr q92 (fun _ a93 q93 => ?_)
      refine sm_in qt34 q93 q91 (fun p94 q94 => ?_)
      refine sm_rJ qt34 q93 q94 (fun c95 q95 => ?_)
      refine sm_jn (fun (k' : Nat → Option (Sy)) (k : Int64 → Option (Zh)) => ∀ (c96 : Nat) (x96 : Int64), yJ x96 c96 → Sm (fun b a => syR ι e h0 b a) (k' c96) (k x96)) ?_ ?_
      · intro c96 x96 q96
        unfold sX12_takeProduct_J3 gX12_takeProduct_J3
        refine sm_in qt34 q93 q91 (fun p97 q97 => ?_)
        refine sm_wJ hι qt34 q93 q97 (yJ_add q95 (yJ_mul (yJ_i2l q3) q96)) (fun _ t98 qt98 => ?_)
        refine sm_rR qt98 q0 rfl (fun _ c99 q99 => ?_)
        refine sm_dr q99 (fun _ a100 q100 => ?_)
        refine sm_in qt98 q100 q91 (fun p101 q101 => ?_)
        refine sm_rJ qt98 q100 q101 (fun c102 q102 => ?_)
        refine sm_jn (fun (k' : Nat → Option (Sy)) (k : Int64 → Option (Zh)) => ∀ (c103 : Nat) (x103 : Int64), yJ x103 c103 → Sm (fun b a => syR ι e h0 b a) (k' c103) (k x103)) ?_ ?_
        · intro c103 x103 q103
          unfold sX12_takeProduct_J2 gX12_takeProduct_J2
          refine sm_in qt98 q100 q91 (fun p104 q104 => ?_)
          refine sm_wJ hι qt98 q100 q104 (yJ_add q102 (yJ_mul (yJ_i2l q3) q103)) (fun _ t105 qt105 => ?_)
          refine sm_f ?_
          exact hk35 _ _ _ _ (yI_add q33 (yI_lit 1)) qt105
        intro k107 gk107 hk107
        refine sm_if (sy_eq32 q82 (yI_lit 0)) ?_ ?_
        · exact hk107 _ _ q73
        · refine sm_if (sy_eq32 q82 (yI_lit 1)) ?_ ?_
          · exact hk107 _ _ q56
          · refine sm_if (sy_eq32 q82 (yI_lit 2)) ?_ ?_
            · refine sm_f ?_
              exact hk107 _ _ (yJ_neg q73)
            · refine sm_f ?_
              exact hk107 _ _ (yJ_neg q56)
      intro k110 gk110 hk110
      refine sm_if (sy_eq32 q82 (yI_lit 0)) ?_ ?_
      · exact hk110 _ _ q56
      · refine sm_if (sy_eq32 q82 (yI_lit 1)) ?_ ?_
        · refine sm_f ?_
          exact hk110 _ _ (yJ_neg q73)
        · refine sm_if (sy_eq32 q82 (yI_lit 2)) ?_ ?_
          · refine sm_f ?_
            exact hk110 _ _ (yJ_neg q56)
          · exact hk110 _ _ q73
noncomputable def sX12_madeWords_J1 (c21 : Nat) (c22 : Nat) (k23 : Nat → Nat → Option (Nat)) : Nat → Option (Nat) :=
  fun (c28 : Nat) => syf (Nat.add c21 c28) (fun c29 => syf (Nat.add c22 1) (fun c30 => k23 c29 c30))
noncomputable def sX12_madeWords_J2 (k31 : Nat → Option (Nat)) : Option (Nat) :=
  k31 1
noncomputable def sX12_madeWords_L3 (e : Se) (t : Sy) (a0 : Nat) : (Nat → Nat → Option (Nat)) → Nat → Nat → Option (Nat) :=
  fun (k23 : Nat → Nat → Option (Nat)) (c21 : Nat) (c22 : Nat) => syc (Nat.ble (syo32 65536) (syo32 c22)) (some c21)
  (srR t a0 33 (fun c24 => syr c24 (fun a25 => syi e a25 c22 (fun p26 => srJ t a25 p26 (fun c27 => zjn (sX12_madeWords_J1 c21 c22 k23) (fun (k31 : Nat → Option (Nat)) =>
  zjn (sX12_madeWords_J2 k31) (fun (k32 : Option (Nat)) =>
  syc (Nat.beq (Nat.mod (sycmp c27 0) 4294967296) (Nat.mod 0 4294967296)) (srR t a0 34 (fun c33 => syr c33 (fun a34 => syi e a34 c22 (fun p35 => srJ t a34 p35 (fun c36 => syc (Nat.beq (Nat.mod (sycmp c36 0) 4294967296) (Nat.mod 0 4294967296)) (k31 0)
  (k32))))))
  (k32))))))))
noncomputable def sX12_madeWords (e : Se) (t : Sy) (a0 : Nat) : Option (Nat) :=
  syl (fun _ _ => (none : Option (Nat))) (sX12_madeWords_L3 e t a0) zFU 0 0
theorem sX12_madeWords_ok {ι : Nat → Nat} {e : Se} {h0 h : Zh} {t : Sy} (hι : ∀ a b, ι a = ι b → a = b) (qt : syR ι e h0 t h) {x0 : Nat} {a0 : Nat} (q0 : yA ι x0 a0) : Sm (fun b a => yI a b) (sX12_madeWords e t a0) (gX12_madeWords h x0) := by
  unfold sX12_madeWords gX12_madeWords
  refine sm_lp (fun (k' : Nat → Nat → Option (Nat)) (k : Int32 → Int32 → Option (Int32)) => ∀ (c21 : Nat) (x21 : Int32) (c22 : Nat) (x22 : Int32), yI x21 c21 → yI x22 c22 → Sm (fun b a => yI a b) (k' c21 c22) (k x21 x22)) ?_ ?_ zFU _ _ _ _ (yI_lit 0) (yI_lit 0)
  · exact fun _ _ _ _ _ _ => sm_none
  intro k23 gk23 hk23
  intro c21 x21 c22 x22 q21 q22
  unfold sX12_madeWords_L3 gX12_madeWords_L3
  refine sm_if (sy_le32 (yI_lit 65536) q22) ?_ ?_
  · exact sm_some q21
  · refine sm_rR qt q0 rfl (fun _ c24 q24 => ?_)
    refine sm_dr q24 (fun _ a25 q25 => ?_)
    refine sm_in qt q25 q22 (fun p26 q26 => ?_)
    refine sm_rJ qt q25 q26 (fun c27 q27 => ?_)
    refine sm_jn (fun (k' : Nat → Option (Nat)) (k : Int32 → Option (Int32)) => ∀ (c28 : Nat) (x28 : Int32), yI x28 c28 → Sm (fun b a => yI a b) (k' c28) (k x28)) ?_ ?_
    · intro c28 x28 q28
      unfold sX12_madeWords_J1 gX12_madeWords_J1
      refine sm_lti (yI_add q21 q28) (fun _ c29 q29 => ?_)
      refine sm_f ?_
      exact hk23 _ _ _ _ q29 (yI_add q22 (yI_lit 1))
    intro k31 gk31 hk31
    refine sm_jn (fun (k' : Option (Nat)) (k : Option (Int32)) => Sm (fun b a => yI a b) k' k) ?_ ?_
    · skip
      unfold sX12_madeWords_J2 gX12_madeWords_J2
      exact hk31 _ _ (yI_lit 1)
    intro k32 gk32 hk32
    refine sm_if (sy_eq32 (yI_cmp q27 (yJ_lit 0)) (yI_lit 0)) ?_ ?_
    · refine sm_rR qt q0 rfl (fun _ c33 q33 => ?_)
      refine sm_dr q33 (fun _ a34 q34 => ?_)
      refine sm_in qt q34 q22 (fun p35 q35 => ?_)
      refine sm_rJ qt q34 q35 (fun c36 q36 => ?_)
      refine sm_if (sy_eq32 (yI_cmp q36 (yJ_lit 0)) (yI_lit 0)) ?_ ?_
      · exact hk31 _ _ (yI_lit 0)
      · exact hk32
    · exact hk32
noncomputable def sX12_isMadeSpent_J1 (c24 : Nat) (k25 : Nat → Nat → Option (Nat)) : Nat → Option (Nat) :=
  fun (c31 : Nat) => syf (Nat.add c24 1) (fun c32 => k25 c31 c32)
noncomputable def sX12_isMadeSpent_J2 (k33 : Nat → Option (Nat)) : Option (Nat) :=
  k33 1
noncomputable def sX12_isMadeSpent_L3 (e : Se) (t : Sy) (a0 : Nat) : (Nat → Nat → Option (Nat)) → Nat → Nat → Option (Nat) :=
  fun (k25 : Nat → Nat → Option (Nat)) (c23 : Nat) (c24 : Nat) => syc (Nat.ble (syo32 65536) (syo32 c24)) (syc (Nat.ble (Nat.mod c23 4294967296) 1) (some c23) none)
  (syc (Nat.beq (Nat.mod c23 4294967296) (Nat.mod 0 4294967296)) (srR t a0 33 (fun c26 => syr c26 (fun a27 => syi e a27 c24 (fun p28 => srJ t a27 p28 (fun c29 => sbj (sX12_sizeOf c29) (fun c30 => zjn (sX12_isMadeSpent_J1 c24 k25) (fun (k33 : Nat → Option (Nat)) =>
  zjn (sX12_isMadeSpent_J2 k33) (fun (k34 : Option (Nat)) =>
  syc (Nat.ble (Nat.succ (syo32 0)) (syo32 (sycmp c30 1000000))) (k34)
  (srR t a0 34 (fun c35 => syr c35 (fun a36 => syi e a36 c24 (fun p37 => srJ t a36 p37 (fun c38 => sbj (sX12_sizeOf c38) (fun c39 => syc (Nat.ble (syo32 (sycmp c39 1000000)) (syo32 0)) (k33 0)
  (k34)))))))))))))))
  (syc (Nat.ble (Nat.mod c23 4294967296) 1) (some c23) none))
noncomputable def sX12_isMadeSpent_J4 (e : Se) (t : Sy) (a0 : Nat) : Nat → Option (Nat) :=
  fun (c22 : Nat) => syl (fun _ _ => (none : Option (Nat))) (sX12_isMadeSpent_L3 e t a0) zFU c22 0
noncomputable def sX12_isMadeSpent (e : Se) (t : Sy) (a0 : Nat) : Option (Nat) :=
  sbi (sX12_madeWords e t a0) (fun c21 => zjn (sX12_isMadeSpent_J4 e t a0) (fun (k40 : Nat → Option (Nat)) =>
  syc (Nat.ble (syo32 c21) (syo32 60)) (k40 0)
  (k40 1)))
theorem sX12_isMadeSpent_ok {ι : Nat → Nat} {e : Se} {h0 h : Zh} {t : Sy} (hι : ∀ a b, ι a = ι b → a = b) (qt : syR ι e h0 t h) {x0 : Nat} {a0 : Nat} (q0 : yA ι x0 a0) : Sm (fun b a => yI a b) (sX12_isMadeSpent e t a0) (gX12_isMadeSpent h x0) := by
  unfold sX12_isMadeSpent gX12_isMadeSpent
  refine sm_bi (sX12_madeWords_ok hι qt q0) (fun _ c21 q21 => ?_)
  refine sm_jn (fun (k' : Nat → Option (Nat)) (k : Int32 → Option (Int32)) => ∀ (c22 : Nat) (x22 : Int32), yI x22 c22 → Sm (fun b a => yI a b) (k' c22) (k x22)) ?_ ?_
  · intro c22 x22 q22
    unfold sX12_isMadeSpent_J4 gX12_isMadeSpent_J4
    refine sm_lp (fun (k' : Nat → Nat → Option (Nat)) (k : Int32 → Int32 → Option (Int32)) => ∀ (c23 : Nat) (x23 : Int32) (c24 : Nat) (x24 : Int32), yI x23 c23 → yI x24 c24 → Sm (fun b a => yI a b) (k' c23 c24) (k x23 x24)) ?_ ?_ zFU _ _ _ _ q22 (yI_lit 0)
    · exact fun _ _ _ _ _ _ => sm_none
    intro k25 gk25 hk25
    intro c23 x23 c24 x24 q23 q24
    unfold sX12_isMadeSpent_L3 gX12_isMadeSpent_L3
    refine sm_if (sy_le32 (yI_lit 65536) q24) ?_ ?_
    · refine sm_zb q23 ?_
      exact sm_some q23
    · refine sm_if (sy_eq32 q23 (yI_lit 0)) ?_ ?_
      · refine sm_rR qt q0 rfl (fun _ c26 q26 => ?_)
        refine sm_dr q26 (fun _ a27 q27 => ?_)
        refine sm_in qt q27 q24 (fun p28 q28 => ?_)
        refine sm_rJ qt q27 q28 (fun c29 q29 => ?_)
        refine sm_bj (sX12_sizeOf_ok q29) (fun _ c30 q30 => ?_)
        refine sm_jn (fun (k' : Nat → Option (Nat)) (k : Int32 → Option (Int32)) => ∀ (c31 : Nat) (x31 : Int32), yI x31 c31 → Sm (fun b a => yI a b) (k' c31) (k x31)) ?_ ?_
        · intro c31 x31 q31
          unfold sX12_isMadeSpent_J1 gX12_isMadeSpent_J1
          refine sm_f ?_
          exact hk25 _ _ _ _ q31 (yI_add q24 (yI_lit 1))
        intro k33 gk33 hk33
        refine sm_jn (fun (k' : Option (Nat)) (k : Option (Int32)) => Sm (fun b a => yI a b) k' k) ?_ ?_
        · skip
          unfold sX12_isMadeSpent_J2 gX12_isMadeSpent_J2
          exact hk33 _ _ (yI_lit 1)
        intro k34 gk34 hk34
        refine sm_if (sy_lt32 (yI_lit 0) (yI_cmp q30 (yJ_lit 1000000))) ?_ ?_
        · exact hk34
        · refine sm_rR qt q0 rfl (fun _ c35 q35 => ?_)
          refine sm_dr q35 (fun _ a36 q36 => ?_)
          refine sm_in qt q36 q24 (fun p37 q37 => ?_)
          refine sm_rJ qt q36 q37 (fun c38 q38 => ?_)
          refine sm_bj (sX12_sizeOf_ok q38) (fun _ c39 q39 => ?_)
          refine sm_if (sy_le32 (yI_cmp q39 (yJ_lit 1000000)) (yI_lit 0)) ?_ ?_
          · exact hk33 _ _ (yI_lit 0)
          · exact hk34
      · refine sm_zb q23 ?_
        exact sm_some q23
  intro k40 gk40 hk40
  refine sm_if (sy_le32 q21 (yI_lit 60)) ?_ ?_
  · exact hk40 _ _ (yI_lit 0)
  · exact hk40 _ _ (yI_lit 1)
noncomputable def sX12_putSum_J1 (e : Se) (a0 : Nat) (c1 : Nat) : Nat → Sy → Option (Nat × Sy) :=
  fun (c21 : Nat) (t22 : Sy) => srR t22 a0 29 (fun c23 => syr c23 (fun a24 => syi e a24 c1 (fun p25 => swI e t22 a24 p25 c21 (fun t26 => some (c21, t26)))))
noncomputable def sX12_putSum_J2 (c29 : Nat) (k31 : Nat → Nat → Sy → Option (Nat × Sy)) : Nat → Sy → Option (Nat × Sy) :=
  fun (c36 : Nat) (t37 : Sy) => syf (Nat.add c29 1) (fun c38 => k31 c36 c38 t37)
noncomputable def sX12_putSum_J3 (e : Se) (a0 : Nat) (c1 : Nat) (c28 : Nat) (c29 : Nat) (t30 : Sy) (k39 : Nat → Sy → Option (Nat × Sy)) : Option (Nat × Sy) :=
  srR t30 a0 30 (fun c40 => syr c40 (fun a41 => syi e a41 (Nat.add (Nat.mul 60 c1) c28) (fun p42 => swI e t30 a41 p42 c29 (fun t43 => srR t43 a0 31 (fun c44 => srR t43 a0 33 (fun c45 => syr c45 (fun a46 => syi e a46 c29 (fun p47 => srJ t43 a46 p47 (fun c48 => syr c44 (fun a49 => syi e a49 (Nat.add (Nat.mul 60 c1) c28) (fun p50 => swI e t43 a49 p50 c48 (fun t51 => srR t51 a0 32 (fun c52 => srR t51 a0 34 (fun c53 => syr c53 (fun a54 => syi e a54 c29 (fun p55 => srJ t51 a54 p55 (fun c56 => syr c52 (fun a57 => syi e a57 (Nat.add (Nat.mul 60 c1) c28) (fun p58 => swI e t51 a57 p58 c56 (fun t59 => syf (Nat.add c28 1) (fun c60 => k39 c60 t59)))))))))))))))))))))
noncomputable def sX12_putSum_L4 (e : Se) (a0 : Nat) (c1 : Nat) (k27 : Nat → Sy → Option (Nat × Sy)) : (Nat → Nat → Sy → Option (Nat × Sy)) → Nat → Nat → Sy → Option (Nat × Sy) :=
  fun (k31 : Nat → Nat → Sy → Option (Nat × Sy)) (c28 : Nat) (c29 : Nat) (t30 : Sy) => syc (Nat.ble (syo32 65536) (syo32 c29)) (k27 c28 t30)
  (srR t30 a0 33 (fun c32 => syr c32 (fun a33 => syi e a33 c29 (fun p34 => srJ t30 a33 p34 (fun c35 => zjn (sX12_putSum_J2 c29 k31) (fun (k39 : Nat → Sy → Option (Nat × Sy)) =>
  zjn (sX12_putSum_J3 e a0 c1 c28 c29 t30 k39) (fun (k61 : Option (Nat × Sy)) =>
  syc (Nat.beq (Nat.mod (sycmp c35 0) 4294967296) (Nat.mod 0 4294967296)) (srR t30 a0 34 (fun c62 => syr c62 (fun a63 => syi e a63 c29 (fun p64 => srJ t30 a63 p64 (fun c65 => syc (Nat.beq (Nat.mod (sycmp c65 0) 4294967296) (Nat.mod 0 4294967296)) (k39 c28 t30)
  (k61))))))
  (k61))))))))
noncomputable def sX12_putSum (e : Se) (t : Sy) (a0 : Nat) (c1 : Nat) : Option (Nat × Sy) :=
  zjn (sX12_putSum_J1 e a0 c1) (fun (k27 : Nat → Sy → Option (Nat × Sy)) =>
  syl (fun _ _ _ => (none : Option (Nat × Sy))) (sX12_putSum_L4 e a0 c1 k27) zFU 0 0 t)
theorem sX12_putSum_ok {ι : Nat → Nat} {e : Se} {h0 h : Zh} {t : Sy} (hι : ∀ a b, ι a = ι b → a = b) (qt : syR ι e h0 t h) {x0 : Nat} {a0 : Nat} {x1 : Int32} {c1 : Nat} (q0 : yA ι x0 a0) (q1 : yI x1 c1) : Sm (fun b a => yI a.1 b.1 ∧ syR ι e h0 b.2 a.2) (sX12_putSum e t a0 c1) (gX12_putSum h x0 x1) := by
  unfold sX12_putSum gX12_putSum
  refine sm_jn (fun (k' : Nat → Sy → Option (Nat × Sy)) (k : Int32 → Zh → Option (Int32 × Zh)) => ∀ (c21 : Nat) (x21 : Int32) (t22 : Sy) (h22 : Zh), yI x21 c21 → syR ι e h0 t22 h22 → Sm (fun b a => yI a.1 b.1 ∧ syR ι e h0 b.2 a.2) (k' c21 t22) (k x21 h22)) ?_ ?_
  · intro c21 x21 t22 h22 q21 qt22
    unfold sX12_putSum_J1 gX12_putSum_J1
    refine sm_rR qt22 q0 rfl (fun _ c23 q23 => ?_)
    refine sm_dr q23 (fun _ a24 q24 => ?_)
    refine sm_in qt22 q24 q1 (fun p25 q25 => ?_)
    refine sm_wI hι qt22 q24 q25 q21 (fun _ t26 qt26 => ?_)
    exact sm_some ⟨q21, qt26⟩
  intro k27 gk27 hk27
  refine sm_lp (fun (k' : Nat → Nat → Sy → Option (Nat × Sy)) (k : Int32 → Int32 → Zh → Option (Int32 × Zh)) => ∀ (c28 : Nat) (x28 : Int32) (c29 : Nat) (x29 : Int32) (t30 : Sy) (h30 : Zh), yI x28 c28 → yI x29 c29 → syR ι e h0 t30 h30 → Sm (fun b a => yI a.1 b.1 ∧ syR ι e h0 b.2 a.2) (k' c28 c29 t30) (k x28 x29 h30)) ?_ ?_ zFU _ _ _ _ _ _ (yI_lit 0) (yI_lit 0) qt
  · exact fun _ _ _ _ _ _ _ _ _ => sm_none
  intro k31 gk31 hk31
  intro c28 x28 c29 x29 t30 h30 q28 q29 qt30
  unfold sX12_putSum_L4 gX12_putSum_L4
  refine sm_if (sy_le32 (yI_lit 65536) q29) ?_ ?_
  · exact hk27 _ _ _ _ q28 qt30
  · refine sm_rR qt30 q0 rfl (fun _ c32 q32 => ?_)
    refine sm_dr q32 (fun _ a33 q33 => ?_)
    refine sm_in qt30 q33 q29 (fun p34 q34 => ?_)
    refine sm_rJ qt30 q33 q34 (fun c35 q35 => ?_)
    refine sm_jn (fun (k' : Nat → Sy → Option (Nat × Sy)) (k : Int32 → Zh → Option (Int32 × Zh)) => ∀ (c36 : Nat) (x36 : Int32) (t37 : Sy) (h37 : Zh), yI x36 c36 → syR ι e h0 t37 h37 → Sm (fun b a => yI a.1 b.1 ∧ syR ι e h0 b.2 a.2) (k' c36 t37) (k x36 h37)) ?_ ?_
    · intro c36 x36 t37 h37 q36 qt37
      unfold sX12_putSum_J2 gX12_putSum_J2
      refine sm_f ?_
      exact hk31 _ _ _ _ _ _ q36 (yI_add q29 (yI_lit 1)) qt37
    intro k39 gk39 hk39
    refine sm_jn (fun (k' : Option (Nat × Sy)) (k : Option (Int32 × Zh)) => Sm (fun b a => yI a.1 b.1 ∧ syR ι e h0 b.2 a.2) k' k) ?_ ?_
    · skip
      unfold sX12_putSum_J3 gX12_putSum_J3
      refine sm_rR qt30 q0 rfl (fun _ c40 q40 => ?_)
      refine sm_dr q40 (fun _ a41 q41 => ?_)
      refine sm_in qt30 q41 (yI_add (yI_mul (yI_lit 60) q1) q28) (fun p42 q42 => ?_)
      refine sm_wI hι qt30 q41 q42 q29 (fun _ t43 qt43 => ?_)
      refine sm_rR qt43 q0 rfl (fun _ c44 q44 => ?_)
      refine sm_rR qt43 q0 rfl (fun _ c45 q45 => ?_)
      refine sm_dr q45 (fun _ a46 q46 => ?_)
      refine sm_in qt43 q46 q29 (fun p47 q47 => ?_)
      refine sm_rJ qt43 q46 q47 (fun c48 q48 => ?_)
      refine sm_dr q44 (fun _ a49 q49 => ?_)
      refine sm_in qt43 q49 (yI_add (yI_mul (yI_lit 60) q1) q28) (fun p50 q50 => ?_)
      refine sm_wI hι qt43 q49 q50 (yI_l2i q48) (fun _ t51 qt51 => ?_)
      refine sm_rR qt51 q0 rfl (fun _ c52 q52 => ?_)
      refine sm_rR qt51 q0 rfl (fun _ c53 q53 => ?_)
      refine sm_dr q53 (fun _ a54 q54 => ?_)
      refine sm_in qt51 q54 q29 (fun p55 q55 => ?_)
      refine sm_rJ qt51 q54 q55 (fun c56 q56 => ?_)
      refine sm_dr q52 (fun _ a57 q57 => ?_)
      refine sm_in qt51 q57 (yI_add (yI_mul (yI_lit 60) q1) q28) (fun p58 q58 => ?_)
      refine sm_wI hι qt51 q57 q58 (yI_l2i q56) (fun _ t59 qt59 => ?_)
      refine sm_f ?_
      exact hk39 _ _ _ _ (yI_add q28 (yI_lit 1)) qt59
    intro k61 gk61 hk61
    refine sm_if (sy_eq32 (yI_cmp q35 (yJ_lit 0)) (yI_lit 0)) ?_ ?_
    · refine sm_rR qt30 q0 rfl (fun _ c62 q62 => ?_)
      refine sm_dr q62 (fun _ a63 q63 => ?_)
      refine sm_in qt30 q63 q29 (fun p64 q64 => ?_)
      refine sm_rJ qt30 q63 q64 (fun c65 q65 => ?_)
      refine sm_if (sy_eq32 (yI_cmp q65 (yJ_lit 0)) (yI_lit 0)) ?_ ?_
      · exact hk39 _ _ _ _ q28 qt30
      · exact hk61
    · exact hk61
noncomputable def sX12_putOrSpent (e : Se) (t : Sy) (a0 : Nat) (c1 : Nat) : Option (Nat × Sy) :=
  sbi (sX12_isMadeSpent e t a0) (fun c21 => syc (Nat.beq (Nat.mod c21 4294967296) (Nat.mod 0 4294967296)) (sbI (sX12_putSum e t a0 c1) (fun c22 t22 => sbV (sX12_acted e t22 a0) (fun t23 => srR t23 a0 29 (fun c24 => syr c24 (fun a25 => syi e a25 c1 (fun p26 => srI t23 a25 p26 (fun c27 => some (c27, t23))))))))
  (some (4294967290, t)))
theorem sX12_putOrSpent_ok {ι : Nat → Nat} {e : Se} {h0 h : Zh} {t : Sy} (hι : ∀ a b, ι a = ι b → a = b) (qt : syR ι e h0 t h) {x0 : Nat} {a0 : Nat} {x1 : Int32} {c1 : Nat} (q0 : yA ι x0 a0) (q1 : yI x1 c1) : Sm (fun b a => yI a.1 b.1 ∧ syR ι e h0 b.2 a.2) (sX12_putOrSpent e t a0 c1) (gX12_putOrSpent h x0 x1) := by
  unfold sX12_putOrSpent gX12_putOrSpent
  refine sm_bi (sX12_isMadeSpent_ok hι qt q0) (fun _ c21 q21 => ?_)
  refine sm_if (sy_eq32 q21 (yI_lit 0)) ?_ ?_
  · refine sm_bI (sX12_putSum_ok hι qt q0 q1) (fun _ c22 q22 _ t22 qt22 => ?_)
    refine sm_bV (sX12_acted_ok hι qt22 q0) (fun _ t23 qt23 => ?_)
    refine sm_rR qt23 q0 rfl (fun _ c24 q24 => ?_)
    refine sm_dr q24 (fun _ a25 q25 => ?_)
    refine sm_in qt23 q25 q1 (fun p26 q26 => ?_)
    refine sm_rI qt23 q25 q26 (fun c27 q27 => ?_)
    exact sm_some ⟨q27, qt23⟩
  · exact sm_some ⟨(show yI (-6) 4294967290 from by unfold yI; decide), qt⟩
noncomputable def sX12_add (e : Se) (t : Sy) (a0 : Nat) (c1 : Nat) (c2 : Nat) (c3 : Nat) (c4 : Nat) (c5 : Nat) : Option (Nat × Sy) :=
  sbi (sX12_noSum c1) (fun c21 => syc (Nat.beq (Nat.mod c21 4294967296) (Nat.mod 0 4294967296)) (sbi (sX12_in (sy2l c2) 0 255) (fun c22 => syc (Nat.beq (Nat.mod c22 4294967296) (Nat.mod 0 4294967296)) (some (4294967294, t))
  (sbi (sX12_in (sy2l c3) 0 255) (fun c23 => syc (Nat.beq (Nat.mod c23 4294967296) (Nat.mod 0 4294967296)) (some (4294967294, t))
  (sbV (sX12_startSum e t a0) (fun t24 => sbV (sX12_takeSum e t24 a0 c1 1) (fun t25 => srR t25 a0 33 (fun c26 => syf (Nat.add (Nat.mul 256 c2) c3) (fun c27 => syr c26 (fun a28 => syi e a28 c27 (fun p29 => srJ t25 a28 p29 (fun c30 => syi e a28 c27 (fun p31 => swJ e t25 a28 p31 (Nat.add c30 (sy2l c4)) (fun t32 => srR t32 a0 34 (fun c33 => syf (Nat.add (Nat.mul 256 c2) c3) (fun c34 => syr c33 (fun a35 => syi e a35 c34 (fun p36 => srJ t32 a35 p36 (fun c37 => syi e a35 c34 (fun p38 => swJ e t32 a35 p38 (Nat.add c37 (sy2l c5)) (fun t39 => sbI (sX12_putOrSpent e t39 a0 c1) (fun c40 t40 => some (c40, t40)))))))))))))))))))))))
  (some (4294967295, t)))
theorem sX12_add_ok {ι : Nat → Nat} {e : Se} {h0 h : Zh} {t : Sy} (hι : ∀ a b, ι a = ι b → a = b) (qt : syR ι e h0 t h) {x0 : Nat} {a0 : Nat} {x1 : Int32} {c1 : Nat} {x2 : Int32} {c2 : Nat} {x3 : Int32} {c3 : Nat} {x4 : Int32} {c4 : Nat} {x5 : Int32} {c5 : Nat} (q0 : yA ι x0 a0) (q1 : yI x1 c1) (q2 : yI x2 c2) (q3 : yI x3 c3) (q4 : yI x4 c4) (q5 : yI x5 c5) : Sm (fun b a => yI a.1 b.1 ∧ syR ι e h0 b.2 a.2) (sX12_add e t a0 c1 c2 c3 c4 c5) (gX12_add h x0 x1 x2 x3 x4 x5) := by
  unfold sX12_add gX12_add
  refine sm_bi (sX12_noSum_ok q1) (fun _ c21 q21 => ?_)
  refine sm_if (sy_eq32 q21 (yI_lit 0)) ?_ ?_
  · refine sm_bi (sX12_in_ok (yJ_i2l q2) (yJ_lit 0) (yJ_lit 255)) (fun _ c22 q22 => ?_)
    refine sm_if (sy_eq32 q22 (yI_lit 0)) ?_ ?_
    · exact sm_some ⟨(show yI (-2) 4294967294 from by unfold yI; decide), qt⟩
    · refine sm_bi (sX12_in_ok (yJ_i2l q3) (yJ_lit 0) (yJ_lit 255)) (fun _ c23 q23 => ?_)
      refine sm_if (sy_eq32 q23 (yI_lit 0)) ?_ ?_
      · exact sm_some ⟨(show yI (-2) 4294967294 from by unfold yI; decide), qt⟩
      · refine sm_bV (sX12_startSum_ok hι qt q0) (fun _ t24 qt24 => ?_)
        refine sm_bV (sX12_takeSum_ok hι qt24 q0 q1 (yI_lit 1)) (fun _ t25 qt25 => ?_)
        refine sm_rR qt25 q0 rfl (fun _ c26 q26 => ?_)
        refine sm_lti (yI_add (yI_mul (yI_lit 256) q2) q3) (fun _ c27 q27 => ?_)
        refine sm_dr q26 (fun _ a28 q28 => ?_)
        refine sm_in qt25 q28 q27 (fun p29 q29 => ?_)
        refine sm_rJ qt25 q28 q29 (fun c30 q30 => ?_)
        refine sm_in qt25 q28 q27 (fun p31 q31 => ?_)
        refine sm_wJ hι qt25 q28 q31 (yJ_add q30 (yJ_i2l q4)) (fun _ t32 qt32 => ?_)
        refine sm_rR qt32 q0 rfl (fun _ c33 q33 => ?_)
        refine sm_lti (yI_add (yI_mul (yI_lit 256) q2) q3) (fun _ c34 q34 => ?_)
        refine sm_dr q33 (fun _ a35 q35 => ?_)
        refine sm_in qt32 q35 q34 (fun p36 q36 => ?_)
        refine sm_rJ qt32 q35 q36 (fun c37 q37 => ?_)
        refine sm_in qt32 q35 q34 (fun p38 q38 => ?_)
        refine sm_wJ hι qt32 q35 q38 (yJ_add q37 (yJ_i2l q5)) (fun _ t39 qt39 => ?_)
        refine sm_bI (sX12_putOrSpent_ok hι qt39 q0 q1) (fun _ c40 q40 _ t40 qt40 => ?_)
        exact sm_some ⟨q40, qt40⟩
  · exact sm_some ⟨(show yI (-1) 4294967295 from by unfold yI; decide), qt⟩
noncomputable def sX12_clear (e : Se) (t : Sy) (a0 : Nat) (c1 : Nat) : Option (Nat × Sy) :=
  sbi (sX12_noSum c1) (fun c21 => syc (Nat.beq (Nat.mod c21 4294967296) (Nat.mod 0 4294967296)) (srR t a0 29 (fun c22 => syr c22 (fun a23 => syi e a23 c1 (fun p24 => srI t a23 p24 (fun c25 => srR t a0 29 (fun c27 => syr c27 (fun a28 => syi e a28 c1 (fun p29 => swI e t a28 p29 0 (fun t30 => sbV (sX12_acted e t30 a0) (fun t31 => some (c25, t31)))))))))))
  (some (4294967295, t)))
theorem sX12_clear_ok {ι : Nat → Nat} {e : Se} {h0 h : Zh} {t : Sy} (hι : ∀ a b, ι a = ι b → a = b) (qt : syR ι e h0 t h) {x0 : Nat} {a0 : Nat} {x1 : Int32} {c1 : Nat} (q0 : yA ι x0 a0) (q1 : yI x1 c1) : Sm (fun b a => yI a.1 b.1 ∧ syR ι e h0 b.2 a.2) (sX12_clear e t a0 c1) (gX12_clear h x0 x1) := by
  unfold sX12_clear gX12_clear
  refine sm_bi (sX12_noSum_ok q1) (fun _ c21 q21 => ?_)
  refine sm_if (sy_eq32 q21 (yI_lit 0)) ?_ ?_
  · refine sm_rR qt q0 rfl (fun _ c22 q22 => ?_)
    refine sm_dr q22 (fun _ a23 q23 => ?_)
    refine sm_in qt q23 q1 (fun p24 q24 => ?_)
    refine sm_rI qt q23 q24 (fun c25 q25 => ?_)
    refine sm_lt0i q25 (fun _ q26 => ?_)
    refine sm_rR qt q0 rfl (fun _ c27 q27 => ?_)
    refine sm_dr q27 (fun _ a28 q28 => ?_)
    refine sm_in qt q28 q1 (fun p29 q29 => ?_)
    refine sm_wI hι qt q28 q29 (yI_lit 0) (fun _ t30 qt30 => ?_)
    refine sm_bV (sX12_acted_ok hι qt30 q0) (fun _ t31 qt31 => ?_)
    exact sm_some ⟨q26, qt31⟩
  · exact sm_some ⟨(show yI (-1) 4294967295 from by unfold yI; decide), qt⟩
noncomputable def sX12_putChain_J1 (e : Se) (a0 : Nat) (c1 : Nat) : Sy → Option (Nat × Sy) :=
  fun (t22 : Sy) => sbI (sX12_putSum e t22 a0 c1) (fun c23 t23 => some (c23, t23))
noncomputable def sX12_putChain_L2 (e : Se) (a0 : Nat) (k24 : Sy → Option (Nat × Sy)) : (Nat → Sy → Option (Nat × Sy)) → Nat → Sy → Option (Nat × Sy) :=
  fun (k27 : Nat → Sy → Option (Nat × Sy)) (c25 : Nat) (t26 : Sy) => sbi (sX12_pairMany e t26 a0) (fun c28 => syc (Nat.ble (syo32 c28) (syo32 c25)) (k24 t26)
  (srI t26 a0 1 (fun c29 => syc (Nat.beq (Nat.mod c29 4294967296) (Nat.mod 0 4294967296)) none (syf (Nat.lor (Nat.shiftLeft 1 (Nat.mod c25 32)) (Nat.shiftLeft 1 (Nat.mod (Nat.add (Nat.add c25 1) (syn32 (Nat.mul (syd 4294967296 (Nat.mod (Nat.add c25 1) 4294967296) (Nat.mod c29 4294967296)) c29))) 32))) (fun c30 => srR t26 a0 33 (fun c31 => syf (Nat.mul 256 c30) (fun c32 => syr c31 (fun a33 => syi e a33 c32 (fun p34 => srJ t26 a33 p34 (fun c35 => srI t26 a0 3 (fun c36 => syi e a33 c32 (fun p37 => swJ e t26 a33 p37 (Nat.add c35 (sy2l c36)) (fun t38 => srR t38 a0 33 (fun c39 => syf (Nat.add (Nat.mul 256 c30) c30) (fun c40 => syr c39 (fun a41 => syi e a41 c40 (fun p42 => srJ t38 a41 p42 (fun c43 => srI t38 a0 3 (fun c44 => syi e a41 c40 (fun p45 => swJ e t38 a41 p45 (Nat.add c43 (sy2l c44)) (fun t46 => srR t46 a0 33 (fun c47 => syr c47 (fun a48 => syi e a48 c30 (fun p49 => srJ t46 a48 p49 (fun c50 => srI t46 a0 4 (fun c51 => syi e a48 c30 (fun p52 => swJ e t46 a48 p52 (Nat.add c50 (sy2l (Nat.mul 2 c51))) (fun t53 => syf (Nat.add c25 1) (fun c54 => k27 c54 t53)))))))))))))))))))))))))))))
noncomputable def sX12_putChain (e : Se) (t : Sy) (a0 : Nat) (c1 : Nat) : Option (Nat × Sy) :=
  sbV (sX12_startSum e t a0) (fun t21 => zjn (sX12_putChain_J1 e a0 c1) (fun (k24 : Sy → Option (Nat × Sy)) =>
  syl (fun _ _ => (none : Option (Nat × Sy))) (sX12_putChain_L2 e a0 k24) zFU 0 t21))
theorem sX12_putChain_ok {ι : Nat → Nat} {e : Se} {h0 h : Zh} {t : Sy} (hι : ∀ a b, ι a = ι b → a = b) (qt : syR ι e h0 t h) {x0 : Nat} {a0 : Nat} {x1 : Int32} {c1 : Nat} (q0 : yA ι x0 a0) (q1 : yI x1 c1) : Sm (fun b a => yI a.1 b.1 ∧ syR ι e h0 b.2 a.2) (sX12_putChain e t a0 c1) (gX12_putChain h x0 x1) := by
  unfold sX12_putChain gX12_putChain
  refine sm_bV (sX12_startSum_ok hι qt q0) (fun _ t21 qt21 => ?_)
  refine sm_jn (fun (k' : Sy → Option (Nat × Sy)) (k : Zh → Option (Int32 × Zh)) => ∀ (t22 : Sy) (h22 : Zh), syR ι e h0 t22 h22 → Sm (fun b a => yI a.1 b.1 ∧ syR ι e h0 b.2 a.2) (k' t22) (k h22)) ?_ ?_
  · intro t22 h22 qt22
    unfold sX12_putChain_J1 gX12_putChain_J1
    refine sm_bI (sX12_putSum_ok hι qt22 q0 q1) (fun _ c23 q23 _ t23 qt23 => ?_)
    exact sm_some ⟨q23, qt23⟩
  intro k24 gk24 hk24
  refine sm_lp (fun (k' : Nat → Sy → Option (Nat × Sy)) (k : Int32 → Zh → Option (Int32 × Zh)) => ∀ (c25 : Nat) (x25 : Int32) (t26 : Sy) (h26 : Zh), yI x25 c25 → syR ι e h0 t26 h26 → Sm (fun b a => yI a.1 b.1 ∧ syR ι e h0 b.2 a.2) (k' c25 t26) (k x25 h26)) ?_ ?_ zFU _ _ _ _ (yI_lit 0) qt21
  · exact fun _ _ _ _ _ _ => sm_none
  intro k27 gk27 hk27
  intro c25 x25 t26 h26 q25 qt26
  unfold sX12_putChain_L2 gX12_putChain_L2
  refine sm_bi (sX12_pairMany_ok hι qt26 q0) (fun _ c28 q28 => ?_)
  refine sm_if (sy_le32 q28 q25) ?_ ?_
  · exact hk24 _ _ qt26
  · refine sm_rI qt26 q0 rfl (fun c29 q29 => ?_)
    refine sm_if (sy_eq32 q29 (yI_lit 0)) sm_none ?_
    refine sm_lti (yI_or (yI_shl (yI_lit 1) q25) (yI_shl (yI_lit 1) (yI_sub (yI_add q25 (yI_lit 1)) (yI_mul (yI_div (yI_add q25 (yI_lit 1)) q29) q29)))) (fun _ c30 q30 => ?_)
    refine sm_rR qt26 q0 rfl (fun _ c31 q31 => ?_)
    refine sm_lti (yI_mul (yI_lit 256) q30) (fun _ c32 q32 => ?_)
    refine sm_dr q31 (fun _ a33 q33 => ?_)
    refine sm_in qt26 q33 q32 (fun p34 q34 => ?_)
    refine sm_rJ qt26 q33 q34 (fun c35 q35 => ?_)
    refine sm_rI qt26 q0 rfl (fun c36 q36 => ?_)
    refine sm_in qt26 q33 q32 (fun p37 q37 => ?_)
    refine sm_wJ hι qt26 q33 q37 (yJ_add q35 (yJ_i2l q36)) (fun _ t38 qt38 => ?_)
    refine sm_rR qt38 q0 rfl (fun _ c39 q39 => ?_)
    refine sm_lti (yI_add (yI_mul (yI_lit 256) q30) q30) (fun _ c40 q40 => ?_)
    refine sm_dr q39 (fun _ a41 q41 => ?_)
    refine sm_in qt38 q41 q40 (fun p42 q42 => ?_)
    refine sm_rJ qt38 q41 q42 (fun c43 q43 => ?_)
    refine sm_rI qt38 q0 rfl (fun c44 q44 => ?_)
    refine sm_in qt38 q41 q40 (fun p45 q45 => ?_)
    refine sm_wJ hι qt38 q41 q45 (yJ_add q43 (yJ_i2l q44)) (fun _ t46 qt46 => ?_)
    refine sm_rR qt46 q0 rfl (fun _ c47 q47 => ?_)
    refine sm_dr q47 (fun _ a48 q48 => ?_)
    refine sm_in qt46 q48 q30 (fun p49 q49 => ?_)
    refine sm_rJ qt46 q48 q49 (fun c50 q50 => ?_)
    refine sm_rI qt46 q0 rfl (fun c51 q51 => ?_)
    refine sm_in qt46 q48 q30 (fun p52 q52 => ?_)
    refine sm_wJ hι qt46 q48 q52 (yJ_add q50 (yJ_i2l (yI_mul (yI_lit 2) q51))) (fun _ t53 qt53 => ?_)
    refine sm_f ?_
    exact hk27 _ _ _ _ (yI_add q25 (yI_lit 1)) qt53
noncomputable def sX12_asChain (e : Se) (t : Sy) (a0 : Nat) (c1 : Nat) : Option (Nat × Sy) :=
  sbi (sX12_noSum c1) (fun c21 => syc (Nat.beq (Nat.mod c21 4294967296) (Nat.mod 0 4294967296)) (sbI (sX12_putChain e t a0 c1) (fun c22 t22 => sbV (sX12_acted e t22 a0) (fun t23 => some (c22, t23))))
  (some (4294967295, t)))
theorem sX12_asChain_ok {ι : Nat → Nat} {e : Se} {h0 h : Zh} {t : Sy} (hι : ∀ a b, ι a = ι b → a = b) (qt : syR ι e h0 t h) {x0 : Nat} {a0 : Nat} {x1 : Int32} {c1 : Nat} (q0 : yA ι x0 a0) (q1 : yI x1 c1) : Sm (fun b a => yI a.1 b.1 ∧ syR ι e h0 b.2 a.2) (sX12_asChain e t a0 c1) (gX12_asChain h x0 x1) := by
  unfold sX12_asChain gX12_asChain
  refine sm_bi (sX12_noSum_ok q1) (fun _ c21 q21 => ?_)
  refine sm_if (sy_eq32 q21 (yI_lit 0)) ?_ ?_
  · refine sm_bI (sX12_putChain_ok hι qt q0 q1) (fun _ c22 q22 _ t22 qt22 => ?_)
    refine sm_bV (sX12_acted_ok hι qt22 q0) (fun _ t23 qt23 => ?_)
    exact sm_some ⟨q22, qt23⟩
  · exact sm_some ⟨(show yI (-1) 4294967295 from by unfold yI; decide), qt⟩
noncomputable def sX12_join_J1 (e : Se) (a0 : Nat) (c1 : Nat) : Sy → Option (Nat × Sy) :=
  fun (t27 : Sy) => sbI (sX12_putOrSpent e t27 a0 c1) (fun c28 t28 => some (c28, t28))
noncomputable def sX12_join_J2 (e : Se) (a0 : Nat) (c1 : Nat) (c2 : Nat) (c3 : Nat) (c4 : Nat) : Sy → Option (Nat × Sy) :=
  fun (t26 : Sy) => zjn (sX12_join_J1 e a0 c1) (fun (k29 : Sy → Option (Nat × Sy)) =>
  syc (Nat.beq (Nat.mod c4 4294967296) (Nat.mod 1 4294967296)) (sbV (sX12_takeProduct e t26 a0 c3 c2 4294967295) (fun t30 => k29 t30))
  (k29 t26))
noncomputable def sX12_join_J3 (e : Se) (a0 : Nat) (c3 : Nat) (k31 : Sy → Option (Nat × Sy)) (t32 : Sy) : Nat → Option (Nat × Sy) :=
  fun (c33 : Nat) => sbV (sX12_takeSum e t32 a0 c3 c33) (fun t34 => k31 t34)
noncomputable def sX12_join (e : Se) (t : Sy) (a0 : Nat) (c1 : Nat) (c2 : Nat) (c3 : Nat) (c4 : Nat) : Option (Nat × Sy) :=
  sbi (sX12_noSum c1) (fun c21 => syc (Nat.beq (Nat.mod c21 4294967296) (Nat.mod 0 4294967296)) (sbi (sX12_noSum c2) (fun c22 => syc (Nat.beq (Nat.mod c22 4294967296) (Nat.mod 0 4294967296)) (sbi (sX12_noSum c3) (fun c23 => syc (Nat.beq (Nat.mod c23 4294967296) (Nat.mod 0 4294967296)) (sbi (sX12_in (sy2l c4) 0 3) (fun c24 => syc (Nat.beq (Nat.mod c24 4294967296) (Nat.mod 0 4294967296)) (some (4294967294, t))
  (sbV (sX12_startSum e t a0) (fun t25 => zjn (sX12_join_J2 e a0 c1 c2 c3 c4) (fun (k31 : Sy → Option (Nat × Sy)) =>
  syc (Nat.ble (syo32 2) (syo32 c4)) (sbV (sX12_takeSum e t25 a0 c2 1) (fun t32 => zjn (sX12_join_J3 e a0 c3 k31 t32) (fun (k35 : Nat → Option (Nat × Sy)) =>
  syc (Nat.beq (Nat.mod c4 4294967296) (Nat.mod 2 4294967296)) (k35 1)
  (k35 4294967295))))
  (sbV (sX12_takeProduct e t25 a0 c2 c3 1) (fun t36 => k31 t36)))))))
  (some (4294967295, t))))
  (some (4294967295, t))))
  (some (4294967295, t)))
theorem sX12_join_ok {ι : Nat → Nat} {e : Se} {h0 h : Zh} {t : Sy} (hι : ∀ a b, ι a = ι b → a = b) (qt : syR ι e h0 t h) {x0 : Nat} {a0 : Nat} {x1 : Int32} {c1 : Nat} {x2 : Int32} {c2 : Nat} {x3 : Int32} {c3 : Nat} {x4 : Int32} {c4 : Nat} (q0 : yA ι x0 a0) (q1 : yI x1 c1) (q2 : yI x2 c2) (q3 : yI x3 c3) (q4 : yI x4 c4) : Sm (fun b a => yI a.1 b.1 ∧ syR ι e h0 b.2 a.2) (sX12_join e t a0 c1 c2 c3 c4) (gX12_join h x0 x1 x2 x3 x4) := by
  unfold sX12_join gX12_join
  refine sm_bi (sX12_noSum_ok q1) (fun _ c21 q21 => ?_)
  refine sm_if (sy_eq32 q21 (yI_lit 0)) ?_ ?_
  · refine sm_bi (sX12_noSum_ok q2) (fun _ c22 q22 => ?_)
    refine sm_if (sy_eq32 q22 (yI_lit 0)) ?_ ?_
    · refine sm_bi (sX12_noSum_ok q3) (fun _ c23 q23 => ?_)
      refine sm_if (sy_eq32 q23 (yI_lit 0)) ?_ ?_
      · refine sm_bi (sX12_in_ok (yJ_i2l q4) (yJ_lit 0) (yJ_lit 3)) (fun _ c24 q24 => ?_)
        refine sm_if (sy_eq32 q24 (yI_lit 0)) ?_ ?_
        · exact sm_some ⟨(show yI (-2) 4294967294 from by unfold yI; decide), qt⟩
        · refine sm_bV (sX12_startSum_ok hι qt q0) (fun _ t25 qt25 => ?_)
          refine sm_jn (fun (k' : Sy → Option (Nat × Sy)) (k : Zh → Option (Int32 × Zh)) => ∀ (t26 : Sy) (h26 : Zh), syR ι e h0 t26 h26 → Sm (fun b a => yI a.1 b.1 ∧ syR ι e h0 b.2 a.2) (k' t26) (k h26)) ?_ ?_
          · intro t26 h26 qt26
            unfold sX12_join_J2 gX12_join_J2
            refine sm_jn (fun (k' : Sy → Option (Nat × Sy)) (k : Zh → Option (Int32 × Zh)) => ∀ (t27 : Sy) (h27 : Zh), syR ι e h0 t27 h27 → Sm (fun b a => yI a.1 b.1 ∧ syR ι e h0 b.2 a.2) (k' t27) (k h27)) ?_ ?_
            · intro t27 h27 qt27
              unfold sX12_join_J1 gX12_join_J1
              refine sm_bI (sX12_putOrSpent_ok hι qt27 q0 q1) (fun _ c28 q28 _ t28 qt28 => ?_)
              exact sm_some ⟨q28, qt28⟩
            intro k29 gk29 hk29
            refine sm_if (sy_eq32 q4 (yI_lit 1)) ?_ ?_
            · refine sm_bV (sX12_takeProduct_ok hι qt26 q0 q3 q2 (show yI (-1) 4294967295 from by unfold yI; decide)) (fun _ t30 qt30 => ?_)
              exact hk29 _ _ qt30
            · exact hk29 _ _ qt26
          intro k31 gk31 hk31
          refine sm_if (sy_le32 (yI_lit 2) q4) ?_ ?_
          · refine sm_bV (sX12_takeSum_ok hι qt25 q0 q2 (yI_lit 1)) (fun _ t32 qt32 => ?_)
            refine sm_jn (fun (k' : Nat → Option (Nat × Sy)) (k : Int32 → Option (Int32 × Zh)) => ∀ (c33 : Nat) (x33 : Int32), yI x33 c33 → Sm (fun b a => yI a.1 b.1 ∧ syR ι e h0 b.2 a.2) (k' c33) (k x33)) ?_ ?_
            · intro c33 x33 q33
              unfold sX12_join_J3 gX12_join_J3
              refine sm_bV (sX12_takeSum_ok hι qt32 q0 q3 q33) (fun _ t34 qt34 => ?_)
              exact hk31 _ _ qt34
            intro k35 gk35 hk35
            refine sm_if (sy_eq32 q4 (yI_lit 2)) ?_ ?_
            · exact hk35 _ _ (yI_lit 1)
            · exact hk35 _ _ (show yI (-1) 4294967295 from by unfold yI; decide)
          · refine sm_bV (sX12_takeProduct_ok hι qt25 q0 q2 q3 (yI_lit 1)) (fun _ t36 qt36 => ?_)
            exact hk31 _ _ qt36
      · exact sm_some ⟨(show yI (-1) 4294967295 from by unfold yI; decide), qt⟩
    · exact sm_some ⟨(show yI (-1) 4294967295 from by unfold yI; decide), qt⟩
  · exact sm_some ⟨(show yI (-1) 4294967295 from by unfold yI; decide), qt⟩
noncomputable def sX12_shifted_J1 (c21 : Nat) (c22 : Nat) (k23 : Nat → Nat → Option (Nat)) : Nat → Option (Nat) :=
  fun (c26 : Nat) => syf (Nat.lor c21 c26) (fun c27 => syf (Nat.add c22 1) (fun c28 => k23 c27 c28))
noncomputable def sX12_shifted_L2 (t : Sy) (a0 : Nat) (c1 : Nat) (c2 : Nat) : (Nat → Nat → Option (Nat)) → Nat → Nat → Option (Nat) :=
  fun (k23 : Nat → Nat → Option (Nat)) (c21 : Nat) (c22 : Nat) => srI t a0 1 (fun c24 => syc (Nat.ble (syo32 c24) (syo32 c22)) (some c21)
  (sbi (sX12_hasBit c1 c22) (fun c25 => zjn (sX12_shifted_J1 c21 c22 k23) (fun (k29 : Nat → Option (Nat)) =>
  syc (Nat.beq (Nat.mod c25 4294967296) (Nat.mod 0 4294967296)) (k29 0)
  (srI t a0 1 (fun c30 => syc (Nat.beq (Nat.mod c30 4294967296) (Nat.mod 0 4294967296)) none (syf (Nat.shiftLeft 1 (Nat.mod (Nat.add (Nat.add c22 c2) (syn32 (Nat.mul (syd 4294967296 (Nat.mod (Nat.add c22 c2) 4294967296) (Nat.mod c30 4294967296)) c30))) 32)) (fun c31 => k29 c31))))))))
noncomputable def sX12_shifted (e : Se) (t : Sy) (a0 : Nat) (c1 : Nat) (c2 : Nat) : Option (Nat) :=
  syl (fun _ _ => (none : Option (Nat))) (sX12_shifted_L2 t a0 c1 c2) zFU 0 0
theorem sX12_shifted_ok {ι : Nat → Nat} {e : Se} {h0 h : Zh} {t : Sy} (hι : ∀ a b, ι a = ι b → a = b) (qt : syR ι e h0 t h) {x0 : Nat} {a0 : Nat} {x1 : Int32} {c1 : Nat} {x2 : Int32} {c2 : Nat} (q0 : yA ι x0 a0) (q1 : yI x1 c1) (q2 : yI x2 c2) : Sm (fun b a => yI a b) (sX12_shifted e t a0 c1 c2) (gX12_shifted h x0 x1 x2) := by
  unfold sX12_shifted gX12_shifted
  refine sm_lp (fun (k' : Nat → Nat → Option (Nat)) (k : Int32 → Int32 → Option (Int32)) => ∀ (c21 : Nat) (x21 : Int32) (c22 : Nat) (x22 : Int32), yI x21 c21 → yI x22 c22 → Sm (fun b a => yI a b) (k' c21 c22) (k x21 x22)) ?_ ?_ zFU _ _ _ _ (yI_lit 0) (yI_lit 0)
  · exact fun _ _ _ _ _ _ => sm_none
  intro k23 gk23 hk23
  intro c21 x21 c22 x22 q21 q22
  unfold sX12_shifted_L2 gX12_shifted_L2
  refine sm_rI qt q0 rfl (fun c24 q24 => ?_)
  refine sm_if (sy_le32 q24 q22) ?_ ?_
  · exact sm_some q21
  · refine sm_bi (sX12_hasBit_ok q1 q22) (fun _ c25 q25 => ?_)
    refine sm_jn (fun (k' : Nat → Option (Nat)) (k : Int32 → Option (Int32)) => ∀ (c26 : Nat) (x26 : Int32), yI x26 c26 → Sm (fun b a => yI a b) (k' c26) (k x26)) ?_ ?_
    · intro c26 x26 q26
      unfold sX12_shifted_J1 gX12_shifted_J1
      refine sm_lti (yI_or q21 q26) (fun _ c27 q27 => ?_)
      refine sm_f ?_
      exact hk23 _ _ _ _ q27 (yI_add q22 (yI_lit 1))
    intro k29 gk29 hk29
    refine sm_if (sy_eq32 q25 (yI_lit 0)) ?_ ?_
    · exact hk29 _ _ (yI_lit 0)
    · refine sm_rI qt q0 rfl (fun c30 q30 => ?_)
      refine sm_if (sy_eq32 q30 (yI_lit 0)) sm_none ?_
      refine sm_f ?_
      exact hk29 _ _ (yI_shl (yI_lit 1) (yI_sub (yI_add q22 q2) (yI_mul (yI_div (yI_add q22 q2) q30) q30)))
noncomputable def sX12_shift_J1 (e : Se) (a0 : Nat) (c1 : Nat) : Sy → Option (Nat × Sy) :=
  fun (t26 : Sy) => sbI (sX12_putOrSpent e t26 a0 c1) (fun c27 t27 => some (c27, t27))
noncomputable def sX12_shift_L2 (e : Se) (a0 : Nat) (c2 : Nat) (c3 : Nat) (k28 : Sy → Option (Nat × Sy)) : (Nat → Sy → Option (Nat × Sy)) → Nat → Sy → Option (Nat × Sy) :=
  fun (k31 : Nat → Sy → Option (Nat × Sy)) (c29 : Nat) (t30 : Sy) => srR t30 a0 29 (fun c32 => syr c32 (fun a33 => syi e a33 c2 (fun p34 => srI t30 a33 p34 (fun c35 => syc (Nat.ble (syo32 (Nat.add (Nat.mul 60 c2) c35)) (syo32 c29)) (k28 t30)
  (srR t30 a0 30 (fun c36 => syr c36 (fun a37 => syi e a37 c29 (fun p38 => srI t30 a37 p38 (fun c39 => syf (sysr c39 8) (fun c40 => srR t30 a0 30 (fun c41 => syr c41 (fun a42 => syi e a42 c29 (fun p43 => srI t30 a42 p43 (fun c44 => syf (Nat.land c44 255) (fun c45 => sbi (sX12_stateMany e t30 a0) (fun c46 => syc (Nat.ble (Nat.succ (syo32 (Nat.lor c40 c45))) (syo32 c46)) (sbi (sX12_shifted e t30 a0 c40 c3) (fun c47 => sbi (sX12_shifted e t30 a0 c45 c3) (fun c48 => syf (Nat.add (Nat.mul 256 c47) c48) (fun c49 => srR t30 a0 33 (fun c50 => syr c50 (fun a51 => syi e a51 c49 (fun p52 => srJ t30 a51 p52 (fun c53 => srR t30 a0 31 (fun c54 => syr c54 (fun a55 => syi e a55 c29 (fun p56 => srI t30 a55 p56 (fun c57 => syi e a51 c49 (fun p58 => swJ e t30 a51 p58 (Nat.add c53 (sy2l c57)) (fun t59 => srR t59 a0 34 (fun c60 => syr c60 (fun a61 => syi e a61 c49 (fun p62 => srJ t59 a61 p62 (fun c63 => srR t59 a0 32 (fun c64 => syr c64 (fun a65 => syi e a65 c29 (fun p66 => srI t59 a65 p66 (fun c67 => syi e a61 c49 (fun p68 => swJ e t59 a61 p68 (Nat.add c63 (sy2l c67)) (fun t69 => syf (Nat.add c29 1) (fun c70 => k31 c70 t69)))))))))))))))))))))))))
  (some (4294967293, t30))))))))))))))))))
noncomputable def sX12_shift (e : Se) (t : Sy) (a0 : Nat) (c1 : Nat) (c2 : Nat) (c3 : Nat) : Option (Nat × Sy) :=
  sbi (sX12_noSum c1) (fun c21 => syc (Nat.beq (Nat.mod c21 4294967296) (Nat.mod 0 4294967296)) (sbi (sX12_noSum c2) (fun c22 => syc (Nat.beq (Nat.mod c22 4294967296) (Nat.mod 0 4294967296)) (sbi (sX12_in (sy2l c3) 0 7) (fun c23 => syc (Nat.beq (Nat.mod c23 4294967296) (Nat.mod 0 4294967296)) (some (4294967294, t))
  (sbV (sX12_startSum e t a0) (fun t24 => syf (Nat.mul 60 c2) (fun c25 => zjn (sX12_shift_J1 e a0 c1) (fun (k28 : Sy → Option (Nat × Sy)) =>
  syl (fun _ _ => (none : Option (Nat × Sy))) (sX12_shift_L2 e a0 c2 c3 k28) zFU c25 t24))))))
  (some (4294967295, t))))
  (some (4294967295, t)))
theorem sX12_shift_ok {ι : Nat → Nat} {e : Se} {h0 h : Zh} {t : Sy} (hι : ∀ a b, ι a = ι b → a = b) (qt : syR ι e h0 t h) {x0 : Nat} {a0 : Nat} {x1 : Int32} {c1 : Nat} {x2 : Int32} {c2 : Nat} {x3 : Int32} {c3 : Nat} (q0 : yA ι x0 a0) (q1 : yI x1 c1) (q2 : yI x2 c2) (q3 : yI x3 c3) : Sm (fun b a => yI a.1 b.1 ∧ syR ι e h0 b.2 a.2) (sX12_shift e t a0 c1 c2 c3) (gX12_shift h x0 x1 x2 x3) := by
  unfold sX12_shift gX12_shift
  refine sm_bi (sX12_noSum_ok q1) (fun _ c21 q21 => ?_)
  refine sm_if (sy_eq32 q21 (yI_lit 0)) ?_ ?_
  · refine sm_bi (sX12_noSum_ok q2) (fun _ c22 q22 => ?_)
    refine sm_if (sy_eq32 q22 (yI_lit 0)) ?_ ?_
    · refine sm_bi (sX12_in_ok (yJ_i2l q3) (yJ_lit 0) (yJ_lit 7)) (fun _ c23 q23 => ?_)
      refine sm_if (sy_eq32 q23 (yI_lit 0)) ?_ ?_
      · exact sm_some ⟨(show yI (-2) 4294967294 from by unfold yI; decide), qt⟩
      · refine sm_bV (sX12_startSum_ok hι qt q0) (fun _ t24 qt24 => ?_)
        refine sm_lti (yI_mul (yI_lit 60) q2) (fun _ c25 q25 => ?_)
        refine sm_jn (fun (k' : Sy → Option (Nat × Sy)) (k : Zh → Option (Int32 × Zh)) => ∀ (t26 : Sy) (h26 : Zh), syR ι e h0 t26 h26 → Sm (fun b a => yI a.1 b.1 ∧ syR ι e h0 b.2 a.2) (k' t26) (k h26)) ?_ ?_
        · intro t26 h26 qt26
          unfold sX12_shift_J1 gX12_shift_J1
          refine sm_bI (sX12_putOrSpent_ok hι qt26 q0 q1) (fun _ c27 q27 _ t27 qt27 => ?_)
          exact sm_some ⟨q27, qt27⟩
        intro k28 gk28 hk28
        refine sm_lp (fun (k' : Nat → Sy → Option (Nat × Sy)) (k : Int32 → Zh → Option (Int32 × Zh)) => ∀ (c29 : Nat) (x29 : Int32) (t30 : Sy) (h30 : Zh), yI x29 c29 → syR ι e h0 t30 h30 → Sm (fun b a => yI a.1 b.1 ∧ syR ι e h0 b.2 a.2) (k' c29 t30) (k x29 h30)) ?_ ?_ zFU _ _ _ _ q25 qt24
        · exact fun _ _ _ _ _ _ => sm_none
        intro k31 gk31 hk31
        intro c29 x29 t30 h30 q29 qt30
        unfold sX12_shift_L2 gX12_shift_L2
        refine sm_rR qt30 q0 rfl (fun _ c32 q32 => ?_)
        refine sm_dr q32 (fun _ a33 q33 => ?_)
        refine sm_in qt30 q33 q2 (fun p34 q34 => ?_)
        refine sm_rI qt30 q33 q34 (fun c35 q35 => ?_)
        refine sm_if (sy_le32 (yI_add (yI_mul (yI_lit 60) q2) q35) q29) ?_ ?_
        · exact hk28 _ _ qt30
        · refine sm_rR qt30 q0 rfl (fun _ c36 q36 => ?_)
          refine sm_dr q36 (fun _ a37 q37 => ?_)
          refine sm_in qt30 q37 q29 (fun p38 q38 => ?_)
          refine sm_rI qt30 q37 q38 (fun c39 q39 => ?_)
          refine sm_lti (yI_shr q39 (yI_lit 8)) (fun _ c40 q40 => ?_)
          refine sm_rR qt30 q0 rfl (fun _ c41 q41 => ?_)
          refine sm_dr q41 (fun _ a42 q42 => ?_)
          refine sm_in qt30 q42 q29 (fun p43 q43 => ?_)
          refine sm_rI qt30 q42 q43 (fun c44 q44 => ?_)
          refine sm_lti (yI_and q44 (yI_lit 255)) (fun _ c45 q45 => ?_)
          refine sm_bi (sX12_stateMany_ok hι qt30 q0) (fun _ c46 q46 => ?_)
          refine sm_if (sy_lt32 (yI_or q40 q45) q46) ?_ ?_
          · refine sm_bi (sX12_shifted_ok hι qt30 q0 q40 q3) (fun _ c47 q47 => ?_)
            refine sm_bi (sX12_shifted_ok hι qt30 q0 q45 q3) (fun _ c48 q48 => ?_)
            refine sm_lti (yI_add (yI_mul (yI_lit 256) q47) q48) (fun _ c49 q49 => ?_)
            refine sm_rR qt30 q0 rfl (fun _ c50 q50 => ?_)
            refine sm_dr q50 (fun _ a51 q51 => ?_)
            refine sm_in qt30 q51 q49 (fun p52 q52 => ?_)
            refine sm_rJ qt30 q51 q52 (fun c53 q53 => ?_)
            refine sm_rR qt30 q0 rfl (fun _ c54 q54 => ?_)
            refine sm_dr q54 (fun _ a55 q55 => ?_)
            refine sm_in qt30 q55 q29 (fun p56 q56 => ?_)
            refine sm_rI qt30 q55 q56 (fun c57 q57 => ?_)
            refine sm_in qt30 q51 q49 (fun p58 q58 => ?_)
            refine sm_wJ hι qt30 q51 q58 (yJ_add q53 (yJ_i2l q57)) (fun _ t59 qt59 => ?_)
            refine sm_rR qt59 q0 rfl (fun _ c60 q60 => ?_)
            refine sm_dr q60 (fun _ a61 q61 => ?_)
            refine sm_in qt59 q61 q49 (fun p62 q62 => ?_)
            refine sm_rJ qt59 q61 q62 (fun c63 q63 => ?_)
            refine sm_rR qt59 q0 rfl (fun _ c64 q64 => ?_)
            refine sm_dr q64 (fun _ a65 q65 => ?_)
            refine sm_in qt59 q65 q29 (fun p66 q66 => ?_)
            refine sm_rI qt59 q65 q66 (fun c67 q67 => ?_)
            refine sm_in qt59 q61 q49 (fun p68 q68 => ?_)
            refine sm_wJ hι qt59 q61 q68 (yJ_add q63 (yJ_i2l q67)) (fun _ t69 qt69 => ?_)
            refine sm_f ?_
            exact hk31 _ _ _ _ (yI_add q29 (yI_lit 1)) qt69
          · exact sm_some ⟨(show yI (-3) 4294967293 from by unfold yI; decide), qt30⟩
    · exact sm_some ⟨(show yI (-1) 4294967295 from by unfold yI; decide), qt⟩
  · exact sm_some ⟨(show yI (-1) 4294967295 from by unfold yI; decide), qt⟩
noncomputable def sX12_word_J1 : Option (Nat) :=
  sbj (sX12_lost ) (fun c22 => some c22)
noncomputable def sX12_word (e : Se) (t : Sy) (a0 : Nat) (c1 : Nat) (c2 : Nat) (c3 : Nat) : Option (Nat) :=
  sbi (sX12_noSum c1) (fun c21 => zjn sX12_word_J1 (fun (k23 : Option (Nat)) =>
  syc (Nat.beq (Nat.mod c21 4294967296) (Nat.mod 0 4294967296)) (srR t a0 29 (fun c24 => syr c24 (fun a25 => syi e a25 c1 (fun p26 => srI t a25 p26 (fun c27 => sbi (sX12_in (sy2l c2) 0 (Nat.add (sy2l c27) (syn64 1))) (fun c28 => syc (Nat.beq (Nat.mod c28 4294967296) (Nat.mod 0 4294967296)) (k23)
  (syf (Nat.add (Nat.mul 60 c1) c2) (fun c29 => syc (Nat.beq (Nat.mod c3 4294967296) (Nat.mod 0 4294967296)) (srR t a0 30 (fun c30 => syr c30 (fun a31 => syi e a31 c29 (fun p32 => srI t a31 p32 (fun c33 => some (sy2l (sysr c33 8)))))))
  (syc (Nat.beq (Nat.mod c3 4294967296) (Nat.mod 1 4294967296)) (srR t a0 30 (fun c34 => syr c34 (fun a35 => syi e a35 c29 (fun p36 => srI t a35 p36 (fun c37 => some (sy2l (Nat.land c37 255)))))))
  (syc (Nat.beq (Nat.mod c3 4294967296) (Nat.mod 2 4294967296)) (srR t a0 31 (fun c38 => syr c38 (fun a39 => syi e a39 c29 (fun p40 => srI t a39 p40 (fun c41 => some (sy2l c41))))))
  (syc (Nat.beq (Nat.mod c3 4294967296) (Nat.mod 3 4294967296)) (srR t a0 32 (fun c42 => syr c42 (fun a43 => syi e a43 c29 (fun p44 => srI t a43 p44 (fun c45 => some (sy2l c45))))))
  (sbj (sX12_lost ) (fun c46 => some c46)))))))))))))
  (k23)))
theorem sX12_word_ok {ι : Nat → Nat} {e : Se} {h0 h : Zh} {t : Sy} (hι : ∀ a b, ι a = ι b → a = b) (qt : syR ι e h0 t h) {x0 : Nat} {a0 : Nat} {x1 : Int32} {c1 : Nat} {x2 : Int32} {c2 : Nat} {x3 : Int32} {c3 : Nat} (q0 : yA ι x0 a0) (q1 : yI x1 c1) (q2 : yI x2 c2) (q3 : yI x3 c3) : Sm (fun b a => yJ a b) (sX12_word e t a0 c1 c2 c3) (gX12_word h x0 x1 x2 x3) := by
  unfold sX12_word gX12_word
  refine sm_bi (sX12_noSum_ok q1) (fun _ c21 q21 => ?_)
  refine sm_jn (fun (k' : Option (Nat)) (k : Option (Int64)) => Sm (fun b a => yJ a b) k' k) ?_ ?_
  · skip
    unfold sX12_word_J1 gX12_word_J1
    refine sm_bj (sX12_lost_ok ) (fun _ c22 q22 => ?_)
    exact sm_some q22
  intro k23 gk23 hk23
  refine sm_if (sy_eq32 q21 (yI_lit 0)) ?_ ?_
  · refine sm_rR qt q0 rfl (fun _ c24 q24 => ?_)
    refine sm_dr q24 (fun _ a25 q25 => ?_)
    refine sm_in qt q25 q1 (fun p26 q26 => ?_)
    refine sm_rI qt q25 q26 (fun c27 q27 => ?_)
    refine sm_bi (sX12_in_ok (yJ_i2l q2) (yJ_lit 0) (yJ_sub (yJ_i2l q27) (yJ_lit 1))) (fun _ c28 q28 => ?_)
    refine sm_if (sy_eq32 q28 (yI_lit 0)) ?_ ?_
    · exact hk23
    · refine sm_lti (yI_add (yI_mul (yI_lit 60) q1) q2) (fun _ c29 q29 => ?_)
      refine sm_if (sy_eq32 q3 (yI_lit 0)) ?_ ?_
      · refine sm_rR qt q0 rfl (fun _ c30 q30 => ?_)
        refine sm_dr q30 (fun _ a31 q31 => ?_)
        refine sm_in qt q31 q29 (fun p32 q32 => ?_)
        refine sm_rI qt q31 q32 (fun c33 q33 => ?_)
        exact sm_some (yJ_i2l (yI_shr q33 (yI_lit 8)))
      refine sm_if (sy_eq32 q3 (yI_lit 1)) ?_ ?_
      · refine sm_rR qt q0 rfl (fun _ c34 q34 => ?_)
        refine sm_dr q34 (fun _ a35 q35 => ?_)
        refine sm_in qt q35 q29 (fun p36 q36 => ?_)
        refine sm_rI qt q35 q36 (fun c37 q37 => ?_)
        exact sm_some (yJ_i2l (yI_and q37 (yI_lit 255)))
      refine sm_if (sy_eq32 q3 (yI_lit 2)) ?_ ?_
      · refine sm_rR qt q0 rfl (fun _ c38 q38 => ?_)
        refine sm_dr q38 (fun _ a39 q39 => ?_)
        refine sm_in qt q39 q29 (fun p40 q40 => ?_)
        refine sm_rI qt q39 q40 (fun c41 q41 => ?_)
        exact sm_some (yJ_i2l q41)
      refine sm_if (sy_eq32 q3 (yI_lit 3)) ?_ ?_
      · refine sm_rR qt q0 rfl (fun _ c42 q42 => ?_)
        refine sm_dr q42 (fun _ a43 q43 => ?_)
        refine sm_in qt q43 q29 (fun p44 q44 => ?_)
        refine sm_rI qt q43 q44 (fun c45 q45 => ?_)
        exact sm_some (yJ_i2l q45)
      refine sm_bj (sX12_lost_ok ) (fun _ c46 q46 => ?_)
      exact sm_some q46
  · exact hk23
noncomputable def sX12_words (e : Se) (t : Sy) (a0 : Nat) (c1 : Nat) : Option (Nat) :=
  sbi (sX12_noSum c1) (fun c21 => syc (Nat.beq (Nat.mod c21 4294967296) (Nat.mod 0 4294967296)) (srR t a0 29 (fun c22 => syr c22 (fun a23 => syi e a23 c1 (fun p24 => srI t a23 p24 (fun c25 => some c25)))))
  (some 4294967295))
theorem sX12_words_ok {ι : Nat → Nat} {e : Se} {h0 h : Zh} {t : Sy} (hι : ∀ a b, ι a = ι b → a = b) (qt : syR ι e h0 t h) {x0 : Nat} {a0 : Nat} {x1 : Int32} {c1 : Nat} (q0 : yA ι x0 a0) (q1 : yI x1 c1) : Sm (fun b a => yI a b) (sX12_words e t a0 c1) (gX12_words h x0 x1) := by
  unfold sX12_words gX12_words
  refine sm_bi (sX12_noSum_ok q1) (fun _ c21 q21 => ?_)
  refine sm_if (sy_eq32 q21 (yI_lit 0)) ?_ ?_
  · refine sm_rR qt q0 rfl (fun _ c22 q22 => ?_)
    refine sm_dr q22 (fun _ a23 q23 => ?_)
    refine sm_in qt q23 q1 (fun p24 q24 => ?_)
    refine sm_rI qt q23 q24 (fun c25 q25 => ?_)
    exact sm_some q25
  · exact sm_some (show yI (-1) 4294967295 from by unfold yI; decide)
noncomputable def sX12_bracketOf (e : Se) (t : Sy) (a0 : Nat) (c1 : Nat) (c2 : Nat) : Option (Nat × Sy) :=
  sbV (sX12_startSum e t a0) (fun t21 => sbV (sX12_takeProduct e t21 a0 c1 c2 1) (fun t22 => sbV (sX12_takeProduct e t22 a0 c2 c1 4294967295) (fun t23 => sbi (sX12_madeWords e t23 a0) (fun c24 => some (c24, t23)))))
theorem sX12_bracketOf_ok {ι : Nat → Nat} {e : Se} {h0 h : Zh} {t : Sy} (hι : ∀ a b, ι a = ι b → a = b) (qt : syR ι e h0 t h) {x0 : Nat} {a0 : Nat} {x1 : Int32} {c1 : Nat} {x2 : Int32} {c2 : Nat} (q0 : yA ι x0 a0) (q1 : yI x1 c1) (q2 : yI x2 c2) : Sm (fun b a => yI a.1 b.1 ∧ syR ι e h0 b.2 a.2) (sX12_bracketOf e t a0 c1 c2) (gX12_bracketOf h x0 x1 x2) := by
  unfold sX12_bracketOf gX12_bracketOf
  refine sm_bV (sX12_startSum_ok hι qt q0) (fun _ t21 qt21 => ?_)
  refine sm_bV (sX12_takeProduct_ok hι qt21 q0 q1 q2 (yI_lit 1)) (fun _ t22 qt22 => ?_)
  refine sm_bV (sX12_takeProduct_ok hι qt22 q0 q2 q1 (show yI (-1) 4294967295 from by unfold yI; decide)) (fun _ t23 qt23 => ?_)
  refine sm_bi (sX12_madeWords_ok hι qt23 q0) (fun _ c24 q24 => ?_)
  exact sm_some ⟨q24, qt23⟩
noncomputable def sX12_bracket_J1 (t : Sy) : Option (Nat × Sy) :=
  some (4294967295, t)
noncomputable def sX12_bracket (e : Se) (t : Sy) (a0 : Nat) (c1 : Nat) (c2 : Nat) : Option (Nat × Sy) :=
  sbi (sX12_noSum c1) (fun c21 => zjn (sX12_bracket_J1 t) (fun (k22 : Option (Nat × Sy)) =>
  syc (Nat.beq (Nat.mod c21 4294967296) (Nat.mod 0 4294967296)) (sbi (sX12_noSum c2) (fun c23 => syc (Nat.beq (Nat.mod c23 4294967296) (Nat.mod 0 4294967296)) (sbI (sX12_bracketOf e t a0 c1 c2) (fun c24 t24 => some (c24, t24)))
  (k22)))
  (k22)))
theorem sX12_bracket_ok {ι : Nat → Nat} {e : Se} {h0 h : Zh} {t : Sy} (hι : ∀ a b, ι a = ι b → a = b) (qt : syR ι e h0 t h) {x0 : Nat} {a0 : Nat} {x1 : Int32} {c1 : Nat} {x2 : Int32} {c2 : Nat} (q0 : yA ι x0 a0) (q1 : yI x1 c1) (q2 : yI x2 c2) : Sm (fun b a => yI a.1 b.1 ∧ syR ι e h0 b.2 a.2) (sX12_bracket e t a0 c1 c2) (gX12_bracket h x0 x1 x2) := by
  unfold sX12_bracket gX12_bracket
  refine sm_bi (sX12_noSum_ok q1) (fun _ c21 q21 => ?_)
  refine sm_jn (fun (k' : Option (Nat × Sy)) (k : Option (Int32 × Zh)) => Sm (fun b a => yI a.1 b.1 ∧ syR ι e h0 b.2 a.2) k' k) ?_ ?_
  · skip
    unfold sX12_bracket_J1 gX12_bracket_J1
    exact sm_some ⟨(show yI (-1) 4294967295 from by unfold yI; decide), qt⟩
  intro k22 gk22 hk22
  refine sm_if (sy_eq32 q21 (yI_lit 0)) ?_ ?_
  · refine sm_bi (sX12_noSum_ok q2) (fun _ c23 q23 => ?_)
    refine sm_if (sy_eq32 q23 (yI_lit 0)) ?_ ?_
    · refine sm_bI (sX12_bracketOf_ok hι qt q0 q1 q2) (fun _ c24 q24 _ t24 qt24 => ?_)
      exact sm_some ⟨q24, qt24⟩
    · exact hk22
  · exact hk22
noncomputable def sX12_kept (e : Se) (t : Sy) (a0 : Nat) (c1 : Nat) : Option (Nat × Sy) :=
  sbi (sX12_noSum c1) (fun c21 => syc (Nat.beq (Nat.mod c21 4294967296) (Nat.mod 0 4294967296)) (sbI (sX12_putChain e t a0 4) (fun c22 t22 => sbI (sX12_bracketOf e t22 a0 c1 4) (fun c23 t23 => syc (Nat.beq (Nat.mod c23 4294967296) (Nat.mod 0 4294967296)) (some (1, t23))
  (some (0, t23)))))
  (some (4294967295, t)))
theorem sX12_kept_ok {ι : Nat → Nat} {e : Se} {h0 h : Zh} {t : Sy} (hι : ∀ a b, ι a = ι b → a = b) (qt : syR ι e h0 t h) {x0 : Nat} {a0 : Nat} {x1 : Int32} {c1 : Nat} (q0 : yA ι x0 a0) (q1 : yI x1 c1) : Sm (fun b a => yI a.1 b.1 ∧ syR ι e h0 b.2 a.2) (sX12_kept e t a0 c1) (gX12_kept h x0 x1) := by
  unfold sX12_kept gX12_kept
  refine sm_bi (sX12_noSum_ok q1) (fun _ c21 q21 => ?_)
  refine sm_if (sy_eq32 q21 (yI_lit 0)) ?_ ?_
  · refine sm_bI (sX12_putChain_ok hι qt q0 (yI_lit 4)) (fun _ c22 q22 _ t22 qt22 => ?_)
    refine sm_bI (sX12_bracketOf_ok hι qt22 q0 q1 (yI_lit 4)) (fun _ c23 q23 _ t23 qt23 => ?_)
    refine sm_if (sy_eq32 q23 (yI_lit 0)) ?_ ?_
    · exact sm_some ⟨(yI_lit 1), qt23⟩
    · exact sm_some ⟨(yI_lit 0), qt23⟩
  · exact sm_some ⟨(show yI (-1) 4294967295 from by unfold yI; decide), qt⟩
noncomputable def sX12_takeSnap_J1 (c44 : Nat) (k46 : Nat → Sy → Option (Sy)) : Sy → Option (Sy) :=
  fun (t55 : Sy) => syf (Nat.add c44 1) (fun c56 => k46 c56 t55)
noncomputable def sX12_takeSnap_L2 (e : Se) (a0 : Nat) (c22 : Nat) (c44 : Nat) (k57 : Sy → Option (Sy)) : (Nat → Sy → Option (Sy)) → Nat → Sy → Option (Sy) :=
  fun (k60 : Nat → Sy → Option (Sy)) (c58 : Nat) (t59 : Sy) => syc (Nat.ble (syo32 60) (syo32 c58)) (k57 t59)
  (syf (Nat.add (Nat.add (Nat.add c22 8) (Nat.mul 180 c44)) (Nat.mul 3 c58)) (fun c61 => srR t59 a0 30 (fun c62 => srR t59 a0 35 (fun c63 => syr c63 (fun a64 => syi e a64 c61 (fun p65 => srI t59 a64 p65 (fun c66 => syr c62 (fun a67 => syi e a67 (Nat.add (Nat.mul 60 c44) c58) (fun p68 => swI e t59 a67 p68 c66 (fun t69 => srR t69 a0 31 (fun c70 => srR t69 a0 35 (fun c71 => syr c71 (fun a72 => syi e a72 (Nat.add c61 1) (fun p73 => srI t69 a72 p73 (fun c74 => syr c70 (fun a75 => syi e a75 (Nat.add (Nat.mul 60 c44) c58) (fun p76 => swI e t69 a75 p76 c74 (fun t77 => srR t77 a0 32 (fun c78 => srR t77 a0 35 (fun c79 => syr c79 (fun a80 => syi e a80 (Nat.add c61 2) (fun p81 => srI t77 a80 p81 (fun c82 => syr c78 (fun a83 => syi e a83 (Nat.add (Nat.mul 60 c44) c58) (fun p84 => swI e t77 a83 p84 c82 (fun t85 => syf (Nat.add c58 1) (fun c86 => k60 c86 t85)))))))))))))))))))))))))))
noncomputable def sX12_takeSnap_L3 (e : Se) (a0 : Nat) (c22 : Nat) : (Nat → Sy → Option (Sy)) → Nat → Sy → Option (Sy) :=
  fun (k46 : Nat → Sy → Option (Sy)) (c44 : Nat) (t45 : Sy) => syc (Nat.ble (syo32 4) (syo32 c44)) (some t45)
  (srR t45 a0 29 (fun c47 => srR t45 a0 35 (fun c48 => syr c48 (fun a49 => syi e a49 (Nat.add (Nat.add c22 4) c44) (fun p50 => srI t45 a49 p50 (fun c51 => syr c47 (fun a52 => syi e a52 c44 (fun p53 => swI e t45 a52 p53 c51 (fun t54 => zjn (sX12_takeSnap_J1 c44 k46) (fun (k57 : Sy → Option (Sy)) =>
  syl (fun _ _ => (none : Option (Sy))) (sX12_takeSnap_L2 e a0 c22 c44 k57) zFU 0 t54))))))))))
noncomputable def sX12_takeSnap_J4 (e : Se) (a0 : Nat) (c22 : Nat) (t27 : Sy) : Nat → Option (Sy) :=
  fun (c32 : Nat) => syc (Nat.ble (Nat.mod c32 4294967296) 1) (swI e t27 a0 2 c32 (fun t33 => srR t33 a0 35 (fun c34 => syr c34 (fun a35 => syi e a35 (Nat.add c22 2) (fun p36 => srI t33 a35 p36 (fun c37 => swI e t33 a0 3 c37 (fun t38 => srR t38 a0 35 (fun c39 => syr c39 (fun a40 => syi e a40 (Nat.add c22 3) (fun p41 => srI t38 a40 p41 (fun c42 => swI e t38 a0 4 c42 (fun t43 => syl (fun _ _ => (none : Option (Sy))) (sX12_takeSnap_L3 e a0 c22) zFU 0 t43)))))))))))) none
noncomputable def sX12_takeSnap (e : Se) (t : Sy) (a0 : Nat) : Option (Sy) :=
  srI t a0 37 (fun c21 => syf (Nat.mul 728 c21) (fun c22 => srR t a0 35 (fun c23 => syr c23 (fun a24 => syi e a24 c22 (fun p25 => srI t a24 p25 (fun c26 => swI e t a0 1 c26 (fun t27 => srR t27 a0 35 (fun c28 => syr c28 (fun a29 => syi e a29 (Nat.add c22 1) (fun p30 => srI t27 a29 p30 (fun c31 => zjn (sX12_takeSnap_J4 e a0 c22 t27) (fun (k87 : Nat → Option (Sy)) =>
  syc (Nat.beq (Nat.mod c31 4294967296) (Nat.mod 1 4294967296)) (k87 1)
  (k87 0)))))))))))))
theorem sX12_takeSnap_ok {ι : Nat → Nat} {e : Se} {h0 h : Zh} {t : Sy} (hι : ∀ a b, ι a = ι b → a = b) (qt : syR ι e h0 t h) {x0 : Nat} {a0 : Nat} (q0 : yA ι x0 a0) : Sm (fun b a => syR ι e h0 b a) (sX12_takeSnap e t a0) (gX12_takeSnap h x0) := by
  unfold sX12_takeSnap gX12_takeSnap
  refine sm_rI qt q0 rfl (fun c21 q21 => ?_)
  refine sm_lti (yI_mul (yI_lit 728) q21) (fun _ c22 q22 => ?_)
  refine sm_rR qt q0 rfl (fun _ c23 q23 => ?_)
  refine sm_dr q23 (fun _ a24 q24 => ?_)
  refine sm_in qt q24 q22 (fun p25 q25 => ?_)
  refine sm_rI qt q24 q25 (fun c26 q26 => ?_)
  refine sm_wI hι qt q0 rfl q26 (fun _ t27 qt27 => ?_)
  refine sm_rR qt27 q0 rfl (fun _ c28 q28 => ?_)
  refine sm_dr q28 (fun _ a29 q29 => ?_)
  refine sm_in qt27 q29 (yI_add q22 (yI_lit 1)) (fun p30 q30 => ?_)
  refine sm_rI qt27 q29 q30 (fun c31 q31 => ?_)
  refine sm_jn (fun (k' : Nat → Option (Sy)) (k : Int32 → Option (Zh)) => ∀ (c32 : Nat) (x32 : Int32), yI x32 c32 → Sm (fun b a => syR ι e h0 b a) (k' c32) (k x32)) ?_ ?_
  · intro c32 x32 q32
    unfold sX12_takeSnap_J4 gX12_takeSnap_J4
    refine sm_zb q32 ?_
    refine sm_wI hι qt27 q0 rfl q32 (fun _ t33 qt33 => ?_)
    refine sm_rR qt33 q0 rfl (fun _ c34 q34 => ?_)
    refine sm_dr q34 (fun _ a35 q35 => ?_)
    refine sm_in qt33 q35 (yI_add q22 (yI_lit 2)) (fun p36 q36 => ?_)
    refine sm_rI qt33 q35 q36 (fun c37 q37 => ?_)
    refine sm_wI hι qt33 q0 rfl q37 (fun _ t38 qt38 => ?_)
    refine sm_rR qt38 q0 rfl (fun _ c39 q39 => ?_)
    refine sm_dr q39 (fun _ a40 q40 => ?_)
    refine sm_in qt38 q40 (yI_add q22 (yI_lit 3)) (fun p41 q41 => ?_)
    refine sm_rI qt38 q40 q41 (fun c42 q42 => ?_)
    refine sm_wI hι qt38 q0 rfl q42 (fun _ t43 qt43 => ?_)
    refine sm_lp (fun (k' : Nat → Sy → Option (Sy)) (k : Int32 → Zh → Option (Zh)) => ∀ (c44 : Nat) (x44 : Int32) (t45 : Sy) (h45 : Zh), yI x44 c44 → syR ι e h0 t45 h45 → Sm (fun b a => syR ι e h0 b a) (k' c44 t45) (k x44 h45)) ?_ ?_ zFU _ _ _ _ (yI_lit 0) qt43
    · exact fun _ _ _ _ _ _ => sm_none
    intro k46 gk46 hk46
    intro c44 x44 t45 h45 q44 qt45
    unfold sX12_takeSnap_L3 gX12_takeSnap_L3
    refine sm_if (sy_le32 (yI_lit 4) q44) ?_ ?_
    · exact sm_some qt45
    · refine sm_rR qt45 q0 rfl (fun _ c47 q47 => ?_)
      refine sm_rR qt45 q0 rfl (fun _ c48 q48 => ?_)
      refine sm_dr q48 (fun _ a49 q49 => ?_)
      refine sm_in qt45 q49 (yI_add (yI_add q22 (yI_lit 4)) q44) (fun p50 q50 => ?_)
      refine sm_rI qt45 q49 q50 (fun c51 q51 => ?_)
      refine sm_dr q47 (fun _ a52 q52 => ?_)
      refine sm_in qt45 q52 q44 (fun p53 q53 => ?_)
      refine sm_wI hι qt45 q52 q53 q51 (fun _ t54 qt54 => ?_)
      refine sm_jn (fun (k' : Sy → Option (Sy)) (k : Zh → Option (Zh)) => ∀ (t55 : Sy) (h55 : Zh), syR ι e h0 t55 h55 → Sm (fun b a => syR ι e h0 b a) (k' t55) (k h55)) ?_ ?_
      · intro t55 h55 qt55
        unfold sX12_takeSnap_J1 gX12_takeSnap_J1
        refine sm_f ?_
        exact hk46 _ _ _ _ (yI_add q44 (yI_lit 1)) qt55
      intro k57 gk57 hk57
      refine sm_lp (fun (k' : Nat → Sy → Option (Sy)) (k : Int32 → Zh → Option (Zh)) => ∀ (c58 : Nat) (x58 : Int32) (t59 : Sy) (h59 : Zh), yI x58 c58 → syR ι e h0 t59 h59 → Sm (fun b a => syR ι e h0 b a) (k' c58 t59) (k x58 h59)) ?_ ?_ zFU _ _ _ _ (yI_lit 0) qt54
      · exact fun _ _ _ _ _ _ => sm_none
      intro k60 gk60 hk60
      intro c58 x58 t59 h59 q58 qt59
      unfold sX12_takeSnap_L2 gX12_takeSnap_L2
      refine sm_if (sy_le32 (yI_lit 60) q58) ?_ ?_
      · exact hk57 _ _ qt59
      · refine sm_lti (yI_add (yI_add (yI_add q22 (yI_lit 8)) (yI_mul (yI_lit 180) q44)) (yI_mul (yI_lit 3) q58)) (fun _ c61 q61 => ?_)
        refine sm_rR qt59 q0 rfl (fun _ c62 q62 => ?_)
        refine sm_rR qt59 q0 rfl (fun _ c63 q63 => ?_)
        refine sm_dr q63 (fun _ a64 q64 => ?_)
        refine sm_in qt59 q64 q61 (fun p65 q65 => ?_)
        refine sm_rI qt59 q64 q65 (fun c66 q66 => ?_)
        refine sm_dr q62 (fun _ a67 q67 => ?_)
        refine sm_in qt59 q67 (yI_add (yI_mul (yI_lit 60) q44) q58) (fun p68 q68 => ?_)
        refine sm_wI hι qt59 q67 q68 q66 (fun _ t69 qt69 => ?_)
        refine sm_rR qt69 q0 rfl (fun _ c70 q70 => ?_)
        refine sm_rR qt69 q0 rfl (fun _ c71 q71 => ?_)
        refine sm_dr q71 (fun _ a72 q72 => ?_)
        refine sm_in qt69 q72 (yI_add q61 (yI_lit 1)) (fun p73 q73 => ?_)
        refine sm_rI qt69 q72 q73 (fun c74 q74 => ?_)
        refine sm_dr q70 (fun _ a75 q75 => ?_)
        refine sm_in qt69 q75 (yI_add (yI_mul (yI_lit 60) q44) q58) (fun p76 q76 => ?_)
        refine sm_wI hι qt69 q75 q76 q74 (fun _ t77 qt77 => ?_)
        refine sm_rR qt77 q0 rfl (fun _ c78 q78 => ?_)
        refine sm_rR qt77 q0 rfl (fun _ c79 q79 => ?_)
        refine sm_dr q79 (fun _ a80 q80 => ?_)
        refine sm_in qt77 q80 (yI_add q61 (yI_lit 2)) (fun p81 q81 => ?_)
        refine sm_rI qt77 q80 q81 (fun c82 q82 => ?_)
        refine sm_dr q78 (fun _ a83 q83 => ?_)
        refine sm_in qt77 q83 (yI_add (yI_mul (yI_lit 60) q44) q58) (fun p84 q84 => ?_)
        refine sm_wI hι qt77 q83 q84 q82 (fun _ t85 qt85 => ?_)
        refine sm_f ?_
        exact hk60 _ _ _ _ (yI_add q58 (yI_lit 1)) qt85
  intro k87 gk87 hk87
  refine sm_if (sy_eq32 q31 (yI_lit 1)) ?_ ?_
  · exact hk87 _ _ (yI_lit 1)
  · exact hk87 _ _ (yI_lit 0)
noncomputable def sX12_undo (e : Se) (t : Sy) (a0 : Nat) : Option (Nat × Sy) :=
  srI t a0 37 (fun c21 => syc (Nat.beq (Nat.mod c21 4294967296) (Nat.mod 0 4294967296)) (some (4294967293, t))
  (srI t a0 37 (fun c22 => swI e t a0 37 (Nat.add c22 (syn32 1)) (fun t23 => sbV (sX12_takeSnap e t23 a0) (fun t24 => srI t24 a0 37 (fun c25 => some (c25, t24)))))))
theorem sX12_undo_ok {ι : Nat → Nat} {e : Se} {h0 h : Zh} {t : Sy} (hι : ∀ a b, ι a = ι b → a = b) (qt : syR ι e h0 t h) {x0 : Nat} {a0 : Nat} (q0 : yA ι x0 a0) : Sm (fun b a => yI a.1 b.1 ∧ syR ι e h0 b.2 a.2) (sX12_undo e t a0) (gX12_undo h x0) := by
  unfold sX12_undo gX12_undo
  refine sm_rI qt q0 rfl (fun c21 q21 => ?_)
  refine sm_if (sy_eq32 q21 (yI_lit 0)) ?_ ?_
  · exact sm_some ⟨(show yI (-3) 4294967293 from by unfold yI; decide), qt⟩
  · refine sm_rI qt q0 rfl (fun c22 q22 => ?_)
    refine sm_wI hι qt q0 rfl (yI_sub q22 (yI_lit 1)) (fun _ t23 qt23 => ?_)
    refine sm_bV (sX12_takeSnap_ok hι qt23 q0) (fun _ t24 qt24 => ?_)
    refine sm_rI qt24 q0 rfl (fun c25 q25 => ?_)
    exact sm_some ⟨q25, qt24⟩
noncomputable def sX12_redo (e : Se) (t : Sy) (a0 : Nat) : Option (Nat × Sy) :=
  srI t a0 37 (fun c21 => srI t a0 36 (fun c22 => syc (Nat.beq (Nat.mod (Nat.add c21 1) 4294967296) (Nat.mod c22 4294967296)) (some (4294967293, t))
  (srI t a0 37 (fun c23 => swI e t a0 37 (Nat.add c23 1) (fun t24 => sbV (sX12_takeSnap e t24 a0) (fun t25 => srI t25 a0 37 (fun c26 => some (c26, t25))))))))
theorem sX12_redo_ok {ι : Nat → Nat} {e : Se} {h0 h : Zh} {t : Sy} (hι : ∀ a b, ι a = ι b → a = b) (qt : syR ι e h0 t h) {x0 : Nat} {a0 : Nat} (q0 : yA ι x0 a0) : Sm (fun b a => yI a.1 b.1 ∧ syR ι e h0 b.2 a.2) (sX12_redo e t a0) (gX12_redo h x0) := by
  unfold sX12_redo gX12_redo
  refine sm_rI qt q0 rfl (fun c21 q21 => ?_)
  refine sm_rI qt q0 rfl (fun c22 q22 => ?_)
  refine sm_if (sy_eq32 (yI_add q21 (yI_lit 1)) q22) ?_ ?_
  · exact sm_some ⟨(show yI (-3) 4294967293 from by unfold yI; decide), qt⟩
  · refine sm_rI qt q0 rfl (fun c23 q23 => ?_)
    refine sm_wI hι qt q0 rfl (yI_add q23 (yI_lit 1)) (fun _ t24 qt24 => ?_)
    refine sm_bV (sX12_takeSnap_ok hι qt24 q0) (fun _ t25 qt25 => ?_)
    refine sm_rI qt25 q0 rfl (fun c26 q26 => ?_)
    exact sm_some ⟨q26, qt25⟩
noncomputable def sX12_sheet_J1 (e : Se) (t : Sy) (a0 : Nat) : Option (Nat × Sy) :=
  sbI (sX12_refused e t a0 4294967294) (fun c23 t23 => some (c23, t23))
noncomputable def sX12_sheet_J2 (e : Se) (a0 : Nat) : Sy → Option (Nat × Sy) :=
  fun (t33 : Sy) => sbI (sX12_refused e t33 a0 1) (fun c34 t34 => some (c34, t34))
noncomputable def sX12_sheet_L3 (e : Se) (a0 : Nat) (c1 : Nat) (c3 : Nat) (k35 : Sy → Option (Nat × Sy)) : (Nat → Sy → Option (Nat × Sy)) → Nat → Sy → Option (Nat × Sy) :=
  fun (k38 : Nat → Sy → Option (Nat × Sy)) (c36 : Nat) (t37 : Sy) => syc (Nat.ble (syo32 c3) (syo32 c36)) (k35 t37)
  (srR t37 a0 40 (fun c39 => syr c39 (fun a40 => syi e a40 (Nat.add (Nat.mul 60 c1) c36) (fun p41 => swI e t37 a40 p41 0 (fun t42 => syf (Nat.add c36 1) (fun c43 => k38 c43 t42))))))
noncomputable def sX12_sheet (e : Se) (t : Sy) (a0 : Nat) (c1 : Nat) (c2 : Nat) (c3 : Nat) : Option (Nat × Sy) :=
  sbi (sX12_noSheet c1) (fun c21 => syc (Nat.beq (Nat.mod c21 4294967296) (Nat.mod 0 4294967296)) (sbi (sX12_in (sy2l c2) 0 2) (fun c22 => zjn (sX12_sheet_J1 e t a0) (fun (k24 : Option (Nat × Sy)) =>
  syc (Nat.beq (Nat.mod c22 4294967296) (Nat.mod 0 4294967296)) (k24)
  (syc (Nat.ble (syo32 c3) (syo32 60)) (syc (Nat.ble (syo32 0) (syo32 c3)) (srR t a0 38 (fun c25 => syr c25 (fun a26 => syi e a26 c1 (fun p27 => swI e t a26 p27 c3 (fun t28 => srR t28 a0 39 (fun c29 => syr c29 (fun a30 => syi e a30 c1 (fun p31 => swI e t28 a30 p31 c2 (fun t32 => zjn (sX12_sheet_J2 e a0) (fun (k35 : Sy → Option (Nat × Sy)) =>
  syl (fun _ _ => (none : Option (Nat × Sy))) (sX12_sheet_L3 e a0 c1 c3 k35) zFU 0 t32))))))))))
  (sbI (sX12_failed e t a0 4) (fun c44 t44 => some (c44, t44))))
  (k24)))))
  (sbI (sX12_refused e t a0 4294967295) (fun c45 t45 => some (c45, t45))))
theorem sX12_sheet_ok {ι : Nat → Nat} {e : Se} {h0 h : Zh} {t : Sy} (hι : ∀ a b, ι a = ι b → a = b) (qt : syR ι e h0 t h) {x0 : Nat} {a0 : Nat} {x1 : Int32} {c1 : Nat} {x2 : Int32} {c2 : Nat} {x3 : Int32} {c3 : Nat} (q0 : yA ι x0 a0) (q1 : yI x1 c1) (q2 : yI x2 c2) (q3 : yI x3 c3) : Sm (fun b a => yI a.1 b.1 ∧ syR ι e h0 b.2 a.2) (sX12_sheet e t a0 c1 c2 c3) (gX12_sheet h x0 x1 x2 x3) := by
  unfold sX12_sheet gX12_sheet
  refine sm_bi (sX12_noSheet_ok q1) (fun _ c21 q21 => ?_)
  refine sm_if (sy_eq32 q21 (yI_lit 0)) ?_ ?_
  · refine sm_bi (sX12_in_ok (yJ_i2l q2) (yJ_lit 0) (yJ_lit 2)) (fun _ c22 q22 => ?_)
    refine sm_jn (fun (k' : Option (Nat × Sy)) (k : Option (Int32 × Zh)) => Sm (fun b a => yI a.1 b.1 ∧ syR ι e h0 b.2 a.2) k' k) ?_ ?_
    · skip
      unfold sX12_sheet_J1 gX12_sheet_J1
      refine sm_bI (sX12_refused_ok hι qt q0 (show yI (-2) 4294967294 from by unfold yI; decide)) (fun _ c23 q23 _ t23 qt23 => ?_)
      exact sm_some ⟨q23, qt23⟩
    intro k24 gk24 hk24
    refine sm_if (sy_eq32 q22 (yI_lit 0)) ?_ ?_
    · exact hk24
    · refine sm_if (sy_le32 q3 (yI_lit 60)) ?_ ?_
      · refine sm_if (sy_le32 (yI_lit 0) q3) ?_ ?_
        · refine sm_rR qt q0 rfl (fun _ c25 q25 => ?_)
          refine sm_dr q25 (fun _ a26 q26 => ?_)
          refine sm_in qt q26 q1 (fun p27 q27 => ?_)
          refine sm_wI hι qt q26 q27 q3 (fun _ t28 qt28 => ?_)
          refine sm_rR qt28 q0 rfl (fun _ c29 q29 => ?_)
          refine sm_dr q29 (fun _ a30 q30 => ?_)
          refine sm_in qt28 q30 q1 (fun p31 q31 => ?_)
          refine sm_wI hι qt28 q30 q31 q2 (fun _ t32 qt32 => ?_)
          refine sm_jn (fun (k' : Sy → Option (Nat × Sy)) (k : Zh → Option (Int32 × Zh)) => ∀ (t33 : Sy) (h33 : Zh), syR ι e h0 t33 h33 → Sm (fun b a => yI a.1 b.1 ∧ syR ι e h0 b.2 a.2) (k' t33) (k h33)) ?_ ?_
          · intro t33 h33 qt33
            unfold sX12_sheet_J2 gX12_sheet_J2
            refine sm_bI (sX12_refused_ok hι qt33 q0 (yI_lit 1)) (fun _ c34 q34 _ t34 qt34 => ?_)
            exact sm_some ⟨q34, qt34⟩
          intro k35 gk35 hk35
          refine sm_lp (fun (k' : Nat → Sy → Option (Nat × Sy)) (k : Int32 → Zh → Option (Int32 × Zh)) => ∀ (c36 : Nat) (x36 : Int32) (t37 : Sy) (h37 : Zh), yI x36 c36 → syR ι e h0 t37 h37 → Sm (fun b a => yI a.1 b.1 ∧ syR ι e h0 b.2 a.2) (k' c36 t37) (k x36 h37)) ?_ ?_ zFU _ _ _ _ (yI_lit 0) qt32
          · exact fun _ _ _ _ _ _ => sm_none
          intro k38 gk38 hk38
          intro c36 x36 t37 h37 q36 qt37
          unfold sX12_sheet_L3 gX12_sheet_L3
          refine sm_if (sy_le32 q3 q36) ?_ ?_
          · exact hk35 _ _ qt37
          · refine sm_rR qt37 q0 rfl (fun _ c39 q39 => ?_)
            refine sm_dr q39 (fun _ a40 q40 => ?_)
            refine sm_in qt37 q40 (yI_add (yI_mul (yI_lit 60) q1) q36) (fun p41 q41 => ?_)
            refine sm_wI hι qt37 q40 q41 (yI_lit 0) (fun _ t42 qt42 => ?_)
            refine sm_f ?_
            exact hk38 _ _ _ _ (yI_add q36 (yI_lit 1)) qt42
        · refine sm_bI (sX12_failed_ok hι qt q0 (yI_lit 4)) (fun _ c44 q44 _ t44 qt44 => ?_)
          exact sm_some ⟨q44, qt44⟩
      · exact hk24
  · refine sm_bI (sX12_refused_ok hι qt q0 (show yI (-1) 4294967295 from by unfold yI; decide)) (fun _ c45 q45 _ t45 qt45 => ?_)
    exact sm_some ⟨q45, qt45⟩
noncomputable def sX12_lose_J1 (e : Se) (t : Sy) (a0 : Nat) (c1 : Nat) : Nat → Option (Nat × Sy) :=
  fun (c26 : Nat) => srR t a0 38 (fun c27 => syr c27 (fun a28 => syi e a28 c1 (fun p29 => swI e t a28 p29 4294967295 (fun t30 => some (c26, t30)))))
noncomputable def sX12_lose (e : Se) (t : Sy) (a0 : Nat) (c1 : Nat) : Option (Nat × Sy) :=
  sbi (sX12_noSheet c1) (fun c21 => syc (Nat.beq (Nat.mod c21 4294967296) (Nat.mod 0 4294967296)) (srR t a0 38 (fun c22 => syr c22 (fun a23 => syi e a23 c1 (fun p24 => srI t a23 p24 (fun c25 => zjn (sX12_lose_J1 e t a0 c1) (fun (k31 : Nat → Option (Nat × Sy)) =>
  syc (Nat.ble (syo32 0) (syo32 c25)) (k31 1)
  (k31 0)))))))
  (some (4294967295, t)))
theorem sX12_lose_ok {ι : Nat → Nat} {e : Se} {h0 h : Zh} {t : Sy} (hι : ∀ a b, ι a = ι b → a = b) (qt : syR ι e h0 t h) {x0 : Nat} {a0 : Nat} {x1 : Int32} {c1 : Nat} (q0 : yA ι x0 a0) (q1 : yI x1 c1) : Sm (fun b a => yI a.1 b.1 ∧ syR ι e h0 b.2 a.2) (sX12_lose e t a0 c1) (gX12_lose h x0 x1) := by
  unfold sX12_lose gX12_lose
  refine sm_bi (sX12_noSheet_ok q1) (fun _ c21 q21 => ?_)
  refine sm_if (sy_eq32 q21 (yI_lit 0)) ?_ ?_
  · refine sm_rR qt q0 rfl (fun _ c22 q22 => ?_)
    refine sm_dr q22 (fun _ a23 q23 => ?_)
    refine sm_in qt q23 q1 (fun p24 q24 => ?_)
    refine sm_rI qt q23 q24 (fun c25 q25 => ?_)
    refine sm_jn (fun (k' : Nat → Option (Nat × Sy)) (k : Int32 → Option (Int32 × Zh)) => ∀ (c26 : Nat) (x26 : Int32), yI x26 c26 → Sm (fun b a => yI a.1 b.1 ∧ syR ι e h0 b.2 a.2) (k' c26) (k x26)) ?_ ?_
    · intro c26 x26 q26
      unfold sX12_lose_J1 gX12_lose_J1
      refine sm_rR qt q0 rfl (fun _ c27 q27 => ?_)
      refine sm_dr q27 (fun _ a28 q28 => ?_)
      refine sm_in qt q28 q1 (fun p29 q29 => ?_)
      refine sm_wI hι qt q28 q29 (show yI (-1) 4294967295 from by unfold yI; decide) (fun _ t30 qt30 => ?_)
      exact sm_some ⟨q26, qt30⟩
    intro k31 gk31 hk31
    refine sm_if (sy_le32 (yI_lit 0) q25) ?_ ?_
    · exact hk31 _ _ (yI_lit 1)
    · exact hk31 _ _ (yI_lit 0)
  · exact sm_some ⟨(show yI (-1) 4294967295 from by unfold yI; decide), qt⟩
noncomputable def sX12_noCell (e : Se) (t : Sy) (a0 : Nat) (c1 : Nat) (c2 : Nat) : Option (Nat) :=
  srR t a0 38 (fun c21 => syr c21 (fun a22 => syi e a22 c1 (fun p23 => srI t a22 p23 (fun c24 => syc (Nat.ble (syo32 0) (syo32 c24)) (srR t a0 38 (fun c25 => syr c25 (fun a26 => syi e a26 c1 (fun p27 => srI t a26 p27 (fun c28 => sbi (sX12_in (sy2l c2) 0 (Nat.add (sy2l c28) (syn64 1))) (fun c29 => syc (Nat.beq (Nat.mod c29 4294967296) (Nat.mod 0 4294967296)) (some 3)
  (some 0)))))))
  (some 1)))))
theorem sX12_noCell_ok {ι : Nat → Nat} {e : Se} {h0 h : Zh} {t : Sy} (hι : ∀ a b, ι a = ι b → a = b) (qt : syR ι e h0 t h) {x0 : Nat} {a0 : Nat} {x1 : Int32} {c1 : Nat} {x2 : Int32} {c2 : Nat} (q0 : yA ι x0 a0) (q1 : yI x1 c1) (q2 : yI x2 c2) : Sm (fun b a => yI a b) (sX12_noCell e t a0 c1 c2) (gX12_noCell h x0 x1 x2) := by
  unfold sX12_noCell gX12_noCell
  refine sm_rR qt q0 rfl (fun _ c21 q21 => ?_)
  refine sm_dr q21 (fun _ a22 q22 => ?_)
  refine sm_in qt q22 q1 (fun p23 q23 => ?_)
  refine sm_rI qt q22 q23 (fun c24 q24 => ?_)
  refine sm_if (sy_le32 (yI_lit 0) q24) ?_ ?_
  · refine sm_rR qt q0 rfl (fun _ c25 q25 => ?_)
    refine sm_dr q25 (fun _ a26 q26 => ?_)
    refine sm_in qt q26 q1 (fun p27 q27 => ?_)
    refine sm_rI qt q26 q27 (fun c28 q28 => ?_)
    refine sm_bi (sX12_in_ok (yJ_i2l q2) (yJ_lit 0) (yJ_sub (yJ_i2l q28) (yJ_lit 1))) (fun _ c29 q29 => ?_)
    refine sm_if (sy_eq32 q29 (yI_lit 0)) ?_ ?_
    · exact sm_some (yI_lit 3)
    · exact sm_some (yI_lit 0)
  · exact sm_some (yI_lit 1)
noncomputable def sX12_cell_J1 (t21 : Sy) : Option (Nat × Sy) :=
  sbj (sX12_lost ) (fun c23 => some (c23, t21))
noncomputable def sX12_cell_J2 (e : Se) (a0 : Nat) (c1 : Nat) (c2 : Nat) (t21 : Sy) : Option (Nat × Sy) :=
  sbi (sX12_noCell e t21 a0 c1 c2) (fun c30 => syc (Nat.ble (syo32 c30) (syo32 0)) (srR t21 a0 40 (fun c31 => syr c31 (fun a32 => syi e a32 (Nat.add (Nat.mul 60 c1) c2) (fun p33 => srI t21 a32 p33 (fun c34 => some ((sy2l c34), t21))))))
  (sbi (sX12_noCell e t21 a0 c1 c2) (fun c35 => sbJ (sX12_failedLong e t21 a0 c35) (fun c36 t36 => some (c36, t36)))))
noncomputable def sX12_cell (e : Se) (t : Sy) (a0 : Nat) (c1 : Nat) (c2 : Nat) (c3 : Nat) : Option (Nat × Sy) :=
  swI e t a0 0 0 (fun t21 => sbi (sX12_noSheet c1) (fun c22 => zjn (sX12_cell_J1 t21) (fun (k24 : Option (Nat × Sy)) =>
  syc (Nat.beq (Nat.mod c22 4294967296) (Nat.mod 0 4294967296)) (sbi (sX12_in (sy2l c3) 0 2) (fun c25 => syc (Nat.beq (Nat.mod c25 4294967296) (Nat.mod 0 4294967296)) (k24)
  (srR t21 a0 38 (fun c26 => syr c26 (fun a27 => syi e a27 c1 (fun p28 => srI t21 a27 p28 (fun c29 => zjn (sX12_cell_J2 e a0 c1 c2 t21) (fun (k37 : Option (Nat × Sy)) =>
  syc (Nat.ble (Nat.succ (syo32 c29)) (syo32 0)) (k37)
  (srR t21 a0 39 (fun c38 => syr c38 (fun a39 => syi e a39 c1 (fun p40 => srI t21 a39 p40 (fun c41 => syc (Nat.beq (Nat.mod c41 4294967296) (Nat.mod c3 4294967296)) (k37)
  (sbJ (sX12_failedLong e t21 a0 2) (fun c42 t42 => some (c42, t42))))))))))))))))
  (k24))))
theorem sX12_cell_ok {ι : Nat → Nat} {e : Se} {h0 h : Zh} {t : Sy} (hι : ∀ a b, ι a = ι b → a = b) (qt : syR ι e h0 t h) {x0 : Nat} {a0 : Nat} {x1 : Int32} {c1 : Nat} {x2 : Int32} {c2 : Nat} {x3 : Int32} {c3 : Nat} (q0 : yA ι x0 a0) (q1 : yI x1 c1) (q2 : yI x2 c2) (q3 : yI x3 c3) : Sm (fun b a => yJ a.1 b.1 ∧ syR ι e h0 b.2 a.2) (sX12_cell e t a0 c1 c2 c3) (gX12_cell h x0 x1 x2 x3) := by
  unfold sX12_cell gX12_cell
  refine sm_wI hι qt q0 rfl (yI_lit 0) (fun _ t21 qt21 => ?_)
  refine sm_bi (sX12_noSheet_ok q1) (fun _ c22 q22 => ?_)
  refine sm_jn (fun (k' : Option (Nat × Sy)) (k : Option (Int64 × Zh)) => Sm (fun b a => yJ a.1 b.1 ∧ syR ι e h0 b.2 a.2) k' k) ?_ ?_
  · skip
    unfold sX12_cell_J1 gX12_cell_J1
    refine sm_bj (sX12_lost_ok ) (fun _ c23 q23 => ?_)
    exact sm_some ⟨q23, qt21⟩
  intro k24 gk24 hk24
  refine sm_if (sy_eq32 q22 (yI_lit 0)) ?_ ?_
  · refine sm_bi (sX12_in_ok (yJ_i2l q3) (yJ_lit 0) (yJ_lit 2)) (fun _ c25 q25 => ?_)
    refine sm_if (sy_eq32 q25 (yI_lit 0)) ?_ ?_
    · exact hk24
    · refine sm_rR qt21 q0 rfl (fun _ c26 q26 => ?_)
      refine sm_dr q26 (fun _ a27 q27 => ?_)
      refine sm_in qt21 q27 q1 (fun p28 q28 => ?_)
      refine sm_rI qt21 q27 q28 (fun c29 q29 => ?_)
      refine sm_jn (fun (k' : Option (Nat × Sy)) (k : Option (Int64 × Zh)) => Sm (fun b a => yJ a.1 b.1 ∧ syR ι e h0 b.2 a.2) k' k) ?_ ?_
      · skip
        unfold sX12_cell_J2 gX12_cell_J2
        refine sm_bi (sX12_noCell_ok hι qt21 q0 q1 q2) (fun _ c30 q30 => ?_)
        refine sm_if (sy_le32 q30 (yI_lit 0)) ?_ ?_
        · refine sm_rR qt21 q0 rfl (fun _ c31 q31 => ?_)
          refine sm_dr q31 (fun _ a32 q32 => ?_)
          refine sm_in qt21 q32 (yI_add (yI_mul (yI_lit 60) q1) q2) (fun p33 q33 => ?_)
          refine sm_rI qt21 q32 q33 (fun c34 q34 => ?_)
          exact sm_some ⟨(yJ_i2l q34), qt21⟩
        · refine sm_bi (sX12_noCell_ok hι qt21 q0 q1 q2) (fun _ c35 q35 => ?_)
          refine sm_bJ (sX12_failedLong_ok hι qt21 q0 q35) (fun _ c36 q36 _ t36 qt36 => ?_)
          exact sm_some ⟨q36, qt36⟩
      intro k37 gk37 hk37
      refine sm_if (sy_lt32 q29 (yI_lit 0)) ?_ ?_
      · exact hk37
      · refine sm_rR qt21 q0 rfl (fun _ c38 q38 => ?_)
        refine sm_dr q38 (fun _ a39 q39 => ?_)
        refine sm_in qt21 q39 q1 (fun p40 q40 => ?_)
        refine sm_rI qt21 q39 q40 (fun c41 q41 => ?_)
        refine sm_if (sy_eq32 q41 q3) ?_ ?_
        · exact hk37
        · refine sm_bJ (sX12_failedLong_ok hι qt21 q0 (yI_lit 2)) (fun _ c42 q42 _ t42 qt42 => ?_)
          exact sm_some ⟨q42, qt42⟩
  · exact hk24
noncomputable def sX12_copy_J1 (e : Se) (t : Sy) (a0 : Nat) : Option (Nat × Sy) :=
  sbI (sX12_refused e t a0 4294967295) (fun c22 t22 => some (c22, t22))
noncomputable def sX12_copy_J2 (e : Se) (t : Sy) (a0 : Nat) : Option (Nat × Sy) :=
  sbI (sX12_failed e t a0 1) (fun c29 t29 => some (c29, t29))
noncomputable def sX12_copy_J3 (e : Se) (t : Sy) (a0 : Nat) : Option (Nat × Sy) :=
  sbI (sX12_failed e t a0 3) (fun c48 t48 => some (c48, t48))
noncomputable def sX12_copy_J4 (e : Se) (a0 : Nat) (c5 : Nat) : Sy → Option (Nat × Sy) :=
  fun (t56 : Sy) => sbI (sX12_refused e t56 a0 c5) (fun c57 t57 => some (c57, t57))
noncomputable def sX12_copy_L5 (e : Se) (a0 : Nat) (c3 : Nat) (c4 : Nat) (c5 : Nat) (k58 : Sy → Option (Nat × Sy)) : (Nat → Sy → Option (Nat × Sy)) → Nat → Sy → Option (Nat × Sy) :=
  fun (k61 : Nat → Sy → Option (Nat × Sy)) (c59 : Nat) (t60 : Sy) => syc (Nat.ble (syo32 c5) (syo32 c59)) (k58 t60)
  (srR t60 a0 40 (fun c62 => srR t60 a0 41 (fun c63 => syr c63 (fun a64 => syi e a64 c59 (fun p65 => srI t60 a64 p65 (fun c66 => syr c62 (fun a67 => syi e a67 (Nat.add (Nat.add (Nat.mul 60 c3) c4) c59) (fun p68 => swI e t60 a67 p68 c66 (fun t69 => syf (Nat.add c59 1) (fun c70 => k61 c70 t69))))))))))
noncomputable def sX12_copy_J6 (e : Se) (a0 : Nat) (c3 : Nat) (c4 : Nat) (c5 : Nat) : Sy → Option (Nat × Sy) :=
  fun (t55 : Sy) => zjn (sX12_copy_J4 e a0 c5) (fun (k58 : Sy → Option (Nat × Sy)) =>
  syl (fun _ _ => (none : Option (Nat × Sy))) (sX12_copy_L5 e a0 c3 c4 c5 k58) zFU 0 t55)
noncomputable def sX12_copy_L7 (e : Se) (a0 : Nat) (c1 : Nat) (c2 : Nat) (c5 : Nat) (k71 : Sy → Option (Nat × Sy)) : (Nat → Sy → Option (Nat × Sy)) → Nat → Sy → Option (Nat × Sy) :=
  fun (k74 : Nat → Sy → Option (Nat × Sy)) (c72 : Nat) (t73 : Sy) => syc (Nat.ble (syo32 c5) (syo32 c72)) (k71 t73)
  (srR t73 a0 41 (fun c75 => srR t73 a0 40 (fun c76 => syr c76 (fun a77 => syi e a77 (Nat.add (Nat.add (Nat.mul 60 c1) c2) c72) (fun p78 => srI t73 a77 p78 (fun c79 => syr c75 (fun a80 => syi e a80 c72 (fun p81 => swI e t73 a80 p81 c79 (fun t82 => syf (Nat.add c72 1) (fun c83 => k74 c83 t82))))))))))
noncomputable def sX12_copy (e : Se) (t : Sy) (a0 : Nat) (c1 : Nat) (c2 : Nat) (c3 : Nat) (c4 : Nat) (c5 : Nat) : Option (Nat × Sy) :=
  sbi (sX12_noSheet c1) (fun c21 => zjn (sX12_copy_J1 e t a0) (fun (k23 : Option (Nat × Sy)) =>
  syc (Nat.beq (Nat.mod c21 4294967296) (Nat.mod 0 4294967296)) (sbi (sX12_noSheet c3) (fun c24 => syc (Nat.beq (Nat.mod c24 4294967296) (Nat.mod 0 4294967296)) (srR t a0 38 (fun c25 => syr c25 (fun a26 => syi e a26 c1 (fun p27 => srI t a26 p27 (fun c28 => zjn (sX12_copy_J2 e t a0) (fun (k30 : Option (Nat × Sy)) =>
  syc (Nat.ble (Nat.succ (syo32 c28)) (syo32 0)) (k30)
  (srR t a0 38 (fun c31 => syr c31 (fun a32 => syi e a32 c3 (fun p33 => srI t a32 p33 (fun c34 => syc (Nat.ble (syo32 0) (syo32 c34)) (srR t a0 39 (fun c35 => syr c35 (fun a36 => syi e a36 c1 (fun p37 => srI t a36 p37 (fun c38 => srR t a0 39 (fun c39 => syr c39 (fun a40 => syi e a40 c3 (fun p41 => srI t a40 p41 (fun c42 => syc (Nat.beq (Nat.mod c38 4294967296) (Nat.mod c42 4294967296)) (srR t a0 38 (fun c43 => syr c43 (fun a44 => syi e a44 c1 (fun p45 => srI t a44 p45 (fun c46 => sbi (sX12_isBeyond c2 (sy2l c5) c46) (fun c47 => zjn (sX12_copy_J3 e t a0) (fun (k49 : Option (Nat × Sy)) =>
  syc (Nat.beq (Nat.mod c47 4294967296) (Nat.mod 0 4294967296)) (srR t a0 38 (fun c50 => syr c50 (fun a51 => syi e a51 c3 (fun p52 => srI t a51 p52 (fun c53 => sbi (sX12_isBeyond c4 (sy2l c5) c53) (fun c54 => syc (Nat.beq (Nat.mod c54 4294967296) (Nat.mod 0 4294967296)) (zjn (sX12_copy_J6 e a0 c3 c4 c5) (fun (k71 : Sy → Option (Nat × Sy)) =>
  syl (fun _ _ => (none : Option (Nat × Sy))) (sX12_copy_L7 e a0 c1 c2 c5 k71) zFU 0 t))
  (k49)))))))
  (k49))))))))
  (sbI (sX12_failed e t a0 2) (fun c84 t84 => some (c84, t84))))))))))))
  (k30))))))))))))
  (k23)))
  (k23)))
theorem sX12_copy_ok {ι : Nat → Nat} {e : Se} {h0 h : Zh} {t : Sy} (hι : ∀ a b, ι a = ι b → a = b) (qt : syR ι e h0 t h) {x0 : Nat} {a0 : Nat} {x1 : Int32} {c1 : Nat} {x2 : Int32} {c2 : Nat} {x3 : Int32} {c3 : Nat} {x4 : Int32} {c4 : Nat} {x5 : Int32} {c5 : Nat} (q0 : yA ι x0 a0) (q1 : yI x1 c1) (q2 : yI x2 c2) (q3 : yI x3 c3) (q4 : yI x4 c4) (q5 : yI x5 c5) : Sm (fun b a => yI a.1 b.1 ∧ syR ι e h0 b.2 a.2) (sX12_copy e t a0 c1 c2 c3 c4 c5) (gX12_copy h x0 x1 x2 x3 x4 x5) := by
  unfold sX12_copy gX12_copy
  refine sm_bi (sX12_noSheet_ok q1) (fun _ c21 q21 => ?_)
  refine sm_jn (fun (k' : Option (Nat × Sy)) (k : Option (Int32 × Zh)) => Sm (fun b a => yI a.1 b.1 ∧ syR ι e h0 b.2 a.2) k' k) ?_ ?_
  · skip
    unfold sX12_copy_J1 gX12_copy_J1
    refine sm_bI (sX12_refused_ok hι qt q0 (show yI (-1) 4294967295 from by unfold yI; decide)) (fun _ c22 q22 _ t22 qt22 => ?_)
    exact sm_some ⟨q22, qt22⟩
  intro k23 gk23 hk23
  refine sm_if (sy_eq32 q21 (yI_lit 0)) ?_ ?_
  · refine sm_bi (sX12_noSheet_ok q3) (fun _ c24 q24 => ?_)
    refine sm_if (sy_eq32 q24 (yI_lit 0)) ?_ ?_
    · refine sm_rR qt q0 rfl (fun _ c25 q25 => ?_)
      refine sm_dr q25 (fun _ a26 q26 => ?_)
      refine sm_in qt q26 q1 (fun p27 q27 => ?_)
      refine sm_rI qt q26 q27 (fun c28 q28 => ?_)
      refine sm_jn (fun (k' : Option (Nat × Sy)) (k : Option (Int32 × Zh)) => Sm (fun b a => yI a.1 b.1 ∧ syR ι e h0 b.2 a.2) k' k) ?_ ?_
      · skip
        unfold sX12_copy_J2 gX12_copy_J2
        refine sm_bI (sX12_failed_ok hι qt q0 (yI_lit 1)) (fun _ c29 q29 _ t29 qt29 => ?_)
        exact sm_some ⟨q29, qt29⟩
      intro k30 gk30 hk30
      refine sm_if (sy_lt32 q28 (yI_lit 0)) ?_ ?_
      · exact hk30
      · refine sm_rR qt q0 rfl (fun _ c31 q31 => ?_)
        refine sm_dr q31 (fun _ a32 q32 => ?_)
        refine sm_in qt q32 q3 (fun p33 q33 => ?_)
        refine sm_rI qt q32 q33 (fun c34 q34 => ?_)
        refine sm_if (sy_le32 (yI_lit 0) q34) ?_ ?_
        · refine sm_rR qt q0 rfl (fun _ c35 q35 => ?_)
          refine sm_dr q35 (fun _ a36 q36 => ?_)
          refine sm_in qt q36 q1 (fun p37 q37 => ?_)
          refine sm_rI qt q36 q37 (fun c38 q38 => ?_)
          refine sm_rR qt q0 rfl (fun _ c39 q39 => ?_)
          refine sm_dr q39 (fun _ a40 q40 => ?_)
          refine sm_in qt q40 q3 (fun p41 q41 => ?_)
          refine sm_rI qt q40 q41 (fun c42 q42 => ?_)
          refine sm_if (sy_eq32 q38 q42) ?_ ?_
          · refine sm_rR qt q0 rfl (fun _ c43 q43 => ?_)
            refine sm_dr q43 (fun _ a44 q44 => ?_)
            refine sm_in qt q44 q1 (fun p45 q45 => ?_)
            refine sm_rI qt q44 q45 (fun c46 q46 => ?_)
            refine sm_bi (sX12_isBeyond_ok q2 (yJ_i2l q5) q46) (fun _ c47 q47 => ?_)
            refine sm_jn (fun (k' : Option (Nat × Sy)) (k : Option (Int32 × Zh)) => Sm (fun b a => yI a.1 b.1 ∧ syR ι e h0 b.2 a.2) k' k) ?_ ?_
            · skip
              unfold sX12_copy_J3 gX12_copy_J3
              refine sm_bI (sX12_failed_ok hι qt q0 (yI_lit 3)) (fun _ c48 q48 _ t48 qt48 => ?_)
              exact sm_some ⟨q48, qt48⟩
            intro k49 gk49 hk49
            refine sm_if (sy_eq32 q47 (yI_lit 0)) ?_ ?_
            · refine sm_rR qt q0 rfl (fun _ c50 q50 => ?_)
              refine sm_dr q50 (fun _ a51 q51 => ?_)
              refine sm_in qt q51 q3 (fun p52 q52 => ?_)
              refine sm_rI qt q51 q52 (fun c53 q53 => ?_)
              refine sm_bi (sX12_isBeyond_ok q4 (yJ_i2l q5) q53) (fun _ c54 q54 => ?_)
              refine sm_if (sy_eq32 q54 (yI_lit 0)) ?_ ?_
              · refine sm_jn (fun (k' : Sy → Option (Nat × Sy)) (k : Zh → Option (Int32 × Zh)) => ∀ (t55 : Sy) (h55 : Zh), syR ι e h0 t55 h55 → Sm (fun b a => yI a.1 b.1 ∧ syR ι e h0 b.2 a.2) (k' t55) (k h55)) ?_ ?_
                · intro t55 h55 qt55
                  unfold sX12_copy_J6 gX12_copy_J6
                  refine sm_jn (fun (k' : Sy → Option (Nat × Sy)) (k : Zh → Option (Int32 × Zh)) => ∀ (t56 : Sy) (h56 : Zh), syR ι e h0 t56 h56 → Sm (fun b a => yI a.1 b.1 ∧ syR ι e h0 b.2 a.2) (k' t56) (k h56)) ?_ ?_
                  · intro t56 h56 qt56
                    unfold sX12_copy_J4 gX12_copy_J4
                    refine sm_bI (sX12_refused_ok hι qt56 q0 q5) (fun _ c57 q57 _ t57 qt57 => ?_)
                    exact sm_some ⟨q57, qt57⟩
                  intro k58 gk58 hk58
                  refine sm_lp (fun (k' : Nat → Sy → Option (Nat × Sy)) (k : Int32 → Zh → Option (Int32 × Zh)) => ∀ (c59 : Nat) (x59 : Int32) (t60 : Sy) (h60 : Zh), yI x59 c59 → syR ι e h0 t60 h60 → Sm (fun b a => yI a.1 b.1 ∧ syR ι e h0 b.2 a.2) (k' c59 t60) (k x59 h60)) ?_ ?_ zFU _ _ _ _ (yI_lit 0) qt55
                  · exact fun _ _ _ _ _ _ => sm_none
                  intro k61 gk61 hk61
                  intro c59 x59 t60 h60 q59 qt60
                  unfold sX12_copy_L5 gX12_copy_L5
                  refine sm_if (sy_le32 q5 q59) ?_ ?_
                  · exact hk58 _ _ qt60
                  · refine sm_rR qt60 q0 rfl (fun _ c62 q62 => ?_)
                    refine sm_rR qt60 q0 rfl (fun _ c63 q63 => ?_)
                    refine sm_dr q63 (fun _ a64 q64 => ?_)
                    refine sm_in qt60 q64 q59 (fun p65 q65 => ?_)
                    refine sm_rI qt60 q64 q65 (fun c66 q66 => ?_)
                    refine sm_dr q62 (fun _ a67 q67 => ?_)
                    refine sm_in qt60 q67 (yI_add (yI_add (yI_mul (yI_lit 60) q3) q4) q59) (fun p68 q68 => ?_)
                    refine sm_wI hι qt60 q67 q68 q66 (fun _ t69 qt69 => ?_)
                    refine sm_f ?_
                    exact hk61 _ _ _ _ (yI_add q59 (yI_lit 1)) qt69
                intro k71 gk71 hk71
                refine sm_lp (fun (k' : Nat → Sy → Option (Nat × Sy)) (k : Int32 → Zh → Option (Int32 × Zh)) => ∀ (c72 : Nat) (x72 : Int32) (t73 : Sy) (h73 : Zh), yI x72 c72 → syR ι e h0 t73 h73 → Sm (fun b a => yI a.1 b.1 ∧ syR ι e h0 b.2 a.2) (k' c72 t73) (k x72 h73)) ?_ ?_ zFU _ _ _ _ (yI_lit 0) qt
                · exact fun _ _ _ _ _ _ => sm_none
                intro k74 gk74 hk74
                intro c72 x72 t73 h73 q72 qt73
                unfold sX12_copy_L7 gX12_copy_L7
                refine sm_if (sy_le32 q5 q72) ?_ ?_
                · exact hk71 _ _ qt73
                · refine sm_rR qt73 q0 rfl (fun _ c75 q75 => ?_)
                  refine sm_rR qt73 q0 rfl (fun _ c76 q76 => ?_)
                  refine sm_dr q76 (fun _ a77 q77 => ?_)
                  refine sm_in qt73 q77 (yI_add (yI_add (yI_mul (yI_lit 60) q1) q2) q72) (fun p78 q78 => ?_)
                  refine sm_rI qt73 q77 q78 (fun c79 q79 => ?_)
                  refine sm_dr q75 (fun _ a80 q80 => ?_)
                  refine sm_in qt73 q80 q72 (fun p81 q81 => ?_)
                  refine sm_wI hι qt73 q80 q81 q79 (fun _ t82 qt82 => ?_)
                  refine sm_f ?_
                  exact hk74 _ _ _ _ (yI_add q72 (yI_lit 1)) qt82
              · exact hk49
            · exact hk49
          · refine sm_bI (sX12_failed_ok hι qt q0 (yI_lit 2)) (fun _ c84 q84 _ t84 qt84 => ?_)
            exact sm_some ⟨q84, qt84⟩
        · exact hk30
    · exact hk23
  · exact hk23
noncomputable def sX12_traced (e : Se) (t : Sy) (a0 : Nat) (c1 : Nat) : Option (Sy) :=
  srI t a0 42 (fun c21 => swI e t a0 42 (Nat.add (Nat.mul 31 c21) c1) (fun t22 => some t22))
theorem sX12_traced_ok {ι : Nat → Nat} {e : Se} {h0 h : Zh} {t : Sy} (hι : ∀ a b, ι a = ι b → a = b) (qt : syR ι e h0 t h) {x0 : Nat} {a0 : Nat} {x1 : Int32} {c1 : Nat} (q0 : yA ι x0 a0) (q1 : yI x1 c1) : Sm (fun b a => syR ι e h0 b a) (sX12_traced e t a0 c1) (gX12_traced h x0 x1) := by
  unfold sX12_traced gX12_traced
  refine sm_rI qt q0 rfl (fun c21 q21 => ?_)
  refine sm_wI hι qt q0 rfl (yI_add (yI_mul (yI_lit 31) q21) q1) (fun _ t22 qt22 => ?_)
  exact sm_some qt22
noncomputable def sX12_tell_J1 (e : Se) (a0 : Nat) (c1 : Nat) (c25 : Nat) : Sy → Option (Nat × Sy) :=
  fun (t30 : Sy) => syc (Nat.beq (Nat.mod c25 4294967296) (Nat.mod 0 4294967296)) (srR t30 a0 21 (fun c39 => syr c39 (fun a40 => syi e a40 c1 (fun p41 => srI t30 a40 p41 (fun c42 => some (c42, t30))))))
  (syc (Nat.beq (Nat.mod c25 4294967296) (Nat.mod 1 4294967296)) (srR t30 a0 21 (fun c35 => syr c35 (fun a36 => syi e a36 c1 (fun p37 => srI t30 a36 p37 (fun c38 => some ((Nat.add c38 100), t30))))))
  (srR t30 a0 21 (fun c31 => syr c31 (fun a32 => syi e a32 c1 (fun p33 => srI t30 a32 p33 (fun c34 => some ((Nat.add (Nat.mul 2 c34) 100), t30)))))))
noncomputable def sX12_tell_J2 (e : Se) (a0 : Nat) (c1 : Nat) (c25 : Nat) : Sy → Option (Nat × Sy) :=
  fun (t28 : Sy) => sbV (sX12_traced e t28 a0 1) (fun t29 => zjn (sX12_tell_J1 e a0 c1 c25) (fun (k43 : Sy → Option (Nat × Sy)) =>
  syc (Nat.beq (Nat.mod c25 4294967296) (Nat.mod 2 4294967296)) (sbV (sX12_traced e t29 a0 1) (fun t44 => k43 t44))
  (k43 t29)))
noncomputable def sX12_tell_J3 (e : Se) (a0 : Nat) (c1 : Nat) (c25 : Nat) : Sy → Option (Nat × Sy) :=
  fun (t27 : Sy) => zjn (sX12_tell_J2 e a0 c1 c25) (fun (k45 : Sy → Option (Nat × Sy)) =>
  syc (Nat.ble (syo32 c25) (syo32 0)) (k45 t27)
  (sbV (sX12_traced e t27 a0 2) (fun t46 => k45 t46)))
noncomputable def sX12_tell (e : Se) (t : Sy) (a0 : Nat) (c1 : Nat) : Option (Nat × Sy) :=
  sbi (sX12_noWeights e t a0 c1) (fun c21 => syc (Nat.beq (Nat.mod c21 4294967296) (Nat.mod 0 4294967296)) (srR t a0 20 (fun c22 => syr c22 (fun a23 => syi e a23 c1 (fun p24 => srI t a23 p24 (fun c25 => zjn (sX12_tell_J3 e a0 c1 c25) (fun (k47 : Sy → Option (Nat × Sy)) =>
  syc (Nat.beq (Nat.mod c25 4294967296) (Nat.mod 2 4294967296)) (sbV (sX12_traced e t a0 3) (fun t48 => k47 t48))
  (k47 t)))))))
  (some (4294967295, t)))
theorem sX12_tell_ok {ι : Nat → Nat} {e : Se} {h0 h : Zh} {t : Sy} (hι : ∀ a b, ι a = ι b → a = b) (qt : syR ι e h0 t h) {x0 : Nat} {a0 : Nat} {x1 : Int32} {c1 : Nat} (q0 : yA ι x0 a0) (q1 : yI x1 c1) : Sm (fun b a => yI a.1 b.1 ∧ syR ι e h0 b.2 a.2) (sX12_tell e t a0 c1) (gX12_tell h x0 x1) := by
  unfold sX12_tell gX12_tell
  refine sm_bi (sX12_noWeights_ok hι qt q0 q1) (fun _ c21 q21 => ?_)
  refine sm_if (sy_eq32 q21 (yI_lit 0)) ?_ ?_
  · refine sm_rR qt q0 rfl (fun _ c22 q22 => ?_)
    refine sm_dr q22 (fun _ a23 q23 => ?_)
    refine sm_in qt q23 q1 (fun p24 q24 => ?_)
    refine sm_rI qt q23 q24 (fun c25 q25 => ?_)
    refine sm_lt0i q25 (fun _ q26 => ?_)
    refine sm_jn (fun (k' : Sy → Option (Nat × Sy)) (k : Zh → Option (Int32 × Zh)) => ∀ (t27 : Sy) (h27 : Zh), syR ι e h0 t27 h27 → Sm (fun b a => yI a.1 b.1 ∧ syR ι e h0 b.2 a.2) (k' t27) (k h27)) ?_ ?_
    · intro t27 h27 qt27
      unfold sX12_tell_J3 gX12_tell_J3
      refine sm_jn (fun (k' : Sy → Option (Nat × Sy)) (k : Zh → Option (Int32 × Zh)) => ∀ (t28 : Sy) (h28 : Zh), syR ι e h0 t28 h28 → Sm (fun b a => yI a.1 b.1 ∧ syR ι e h0 b.2 a.2) (k' t28) (k h28)) ?_ ?_
      · intro t28 h28 qt28
        unfold sX12_tell_J2 gX12_tell_J2
        refine sm_bV (sX12_traced_ok hι qt28 q0 (yI_lit 1)) (fun _ t29 qt29 => ?_)
        refine sm_jn (fun (k' : Sy → Option (Nat × Sy)) (k : Zh → Option (Int32 × Zh)) => ∀ (t30 : Sy) (h30 : Zh), syR ι e h0 t30 h30 → Sm (fun b a => yI a.1 b.1 ∧ syR ι e h0 b.2 a.2) (k' t30) (k h30)) ?_ ?_
        · intro t30 h30 qt30
          unfold sX12_tell_J1 gX12_tell_J1
          refine sm_if (sy_eq32 q26 (yI_lit 0)) ?_ ?_
          · refine sm_rR qt30 q0 rfl (fun _ c39 q39 => ?_)
            refine sm_dr q39 (fun _ a40 q40 => ?_)
            refine sm_in qt30 q40 q1 (fun p41 q41 => ?_)
            refine sm_rI qt30 q40 q41 (fun c42 q42 => ?_)
            exact sm_some ⟨q42, qt30⟩
          · refine sm_if (sy_eq32 q26 (yI_lit 1)) ?_ ?_
            · refine sm_rR qt30 q0 rfl (fun _ c35 q35 => ?_)
              refine sm_dr q35 (fun _ a36 q36 => ?_)
              refine sm_in qt30 q36 q1 (fun p37 q37 => ?_)
              refine sm_rI qt30 q36 q37 (fun c38 q38 => ?_)
              exact sm_some ⟨(yI_add q38 (yI_lit 100)), qt30⟩
            · refine sm_rR qt30 q0 rfl (fun _ c31 q31 => ?_)
              refine sm_dr q31 (fun _ a32 q32 => ?_)
              refine sm_in qt30 q32 q1 (fun p33 q33 => ?_)
              refine sm_rI qt30 q32 q33 (fun c34 q34 => ?_)
              exact sm_some ⟨(yI_add (yI_mul (yI_lit 2) q34) (yI_lit 100)), qt30⟩
        intro k43 gk43 hk43
        refine sm_if (sy_eq32 q26 (yI_lit 2)) ?_ ?_
        · refine sm_bV (sX12_traced_ok hι qt29 q0 (yI_lit 1)) (fun _ t44 qt44 => ?_)
          exact hk43 _ _ qt44
        · exact hk43 _ _ qt29
      intro k45 gk45 hk45
      refine sm_if (sy_le32 q26 (yI_lit 0)) ?_ ?_
      · exact hk45 _ _ qt27
      · refine sm_bV (sX12_traced_ok hι qt27 q0 (yI_lit 2)) (fun _ t46 qt46 => ?_)
        exact hk45 _ _ qt46
    intro k47 gk47 hk47
    refine sm_if (sy_eq32 q26 (yI_lit 2)) ?_ ?_
    · refine sm_bV (sX12_traced_ok hι qt q0 (yI_lit 3)) (fun _ t48 qt48 => ?_)
      exact hk47 _ _ qt48
    · exact hk47 _ _ qt
  · exact sm_some ⟨(show yI (-1) 4294967295 from by unfold yI; decide), qt⟩
noncomputable def sX12_name_J1 (e : Se) (t : Sy) (a0 : Nat) (c1 : Nat) : Nat → Option (Nat × Sy) :=
  fun (c26 : Nat) => sbV (sX12_traced e t a0 c26) (fun t27 => srR t27 a0 20 (fun c28 => syr c28 (fun a29 => syi e a29 c1 (fun p30 => srI t27 a29 p30 (fun c31 => syc (Nat.beq (Nat.mod c31 4294967296) (Nat.mod 2 4294967296)) (some (60, t27))
  (some (c1, t27)))))))
noncomputable def sX12_name (e : Se) (t : Sy) (a0 : Nat) (c1 : Nat) : Option (Nat × Sy) :=
  sbi (sX12_noWeights e t a0 c1) (fun c21 => syc (Nat.beq (Nat.mod c21 4294967296) (Nat.mod 0 4294967296)) (srR t a0 20 (fun c22 => syr c22 (fun a23 => syi e a23 c1 (fun p24 => srI t a23 p24 (fun c25 => zjn (sX12_name_J1 e t a0 c1) (fun (k32 : Nat → Option (Nat × Sy)) =>
  syc (Nat.beq (Nat.mod c25 4294967296) (Nat.mod 2 4294967296)) (k32 5)
  (k32 4)))))))
  (some (4294967295, t)))
theorem sX12_name_ok {ι : Nat → Nat} {e : Se} {h0 h : Zh} {t : Sy} (hι : ∀ a b, ι a = ι b → a = b) (qt : syR ι e h0 t h) {x0 : Nat} {a0 : Nat} {x1 : Int32} {c1 : Nat} (q0 : yA ι x0 a0) (q1 : yI x1 c1) : Sm (fun b a => yI a.1 b.1 ∧ syR ι e h0 b.2 a.2) (sX12_name e t a0 c1) (gX12_name h x0 x1) := by
  unfold sX12_name gX12_name
  refine sm_bi (sX12_noWeights_ok hι qt q0 q1) (fun _ c21 q21 => ?_)
  refine sm_if (sy_eq32 q21 (yI_lit 0)) ?_ ?_
  · refine sm_rR qt q0 rfl (fun _ c22 q22 => ?_)
    refine sm_dr q22 (fun _ a23 q23 => ?_)
    refine sm_in qt q23 q1 (fun p24 q24 => ?_)
    refine sm_rI qt q23 q24 (fun c25 q25 => ?_)
    refine sm_jn (fun (k' : Nat → Option (Nat × Sy)) (k : Int32 → Option (Int32 × Zh)) => ∀ (c26 : Nat) (x26 : Int32), yI x26 c26 → Sm (fun b a => yI a.1 b.1 ∧ syR ι e h0 b.2 a.2) (k' c26) (k x26)) ?_ ?_
    · intro c26 x26 q26
      unfold sX12_name_J1 gX12_name_J1
      refine sm_bV (sX12_traced_ok hι qt q0 q26) (fun _ t27 qt27 => ?_)
      refine sm_rR qt27 q0 rfl (fun _ c28 q28 => ?_)
      refine sm_dr q28 (fun _ a29 q29 => ?_)
      refine sm_in qt27 q29 q1 (fun p30 q30 => ?_)
      refine sm_rI qt27 q29 q30 (fun c31 q31 => ?_)
      refine sm_if (sy_eq32 q31 (yI_lit 2)) ?_ ?_
      · exact sm_some ⟨(yI_lit 60), qt27⟩
      · exact sm_some ⟨q1, qt27⟩
    intro k32 gk32 hk32
    refine sm_if (sy_eq32 q25 (yI_lit 2)) ?_ ?_
    · exact hk32 _ _ (yI_lit 5)
    · exact hk32 _ _ (yI_lit 4)
  · exact sm_some ⟨(show yI (-1) 4294967295 from by unfold yI; decide), qt⟩
noncomputable def sX12_as (e : Se) (t : Sy) (a0 : Nat) (c1 : Nat) (c2 : Nat) : Option (Nat × Sy) :=
  sbi (sX12_noWeights e t a0 c1) (fun c21 => syc (Nat.beq (Nat.mod c21 4294967296) (Nat.mod 0 4294967296)) (sbi (sX12_in (sy2l c2) 0 2) (fun c22 => syc (Nat.beq (Nat.mod c22 4294967296) (Nat.mod 0 4294967296)) (sbI (sX12_refused e t a0 4294967294) (fun c29 t29 => some (c29, t29)))
  (srR t a0 20 (fun c23 => syr c23 (fun a24 => syi e a24 c1 (fun p25 => srI t a24 p25 (fun c26 => syc (Nat.ble (Nat.succ (syo32 c26)) (syo32 c2)) (sbI (sX12_failed e t a0 2) (fun c27 t27 => some (c27, t27)))
  (sbI (sX12_refused e t a0 1) (fun c28 t28 => some (c28, t28))))))))))
  (sbI (sX12_refused e t a0 4294967295) (fun c30 t30 => some (c30, t30))))
theorem sX12_as_ok {ι : Nat → Nat} {e : Se} {h0 h : Zh} {t : Sy} (hι : ∀ a b, ι a = ι b → a = b) (qt : syR ι e h0 t h) {x0 : Nat} {a0 : Nat} {x1 : Int32} {c1 : Nat} {x2 : Int32} {c2 : Nat} (q0 : yA ι x0 a0) (q1 : yI x1 c1) (q2 : yI x2 c2) : Sm (fun b a => yI a.1 b.1 ∧ syR ι e h0 b.2 a.2) (sX12_as e t a0 c1 c2) (gX12_as h x0 x1 x2) := by
  unfold sX12_as gX12_as
  refine sm_bi (sX12_noWeights_ok hι qt q0 q1) (fun _ c21 q21 => ?_)
  refine sm_if (sy_eq32 q21 (yI_lit 0)) ?_ ?_
  · refine sm_bi (sX12_in_ok (yJ_i2l q2) (yJ_lit 0) (yJ_lit 2)) (fun _ c22 q22 => ?_)
    refine sm_if (sy_eq32 q22 (yI_lit 0)) ?_ ?_
    · refine sm_bI (sX12_refused_ok hι qt q0 (show yI (-2) 4294967294 from by unfold yI; decide)) (fun _ c29 q29 _ t29 qt29 => ?_)
      exact sm_some ⟨q29, qt29⟩
    · refine sm_rR qt q0 rfl (fun _ c23 q23 => ?_)
      refine sm_dr q23 (fun _ a24 q24 => ?_)
      refine sm_in qt q24 q1 (fun p25 q25 => ?_)
      refine sm_rI qt q24 q25 (fun c26 q26 => ?_)
      refine sm_if (sy_lt32 q26 q2) ?_ ?_
      · refine sm_bI (sX12_failed_ok hι qt q0 (yI_lit 2)) (fun _ c27 q27 _ t27 qt27 => ?_)
        exact sm_some ⟨q27, qt27⟩
      · refine sm_bI (sX12_refused_ok hι qt q0 (yI_lit 1)) (fun _ c28 q28 _ t28 qt28 => ?_)
        exact sm_some ⟨q28, qt28⟩
  · refine sm_bI (sX12_refused_ok hι qt q0 (show yI (-1) 4294967295 from by unfold yI; decide)) (fun _ c30 q30 _ t30 qt30 => ?_)
    exact sm_some ⟨q30, qt30⟩
noncomputable def sX12_trace (e : Se) (t : Sy) (a0 : Nat) : Option (Nat) :=
  srI t a0 42 (fun c21 => some c21)
theorem sX12_trace_ok {ι : Nat → Nat} {e : Se} {h0 h : Zh} {t : Sy} (hι : ∀ a b, ι a = ι b → a = b) (qt : syR ι e h0 t h) {x0 : Nat} {a0 : Nat} (q0 : yA ι x0 a0) : Sm (fun b a => yI a b) (sX12_trace e t a0) (gX12_trace h x0) := by
  unfold sX12_trace gX12_trace
  refine sm_rI qt q0 rfl (fun c21 q21 => ?_)
  exact sm_some q21
noncomputable def sX12_fault (e : Se) (t : Sy) (a0 : Nat) : Option (Nat) :=
  srI t a0 0 (fun c21 => some c21)
theorem sX12_fault_ok {ι : Nat → Nat} {e : Se} {h0 h : Zh} {t : Sy} (hι : ∀ a b, ι a = ι b → a = b) (qt : syR ι e h0 t h) {x0 : Nat} {a0 : Nat} (q0 : yA ι x0 a0) : Sm (fun b a => yI a b) (sX12_fault e t a0) (gX12_fault h x0) := by
  unfold sX12_fault gX12_fault
  refine sm_rI qt q0 rfl (fun c21 q21 => ?_)
  exact sm_some q21
noncomputable def sX12_many (e : Se) (t : Sy) (a0 : Nat) (c1 : Nat) : Option (Nat) :=
  syc (Nat.beq (Nat.mod c1 4294967296) (Nat.mod 0 4294967296)) (srI t a0 1 (fun c21 => some c21))
  (syc (Nat.beq (Nat.mod c1 4294967296) (Nat.mod 1 4294967296)) (srI t a0 2 (fun c22 => syc (Nat.beq (Nat.mod c22 4294967296) (Nat.mod 0 4294967296)) (some 0)
  (some 1)))
  (syc (Nat.beq (Nat.mod c1 4294967296) (Nat.mod 2 4294967296)) (srI t a0 3 (fun c23 => some c23))
  (syc (Nat.beq (Nat.mod c1 4294967296) (Nat.mod 3 4294967296)) (srI t a0 4 (fun c24 => some (Nat.add 100 c24)))
  (syc (Nat.beq (Nat.mod c1 4294967296) (Nat.mod 4 4294967296)) (sbi (sX12_pairMany e t a0) (fun c25 => some c25))
  (syc (Nat.beq (Nat.mod c1 4294967296) (Nat.mod 5 4294967296)) (srI t a0 19 (fun c26 => some c26))
  (syc (Nat.beq (Nat.mod c1 4294967296) (Nat.mod 6 4294967296)) (srI t a0 37 (fun c27 => some c27))
  (syc (Nat.beq (Nat.mod c1 4294967296) (Nat.mod 7 4294967296)) (srI t a0 36 (fun c28 => srI t a0 37 (fun c29 => some (Nat.add (Nat.add c28 (syn32 1)) (syn32 c29)))))
  (some 4294967294))))))))
theorem sX12_many_ok {ι : Nat → Nat} {e : Se} {h0 h : Zh} {t : Sy} (hι : ∀ a b, ι a = ι b → a = b) (qt : syR ι e h0 t h) {x0 : Nat} {a0 : Nat} {x1 : Int32} {c1 : Nat} (q0 : yA ι x0 a0) (q1 : yI x1 c1) : Sm (fun b a => yI a b) (sX12_many e t a0 c1) (gX12_many h x0 x1) := by
  unfold sX12_many gX12_many
  refine sm_if (sy_eq32 q1 (yI_lit 0)) ?_ ?_
  · refine sm_rI qt q0 rfl (fun c21 q21 => ?_)
    exact sm_some q21
  refine sm_if (sy_eq32 q1 (yI_lit 1)) ?_ ?_
  · refine sm_rI qt q0 rfl (fun c22 q22 => ?_)
    refine sm_if (sy_eq32 q22 (yI_lit 0)) ?_ ?_
    · exact sm_some (yI_lit 0)
    · exact sm_some (yI_lit 1)
  refine sm_if (sy_eq32 q1 (yI_lit 2)) ?_ ?_
  · refine sm_rI qt q0 rfl (fun c23 q23 => ?_)
    exact sm_some q23
  refine sm_if (sy_eq32 q1 (yI_lit 3)) ?_ ?_
  · refine sm_rI qt q0 rfl (fun c24 q24 => ?_)
    exact sm_some (yI_add (yI_lit 100) q24)
  refine sm_if (sy_eq32 q1 (yI_lit 4)) ?_ ?_
  · refine sm_bi (sX12_pairMany_ok hι qt q0) (fun _ c25 q25 => ?_)
    exact sm_some q25
  refine sm_if (sy_eq32 q1 (yI_lit 5)) ?_ ?_
  · refine sm_rI qt q0 rfl (fun c26 q26 => ?_)
    exact sm_some q26
  refine sm_if (sy_eq32 q1 (yI_lit 6)) ?_ ?_
  · refine sm_rI qt q0 rfl (fun c27 q27 => ?_)
    exact sm_some q27
  refine sm_if (sy_eq32 q1 (yI_lit 7)) ?_ ?_
  · refine sm_rI qt q0 rfl (fun c28 q28 => ?_)
    refine sm_rI qt q0 rfl (fun c29 q29 => ?_)
    exact sm_some (yI_sub (yI_sub q28 (yI_lit 1)) q29)
  exact sm_some (show yI (-2) 4294967294 from by unfold yI; decide)
