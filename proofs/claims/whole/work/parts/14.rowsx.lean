/-! the rarer rows -/
section ZY
variable {l : Launch} {α : Type} {M : Zm} {n0 s0 τ : Nat} {cvt : α → Option Value × Zh} {pc pc2 : Nat} {ls ls2 : List (Option (Value × Nat))} {st st0 : List (Value × Nat)} {h : Zh} {g : Option α}
theorem zr_getR2 {i idx τ' k c τ2 : Nat} {fin : Bool} {dc : String} (hf : zFd (mO M) idx τ' k c fin dc) (hc : c = 100 + τ2) (hd : zD M pc (.getfield idx) 3 pc2) (kk : V l M n0 s0 τ cvt pc2 ls ((va_rf (zR h i k), τ2) :: st) h g) : V l M n0 s0 τ cvt pc ls ((.ref i, τ') :: st) h g :=
  zr_getR hf (by omega) hd (by rw [show c - 100 = τ2 by omega]; exact kk)
theorem zr_tab {x c : Int32} {a t len nx : Nat} {dflt lo hi off : Int} {offs : Array Int} {g1 g2 : Option α} (hd : zD M pc (.tableswitch dflt lo hi offs) len nx) (hc : (lo ≤ c.toInt ∧ c.toInt ≤ hi) ∧ offs[(c.toInt - lo).toNat]? = some off) (ht : (pc : Int) + off = (t : Int)) (k1 : V l M n0 s0 τ cvt t ls st h g1) (k2 : ¬ x = c → V l M n0 s0 τ cvt pc ls ((.int x, a) :: st) h g2) : V l M n0 s0 τ cvt pc ls ((.int x, a) :: st) h (if x = c then g1 else g2) := by
  by_cases hx : x = c
  · subst hx
    rw [if_pos rfl]
    exact v_pure k1 (fun _ t => t.tl) (fun p e R s m args below meth c ρ H locs L cells slots Q hx hb ho _ lv k => lv_tableIn hx hb hd.1 (by omega) (by omega) hc.2 ht k)
  · rw [if_neg hx]
    exact k2 hx
theorem zr_tabD {x : Int32} {a t len nx : Nat} {dflt lo hi : Int} {offs : Array Int} (hd : zD M pc (.tableswitch dflt lo hi offs) len nx) (hx : x.toInt < lo ∨ hi < x.toInt) (ht : (pc : Int) + dflt = (t : Int)) (k : V l M n0 s0 τ cvt t ls st h g) : V l M n0 s0 τ cvt pc ls ((.int x, a) :: st) h g :=
  v_pure k (fun _ t => t.tl) (fun p e R s m args below meth c ρ H locs L cells slots Q hx' hb ho _ lv k => lv_tableOut hx' hb hd.1 hx ht k)
theorem zne {x c : Int32} {n : Int} (hc : c.toInt = n) (h : ¬ x = c) : x.toInt ≠ n := fun e => h (Int32.toInt_inj.mp (e.trans hc.symm))
theorem zr_acmp_ne {r r' : Option Nat} {a b t : Nat} {off : Int} {g1 g2 : Option α} (hd : zD M pc (.if_acmp .ne off) 3 pc2) (ht : (pc : Int) + off = (t : Int)) (kt : V l M n0 s0 τ cvt t ls st h g1) (kf : V l M n0 s0 τ cvt pc2 ls st h g2) : V l M n0 s0 τ cvt pc ls ((va_rf r', a) :: (va_rf r, b) :: st) h (if r = r' then g2 else g1) := by
  obtain ⟨hd, rfl⟩ := hd
  intro o ho
  have tk : ∀ {x : Option Nat} {a : Nat} {st' : List (Value × Nat)}, zTo h ((va_rf x, a) :: st') → ∀ j, x = some j → j < zN h := fun t j hj => (zTok_rf t.hd j hj).1
  by_cases hP : r = r'
  · rw [if_pos hP] at ho
    obtain ⟨h1, h2⟩ := kf o ho
    refine ⟨h1, fun wf tl to p e R s m args below meth c D cA ρ0 ρ H locs L cells slots cx rl lv r1 r2 => ?_⟩
    simp only [List.map_cons, zcv_rf]
    exact lv_acmp_ne cx.1 cx.2.1 hd ht (fun n => absurd (by rw [hP]) n) (fun _ => h2 wf tl to.tl.tl p e R s m args below meth c D cA ρ0 ρ H locs L cells slots cx rl lv r1 r2)
  · rw [if_neg hP] at ho
    obtain ⟨h1, h2⟩ := kt o ho
    refine ⟨h1, fun wf tl to p e R s m args below meth c D cA ρ0 ρ H locs L cells slots cx rl lv r1 r2 => ?_⟩
    simp only [List.map_cons, zcv_rf]
    refine lv_acmp_ne cx.1 cx.2.1 hd ht (fun _ => h2 wf tl to.tl.tl p e R s m args below meth c D cA ρ0 ρ H locs L cells slots cx rl lv r1 r2) (fun q => absurd ?_ hP)
    cases hr : r with
    | none => cases hr' : r' with
      | none => rfl
      | some y => rw [hr, hr'] at q; cases q
    | some x => cases hr' : r' with
      | none => rw [hr, hr'] at q; cases q
      | some y =>
        rw [hr, hr'] at q
        have q' : ρ x = ρ y := by simpa using q
        have := rl.2.2.1.1 x y _ _ (zWs_at (tk to.tl x hr)) (zWs_at (tk to y hr')) q'
        rw [this]
/-- whether it is one of these kinds -/
def zio (h : Zh) (r : Option Nat) (ks : List Nat) : Int32 := match r with
  | none => 0
  | some i => if zK h i ∈ ks then 1 else 0
theorem zr_instT {r : Option Nat} {idx : Nat} (hl : Cond.classLink (mO M) idx "MagnetRows$Turned" ∈ zT) (hd : zD M pc (.instanceof idx) 3 pc2) (kk : V l M n0 s0 τ cvt pc2 ls ((.int (zio h r [10, 7]), 0) :: st) h g) : V l M n0 s0 τ cvt pc ls ((va_rf r, 4) :: st) h g := by
  obtain ⟨hd, rfl⟩ := hd
  intro o ho
  obtain ⟨h1, h2⟩ := kk o ho
  refine ⟨h1, fun wf tl to p e R s m args below meth c D cA ρ0 ρ H locs L cells slots cx rl lv r1 r2 => ?_⟩
  have fx := cx.2.2.2.2.2.2.2.2.1
  have hx := h2 wf tl (zTo_cons zTok_i to.tl) p e R s m args below meth c D cA ρ0 ρ H locs L cells slots cx rl lv r1 r2
  cases r with
  | none => exact lv_instN cx.1 cx.2.1 hd hx
  | some i =>
    obtain ⟨hi, hs⟩ := zTok_rf to.hd i rfl
    have hat := zWs_at (cA := cA) (ρ := ρ) hi
    rcases hs with hk | ⟨-, hk | hk⟩ | ⟨hq, -⟩
    · rw [zE_o hk (by omega)] at hat
      rw [show zio h (some i) [10, 7] = 0 by simp [zio, hk]] at hx
      exact va_instNo cx.1 cx.2.1 cx.2.2.2.1 (cx.2.2.2.2.1 _ hl) (fx.2.2.1 ("MagnetRows$Plain", "MagnetRows$Turned") (by simp [zNc])) (va_recv fx.1 rl.2.1 rfl hat) hd hx
    · rw [zE_o hk (by omega)] at hat
      rw [show zio h (some i) [10, 7] = 1 by simp [zio, hk]] at hx
      exact va_instS cx.1 cx.2.1 cx.2.2.2.1 (cx.2.2.2.2.1 _ hl) (fx.1.1 10 _ rfl).2 (va_recv fx.1 rl.2.1 rfl hat) hd hx
    · rw [zE_o hk (by omega)] at hat
      rw [show zio h (some i) [10, 7] = 1 by simp [zio, hk]] at hx
      exact va_instY cx.1 cx.2.1 cx.2.2.2.1 (cx.2.2.2.2.1 _ hl) (fx.2.2.2.1 ("MagnetRows$Signed", "MagnetRows$Turned") (by simp [zCs])) (va_recv fx.1 rl.2.1 rfl hat) hd hx
    · omega
theorem zr_instS {r : Option Nat} {idx : Nat} (hl : Cond.classLink (mO M) idx "MagnetRows$Signed" ∈ zT) (hd : zD M pc (.instanceof idx) 3 pc2) (kk : V l M n0 s0 τ cvt pc2 ls ((.int (zio h r [7]), 0) :: st) h g) : V l M n0 s0 τ cvt pc ls ((va_rf r, 4) :: st) h g := by
  obtain ⟨hd, rfl⟩ := hd
  intro o ho
  obtain ⟨h1, h2⟩ := kk o ho
  refine ⟨h1, fun wf tl to p e R s m args below meth c D cA ρ0 ρ H locs L cells slots cx rl lv r1 r2 => ?_⟩
  have fx := cx.2.2.2.2.2.2.2.2.1
  have hx := h2 wf tl (zTo_cons zTok_i to.tl) p e R s m args below meth c D cA ρ0 ρ H locs L cells slots cx rl lv r1 r2
  cases r with
  | none => exact lv_instN cx.1 cx.2.1 hd hx
  | some i =>
    obtain ⟨hi, hs⟩ := zTok_rf to.hd i rfl
    have hat := zWs_at (cA := cA) (ρ := ρ) hi
    rcases hs with hk | ⟨-, hk | hk⟩ | ⟨hq, -⟩
    · rw [zE_o hk (by omega)] at hat
      rw [show zio h (some i) [7] = 0 by simp [zio, hk]] at hx
      exact va_instNo cx.1 cx.2.1 cx.2.2.2.1 (cx.2.2.2.2.1 _ hl) (fx.2.2.1 ("MagnetRows$Plain", "MagnetRows$Signed") (by simp [zNc])) (va_recv fx.1 rl.2.1 rfl hat) hd hx
    · rw [zE_o hk (by omega)] at hat
      rw [show zio h (some i) [7] = 0 by simp [zio, hk]] at hx
      exact va_instNo cx.1 cx.2.1 cx.2.2.2.1 (cx.2.2.2.2.1 _ hl) (fx.2.2.1 ("MagnetRows$Turned", "MagnetRows$Signed") (by simp [zNc])) (va_recv fx.1 rl.2.1 rfl hat) hd hx
    · rw [zE_o hk (by omega)] at hat
      rw [show zio h (some i) [7] = 1 by simp [zio, hk]] at hx
      exact va_instS cx.1 cx.2.1 cx.2.2.2.1 (cx.2.2.2.2.1 _ hl) (fx.1.1 7 _ rfl).2 (va_recv fx.1 rl.2.1 rfl hat) hd hx
    · omega
/-- a range within two rows -/
def zcp (h : Zh) (i : Nat) (x : Int32) (j : Nat) (y n : Int32) : Bool := decide (¬ x < 0) && (decide (¬ y < 0) && (decide (¬ n < 0) && (decide (zx x + zx n ≤ zL h i) && decide (zx y + zx n ≤ zL h j))))
theorem zE_cI {cA : Nat → ClassId} {ρ : Nat → Nat} {i a j b n k : Nat} (hk : k ≠ j) : zE cA ρ (zcI h i a j b n) k = zE cA ρ h k := by
  have e : ∀ q, zI (zcI h i a j b n) k q = zI h k q := fun q => by simp [zI, zcI, hk]
  have e2 : zI (zcI h i a j b n) k = zI h k := funext e
  unfold zE zFv
  simp only [e, e2]
  rfl
theorem zE_cJ {cA : Nat → ClassId} {ρ : Nat → Nat} {i a j b n k : Nat} (hk : k ≠ j) : zE cA ρ (zcJ h i a j b n) k = zE cA ρ h k := by
  have e : ∀ q, zJ (zcJ h i a j b n) k q = zJ h k q := fun q => by simp [zJ, zcJ, hk]
  have e2 : zJ (zcJ h i a j b n) k = zJ h k := funext e
  unfold zE zFv
  simp only [e, e2]
  rfl
def zAc (own : String) (idx : Nat) : Prop := Cond.methodLink own idx arraycopyName ∈ zT ∧ Cond.native arraycopyName ∈ zT ∧ Cond.static arraycopyName ∈ zT ∧ Cond.initialized "java/lang/System" ∈ zT
theorem zr_copyI {i j idx a b d e' f : Nat} {x y n : Int32} (hw : zAc (mO M) idx) (hf : 1 ≤ mF M ∧ 8 + (nativeFrameWords "java/lang/System" "arraycopy" 5 + 11) ≤ mW M) (hl : st.length ≤ 4) (hd : zD M pc (.invokestatic idx) 3 pc2) (kk : V l M n0 s0 τ cvt pc2 ls st (zcI h i (zx x) j (zx y) (zx n)) g) : V l M n0 s0 τ cvt pc ls ((.int n, a) :: (.int y, b) :: (.ref j, 20) :: (.int x, d) :: (.ref i, 20) :: st) h (zg (zcp h i x j y n) g) := by
  refine v_g (fun hok => ?_)
  simp only [zcp, Bool.and_eq_true, decide_eq_true_eq] at hok
  obtain ⟨hd, rfl⟩ := hd
  intro o ho
  obtain ⟨h1, h2⟩ := kk o ho
  refine ⟨h1, fun wf tl to p e R s m args below meth c D cA ρ0 ρ H locs L cells slots cx rl lv r1 r2 => ?_⟩
  obtain ⟨hj, hjs⟩ := to.tl.tl.hd j rfl
  obtain ⟨hi, his⟩ := to.tl.tl.tl.tl.hd i rfl
  have hki := zSub_20 his
  have hkj := zSub_20 hjs
  have hw' : zWs cA ρ (zcI h i (zx x) j (zx y) (zx n)) = (zWs cA ρ h).set j (ρ j, .inl (cA 20, zL h j, .inl (va_cpy (zI h i) (zI h j) x.toNatClampNeg y.toNatClampNeg n.toNatClampNeg))) := by
    refine zWs_set rfl (fun k hk => zE_cI hk) ((zE_i (h := zcI h i (zx x) j (zx y) (zx n)) hkj).trans ?_)
    have e2 : zI (zcI h i (zx x) j (zx y) (zx n)) j = va_cpy (zI h i) (zI h j) x.toNatClampNeg y.toNatClampNeg n.toNatClampNeg := by
      funext q
      simp only [zI, zcI, zx, if_true]
      rfl
    rw [e2]
    rfl
  have cw := cx.2.2.2.2.1
  refine va_copyi cx.1 cx.2.1 (cx.2.2.1.trans lv.1.symm) cx.2.2.2.1 (cw _ hw.1) (cw _ hw.2.1) (cw _ hw.2.2.1) (cw _ hw.2.2.2) cx.2.2.2.2.2.2.2.2.1.1 rl.2.1 rl.2.2.1 rl.2.2.2.1 i j 0 0 ((zWs_at hi).trans (by rw [zE_i hki])) ((zWs_at hj).trans (by rw [zE_i hkj])) rfl rfl rfl hok.1 hok.2.1 hok.2.2.1 hok.2.2.2.1 hok.2.2.2.2 (fun _ _ => rfl) (by rw [cx.2.2.2.2.2.2.2.2.2.1]; exact hf.1) (by rw [cx.2.2.2.2.2.2.2.2.2.2]; have := zcat_le (ρ := ρ) st hl; have := hf.2; omega) hd (fun H1 locs1 q1 q2 q3 => ?_)
  rw [← hw'] at q1 q2
  exact h2 wf tl to.tl.tl.tl.tl.tl p e R s m args below meth c D cA ρ0 ρ H1 locs1 L cells slots cx ⟨rl.1, q1, q2, q3, rl.2.2.2.2⟩ lv r1 r2
theorem zr_copyJ {i j idx a b d e' f : Nat} {x y n : Int32} (hw : zAc (mO M) idx) (hf : 1 ≤ mF M ∧ 8 + (nativeFrameWords "java/lang/System" "arraycopy" 5 + 11) ≤ mW M) (hl : st.length ≤ 4) (hd : zD M pc (.invokestatic idx) 3 pc2) (kk : V l M n0 s0 τ cvt pc2 ls st (zcJ h i (zx x) j (zx y) (zx n)) g) : V l M n0 s0 τ cvt pc ls ((.int n, a) :: (.int y, b) :: (.ref j, 21) :: (.int x, d) :: (.ref i, 21) :: st) h (zg (zcp h i x j y n) g) := by
  refine v_g (fun hok => ?_)
  simp only [zcp, Bool.and_eq_true, decide_eq_true_eq] at hok
  obtain ⟨hd, rfl⟩ := hd
  intro o ho
  obtain ⟨h1, h2⟩ := kk o ho
  refine ⟨h1, fun wf tl to p e R s m args below meth c D cA ρ0 ρ H locs L cells slots cx rl lv r1 r2 => ?_⟩
  obtain ⟨hj, hjs⟩ := to.tl.tl.hd j rfl
  obtain ⟨hi, his⟩ := to.tl.tl.tl.tl.hd i rfl
  have hki := zSub_21 his
  have hkj := zSub_21 hjs
  have hw' : zWs cA ρ (zcJ h i (zx x) j (zx y) (zx n)) = (zWs cA ρ h).set j (ρ j, .inl (cA 21, zL h j, .inr (.inl (va_cpy (zJ h i) (zJ h j) x.toNatClampNeg y.toNatClampNeg n.toNatClampNeg)))) := by
    refine zWs_set rfl (fun k hk => zE_cJ hk) ((zE_j (h := zcJ h i (zx x) j (zx y) (zx n)) hkj).trans ?_)
    have e2 : zJ (zcJ h i (zx x) j (zx y) (zx n)) j = va_cpy (zJ h i) (zJ h j) x.toNatClampNeg y.toNatClampNeg n.toNatClampNeg := by
      funext q
      simp only [zJ, zcJ, zx, if_true]
      rfl
    rw [e2]
    rfl
  have cw := cx.2.2.2.2.1
  refine va_copyl cx.1 cx.2.1 (cx.2.2.1.trans lv.1.symm) cx.2.2.2.1 (cw _ hw.1) (cw _ hw.2.1) (cw _ hw.2.2.1) (cw _ hw.2.2.2) cx.2.2.2.2.2.2.2.2.1.1 rl.2.1 rl.2.2.1 rl.2.2.2.1 i j 1 1 ((zWs_at hi).trans (by rw [zE_j hki])) ((zWs_at hj).trans (by rw [zE_j hkj])) rfl rfl rfl hok.1 hok.2.1 hok.2.2.1 hok.2.2.2.1 hok.2.2.2.2 (fun _ _ => rfl) (by rw [cx.2.2.2.2.2.2.2.2.2.1]; exact hf.1) (by rw [cx.2.2.2.2.2.2.2.2.2.2]; have := zcat_le (ρ := ρ) st hl; have := hf.2; omega) hd (fun H1 locs1 q1 q2 q3 => ?_)
  rw [← hw'] at q1 q2
  exact h2 wf tl to.tl.tl.tl.tl.tl p e R s m args below meth c D cA ρ0 ρ H1 locs1 L cells slots cx ⟨rl.1, q1, q2, q3, rl.2.2.2.2⟩ lv r1 r2
end ZY
