/-! two sums merged -/
def c1R (A : List Wd) : List (Nat × Int64) := A.map (fun w => (w.1, w.2.1.toInt64))
def c1I (A : List Wd) : List (Nat × Int64) := A.map (fun w => (w.1, w.2.2.toInt64))
def ctR (t : Int64) (A : List Wd) : List (Nat × Int64) := A.map (fun w => (w.1, t * w.2.1.toInt64))
def ctI (t : Int64) (A : List Wd) : List (Nat × Int64) := A.map (fun w => (w.1, t * w.2.2.toInt64))
theorem sAt_em (key : Nat) (re im : Int64) (x : Nat) : sAt (eR (emL key re im)) x = (if key = x then re else 0) ∧ sAt (eI (emL key re im)) x = (if key = x then im else 0) := by
  unfold emL
  by_cases h : re = 0 ∧ im = 0
  · rw [if_pos h, h.1, h.2]
    refine ⟨?_, ?_⟩ <;> · show (0 : Int64) = _; split <;> rfl
  · rw [if_neg h]
    refine ⟨?_, ?_⟩
    · show (if key = x then re else 0) + 0 = _; grind
    · show (if key = x then im else 0) + 0 = _; grind
theorem eR_app (E F : List (Nat × Int64 × Int64)) : eR (E ++ F) = eR E ++ eR F := List.map_append
theorem eI_app (E F : List (Nat × Int64 × Int64)) : eI (E ++ F) = eI E ++ eI F := List.map_append
theorem emL_mem {key : Nat} {re im : Int64} {c : Nat × Int64 × Int64} (h : c ∈ emL key re im) : c.1 = key ∧ ¬ (c.2.1 = 0 ∧ c.2.2 = 0) := by
  unfold emL at h
  by_cases hz : re = 0 ∧ im = 0
  · rw [if_pos hz] at h; cases h
  · rw [if_neg hz, List.mem_singleton] at h
    subst h
    exact ⟨rfl, hz⟩
theorem emL_len (key : Nat) (re im : Int64) : (emL key re im).length ≤ 1 := by
  unfold emL
  split
  · exact Nat.zero_le _
  · exact Nat.le_refl _
/-- emitted words stay sorted -/
def eS (E : List (Nat × Int64 × Int64)) : Prop := E.Pairwise (fun a b => a.1 < b.1) ∧ ∀ c ∈ E, c.1 < 65536 ∧ ¬ (c.2.1 = 0 ∧ c.2.2 = 0)
theorem eS_em {E : List (Nat × Int64 × Int64)} (h : eS E) {key : Nat} (hk : key < 65536) (hlt : ∀ c ∈ E, c.1 < key) (re im : Int64) : eS (E ++ emL key re im) := by
  refine ⟨List.pairwise_append.mpr ⟨h.1, ?_, fun a ha b hb => ?_⟩, fun c hc => ?_⟩
  · unfold emL
    split
    · exact List.Pairwise.nil
    · exact List.pairwise_singleton _ _
  · rw [(emL_mem hb).1]
    exact hlt a ha
  · rcases List.mem_append.mp hc with hc | hc
    · exact h.2 c hc
    · obtain ⟨h1, h2⟩ := emL_mem hc
      exact ⟨by omega, h2⟩
theorem merge_J3 {h : Zh} {o : Nat → Nat} {s p q n : Nat} (hx : mxS h o s p q n) {E : List (Nat × Int64 × Int64)} (he : mxE h s E) (hl : E.length < 100000) {a b : Nat} {A B : List Wd} (sa : sumX h o a A) (sb : sumX h o b B) (hA : A.length ≤ 60) (hB : B.length ≤ 60) (t : Int64) {i j st : Nat} {va vb : Wd} (lf rg : Bool) (hlf : lf = true → A[i]? = some va) (hrg : rg = true → B[j]? = some vb) (key : Nat) : ∃ h', (∀ K : Int32 → Int32 → Int32 → Zh → Option Zh, gX3_merge_J3 s t a b (nI i) (nI j) (nI st) h K (if lf = true then 1 else 0) (if rg = true then 1 else 0) (nI key) = K (nI (if lf = true then i + 1 else i)) (nI (if rg = true then j + 1 else j)) (nI (st + 1)) h') ∧ mxM s h h' ∧ mxE h' s (E ++ emL key ((if lf = true then va.2.1.toInt64 else 0) + (if rg = true then t * vb.2.1.toInt64 else 0)) ((if lf = true then va.2.2.toInt64 else 0) + (if rg = true then t * vb.2.2.toInt64 else 0))) := by
  obtain ⟨-, ax, ay, az, ⟨a0, a1, a2⟩, -, ⟨la0, la1, la2⟩, wa⟩ := sa
  obtain ⟨-, bx, by', bz, ⟨b0, b1, b2⟩, -, ⟨lb0, lb1, lb2⟩, wb⟩ := sb
  have hfin : ∀ (g : Zh), mxM s h g → mxE g s E → ∃ h', (∀ (K : Int32 → Int32 → Int32 → Zh → Option Zh) (x y : Int32), gX3_merge_J1 s (nI st) K (nI key) x y g = K x y (nI (st + 1)) h') ∧ mxM s h h' ∧ mxE h' s (E ++ emL key (zJ g s 8) (zJ g s 9)) := fun g m e => by
    obtain ⟨h', g1, g2, g3, -⟩ := emit_ok (hx.mv m) e hl key (zJ g s 8) (zJ g s 9)
    refine ⟨h', fun K x y => ?_, m.tr g2, g3⟩
    unfold gX3_merge_J1
    rw [g1, zbV_s, ← nI_sc]
  have m4 : mxM s h (zsJ (zsJ h s 8 0) s 9 0) := (mxM.J h 8 0).tr (mxM.J _ 9 0)
  have s89 : ∀ (g : Zh) (v : Int64), zJ (zsJ g s 8 v) s 9 = zJ g s 9 := fun g v => by rw [zJ_s, if_neg (by omega)]
  have s98 : ∀ (g : Zh) (v : Int64), zJ (zsJ g s 9 v) s 8 = zJ g s 8 := fun g v => by rw [zJ_s, if_neg (by omega)]
  have ft : ¬ (if true = true then (1 : Int32) else 0) = 0 := by decide
  have ff : (if false = true then (1 : Int32) else 0) = 0 := rfl
  cases lf with
  | false =>
    cases rg with
    | false =>
      obtain ⟨h', g1, g2, g3⟩ := hfin _ m4 (he.J.J)
      refine ⟨h', fun K => ?_, g2, ?_⟩
      · unfold gX3_merge_J3
        rw [zlt_, zlt_, zjn_, if_pos ff]
        unfold gX3_merge_J2
        rw [zjn_, if_pos ff, g1]
        rfl
      · rw [s98, zJ_se, zJ_se] at g3
        simpa using g3
    | true =>
      have hg := hrg rfl
      have hj := len_i hg
      obtain ⟨w1, w2, w3⟩ := wb j vb hg
      have iy : zin (nI j) (zL h by') = true := by rw [lb1]; exact zin_nI hj (by omega)
      have iz : zin (nI j) (zL h bz) = true := by rw [lb2]; exact zin_nI hj (by omega)
      obtain ⟨h', g1, g2, g3⟩ := hfin (zsJ (zsJ (zsJ (zsJ h s 8 0) s 9 0) s 8 (0 + t * vb.2.1.toInt64)) s 9 (0 + t * vb.2.2.toInt64)) ((m4.tr (mxM.J _ 8 _)).tr (mxM.J _ 9 _)) he.J.J.J.J
      refine ⟨h', fun K => ?_, g2, ?_⟩
      · unfold gX3_merge_J3
        rw [zlt_, zlt_, zjn_, if_pos ff]
        unfold gX3_merge_J2
        rw [zjn_, if_neg ft]
        repeat (first | rw [zR_sJ] | rw [zL_sJ] | rw [b1] | rw [b2] | rw [iy] | rw [iz] | rw [zx_nI (show j < 2 ^ 31 by omega)] | rw [zI_sJ] | rw [w2] | rw [w3] | rw [s98] | rw [s89] | rw [zJ_se] | rw [← nI_sc] | rw [zlt_] | rw [zjn_] | rw [zob_s] | rw [zg_1] | rw [zbi_s] | rw [zbI_s] | rw [zbr_s] | rw [zbR_s] | rw [zbV_s] | rw [zbj_s] | rw [zbJ_s] | rw [zcs_s] | rw [zcs_n])
        rw [g1]
        rfl
      · rw [s98, zJ_se, zJ_se] at g3
        simpa using g3
  | true =>
    have hg := hlf rfl
    have hi := len_i hg
    obtain ⟨w1, w2, w3⟩ := wa i va hg
    have iy : zin (nI i) (zL h ay) = true := by rw [la1]; exact zin_nI hi (by omega)
    have iz : zin (nI i) (zL h az) = true := by rw [la2]; exact zin_nI hi (by omega)
    have m5 : mxM s h (zsJ (zsJ (zsJ (zsJ h s 8 0) s 9 0) s 8 (0 + va.2.1.toInt64)) s 9 (0 + va.2.2.toInt64)) := (m4.tr (mxM.J _ 8 _)).tr (mxM.J _ 9 _)
    cases rg with
    | false =>
      obtain ⟨h', g1, g2, g3⟩ := hfin _ m5 he.J.J.J.J
      refine ⟨h', fun K => ?_, g2, ?_⟩
      · unfold gX3_merge_J3
        rw [zlt_, zlt_, zjn_, if_neg ft]
        repeat (first | rw [zR_sJ] | rw [zL_sJ] | rw [a1] | rw [a2] | rw [iy] | rw [iz] | rw [zx_nI (show i < 2 ^ 31 by omega)] | rw [zI_sJ] | rw [w2] | rw [w3] | rw [s98] | rw [s89] | rw [zJ_se] | rw [← nI_sc] | rw [zlt_] | rw [zjn_] | rw [zob_s] | rw [zg_1] | rw [zbi_s] | rw [zbI_s] | rw [zbr_s] | rw [zbR_s] | rw [zbV_s] | rw [zbj_s] | rw [zbJ_s] | rw [zcs_s] | rw [zcs_n])
        unfold gX3_merge_J2
        rw [zjn_, if_pos ff, g1]
        rfl
      · rw [s98, zJ_se, zJ_se] at g3
        simpa using g3
    | true =>
      have hg := hrg rfl
      have hj := len_i hg
      obtain ⟨v1, v2, v3⟩ := wb j vb hg
      have jy : zin (nI j) (zL h by') = true := by rw [lb1]; exact zin_nI hj (by omega)
      have jz : zin (nI j) (zL h bz) = true := by rw [lb2]; exact zin_nI hj (by omega)
      obtain ⟨h', g1, g2, g3⟩ := hfin (zsJ (zsJ (zsJ (zsJ (zsJ (zsJ h s 8 0) s 9 0) s 8 (0 + va.2.1.toInt64)) s 9 (0 + va.2.2.toInt64)) s 8 (0 + va.2.1.toInt64 + t * vb.2.1.toInt64)) s 9 (0 + va.2.2.toInt64 + t * vb.2.2.toInt64)) ((m5.tr (mxM.J _ 8 _)).tr (mxM.J _ 9 _)) he.J.J.J.J.J.J
      refine ⟨h', fun K => ?_, g2, ?_⟩
      · unfold gX3_merge_J3
        rw [zlt_, zlt_, zjn_, if_neg ft]
        repeat (first | rw [zR_sJ] | rw [zL_sJ] | rw [a1] | rw [a2] | rw [iy] | rw [iz] | rw [zx_nI (show i < 2 ^ 31 by omega)] | rw [zI_sJ] | rw [w2] | rw [w3] | rw [s98] | rw [s89] | rw [zJ_se] | rw [← nI_sc] | rw [zlt_] | rw [zjn_] | rw [zob_s] | rw [zg_1] | rw [zbi_s] | rw [zbI_s] | rw [zbr_s] | rw [zbR_s] | rw [zbV_s] | rw [zbj_s] | rw [zbJ_s] | rw [zcs_s] | rw [zcs_n])
        unfold gX3_merge_J2
        rw [zjn_, if_neg ft]
        repeat (first | rw [zR_sJ] | rw [zL_sJ] | rw [b1] | rw [b2] | rw [jy] | rw [jz] | rw [zx_nI (show j < 2 ^ 31 by omega)] | rw [zI_sJ] | rw [v2] | rw [v3] | rw [s98] | rw [s89] | rw [zJ_se] | rw [← nI_sc] | rw [zlt_] | rw [zjn_] | rw [zob_s] | rw [zg_1] | rw [zbi_s] | rw [zbI_s] | rw [zbr_s] | rw [zbR_s] | rw [zbV_s] | rw [zbj_s] | rw [zbJ_s] | rw [zcs_s] | rw [zcs_n])
        rw [g1]
        rfl
      · rw [s98, zJ_se, zJ_se] at g3
        simpa using g3
theorem drop_c {α : Type} {l : List α} {i : Nat} {a : α} (h : l[i]? = some a) : l.drop i = a :: l.drop (i + 1) := by
  obtain ⟨hi, rfl⟩ := List.getElem?_eq_some_iff.mp h
  exact List.drop_eq_getElem_cons hi
/-- one round of the merge: which is taken -/
theorem merge_L {h : Zh} {o : Nat → Nat} {s : Nat} {a b : Nat} {A B : List Wd} (sa : sumX h o a A) (sb : sumX h o b B) (hA : A.length ≤ 60) (hB : B.length ≤ 60) (kA : ∀ w ∈ A, w.1 < 65536) (kB : ∀ w ∈ B, w.1 < 65536) (t : Int64) {i j st : Nat} (hi : i ≤ A.length) (hj : j ≤ B.length) (hst : st ≤ i + j) (hnot : i + j < A.length + B.length) : ∃ (lf rg : Bool) (va vb : Wd) (key : Nat), (∀ K : Int32 → Int32 → Int32 → Zh → Option Zh, gX3_merge_L10 s t a b (nI (A.length + B.length)) K (nI i) (nI j) (nI st) h = gX3_merge_J3 s t a b (nI i) (nI j) (nI st) h K (if lf = true then 1 else 0) (if rg = true then 1 else 0) (nI key)) ∧ (lf = true → A[i]? = some va ∧ va.1 = key) ∧ (rg = true → B[j]? = some vb ∧ vb.1 = key) ∧ (lf = true ∨ rg = true) ∧ (lf = false → i = A.length ∨ ∃ w, A[i]? = some w ∧ key < w.1) ∧ (rg = false → j = B.length ∨ ∃ w, B[j]? = some w ∧ key < w.1) := by
  have ca := count_okX sa
  have cb := count_okX sb
  obtain ⟨-, ax, ay, az, ⟨a0, a1, a2⟩, -, ⟨la0, la1, la2⟩, wa⟩ := sa
  obtain ⟨-, bx, by', bz, ⟨b0, b1, b2⟩, -, ⟨lb0, lb1, lb2⟩, wb⟩ := sb
  have n1 : ¬ nI (A.length + B.length) ≤ nI st := zge_n (by omega) (by omega)
  have n2 : ¬ nI (A.length + B.length) ≤ nI i + nI j := by rw [nI_add]; exact zge_n (by omega) (by omega)
  have hJ8 : ∀ k60 : Int32 → Option Zh, gX3_merge_J8 k60 = k60 1 := fun _ => rfl
  have hJ9 : ∀ k60 : Int32 → Option Zh, gX3_merge_J9 k60 = k60 0 := fun _ => rfl
  have hJ5 : ∀ k60 : Int32 → Option Zh, gX3_merge_J5 k60 = k60 1 := fun _ => rfl
  have hJ6 : ∀ k60 : Int32 → Option Zh, gX3_merge_J6 k60 = k60 0 := fun _ => rfl
  by_cases hjB : j < B.length
  · obtain ⟨vb, hvb⟩ := get_some hjB
    obtain ⟨w1, w2, w3⟩ := wb j vb hvb
    have kb := kB vb (List.mem_of_getElem? hvb)
    have ib : zin (nI j) (zL h bx) = true := by rw [lb0]; exact zin_nI hjB (by omega)
    have nb : ¬ nI B.length ≤ nI j := zge_n hjB (by omega)
    by_cases hiA : i < A.length
    · obtain ⟨va, hva⟩ := get_some hiA
      obtain ⟨v1, v2, v3⟩ := wa i va hva
      have ka := kA va (List.mem_of_getElem? hva)
      have ia : zin (nI i) (zL h ax) = true := by rw [la0]; exact zin_nI hiA (by omega)
      have na : ¬ nI A.length ≤ nI i := zge_n hiA (by omega)
      by_cases h1 : vb.1 < va.1
      · refine ⟨false, true, va, vb, vb.1, fun K => ?_, fun h => (by cases h), fun _ => ⟨hvb, rfl⟩, Or.inr rfl, fun _ => Or.inr ⟨va, hva, h1⟩, fun h => (by cases h)⟩
        unfold gX3_merge_L10
        rw [if_neg n1, if_neg n2, cb, zbi_s, zjn_, zjn_, hJ8, if_neg nb, ca, zbi_s, zjn_, hJ9, if_neg na]
        repeat (first | rw [a0] | rw [ia] | rw [b0] | rw [ib] | rw [zx_nI (show i < 2 ^ 31 by omega)] | rw [zx_nI (show j < 2 ^ 31 by omega)] | rw [v1] | rw [w1] | rw [zlt_] | rw [zjn_] | rw [zob_s] | rw [zg_1] | rw [zbi_s] | rw [zbI_s] | rw [zbr_s] | rw [zbR_s] | rw [zbV_s] | rw [zbj_s] | rw [zbJ_s] | rw [zcs_s] | rw [zcs_n])
        rw [if_pos (nI_lt h1 (by omega))]
        unfold gX3_merge_J7
        rw [ca, zbi_s, zjn_, zjn_, if_neg na, cb, zbi_s, zjn_, if_neg nb]
        repeat (first | rw [a0] | rw [ia] | rw [b0] | rw [ib] | rw [zx_nI (show i < 2 ^ 31 by omega)] | rw [zx_nI (show j < 2 ^ 31 by omega)] | rw [v1] | rw [w1] | rw [zlt_] | rw [zjn_] | rw [zob_s] | rw [zg_1] | rw [zbi_s] | rw [zbI_s] | rw [zbr_s] | rw [zbR_s] | rw [zbV_s] | rw [zbj_s] | rw [zbJ_s] | rw [zcs_s] | rw [zcs_n])
        rw [if_neg (nI_nlt (by omega) (by omega)), hJ5]
        unfold gX3_merge_J4
        rw [zjn_, if_pos rfl]
        repeat (first | rw [b0] | rw [ib] | rw [zx_nI (show j < 2 ^ 31 by omega)] | rw [w1] | rw [zlt_] | rw [zjn_] | rw [zob_s] | rw [zg_1] | rw [zbi_s] | rw [zbI_s] | rw [zbr_s] | rw [zbR_s] | rw [zbV_s] | rw [zbj_s] | rw [zbJ_s] | rw [zcs_s] | rw [zcs_n])
        rfl
      · by_cases h2 : va.1 < vb.1
        · refine ⟨true, false, va, vb, va.1, fun K => ?_, fun _ => ⟨hva, rfl⟩, fun h => (by cases h), Or.inl rfl, fun h => (by cases h), fun _ => Or.inr ⟨vb, hvb, h2⟩⟩
          unfold gX3_merge_L10
          rw [if_neg n1, if_neg n2, cb, zbi_s, zjn_, zjn_, hJ8, if_neg nb, ca, zbi_s, zjn_, hJ9, if_neg na]
          repeat (first | rw [a0] | rw [ia] | rw [b0] | rw [ib] | rw [zx_nI (show i < 2 ^ 31 by omega)] | rw [zx_nI (show j < 2 ^ 31 by omega)] | rw [v1] | rw [w1] | rw [zlt_] | rw [zjn_] | rw [zob_s] | rw [zg_1] | rw [zbi_s] | rw [zbI_s] | rw [zbr_s] | rw [zbR_s] | rw [zbV_s] | rw [zbj_s] | rw [zbJ_s] | rw [zcs_s] | rw [zcs_n])
          rw [if_neg (nI_nlt (by omega) (by omega))]
          unfold gX3_merge_J7
          rw [ca, zbi_s, zjn_, zjn_, if_neg na, cb, zbi_s, zjn_, if_neg nb]
          repeat (first | rw [a0] | rw [ia] | rw [b0] | rw [ib] | rw [zx_nI (show i < 2 ^ 31 by omega)] | rw [zx_nI (show j < 2 ^ 31 by omega)] | rw [v1] | rw [w1] | rw [zlt_] | rw [zjn_] | rw [zob_s] | rw [zg_1] | rw [zbi_s] | rw [zbI_s] | rw [zbr_s] | rw [zbR_s] | rw [zbV_s] | rw [zbj_s] | rw [zbJ_s] | rw [zcs_s] | rw [zcs_n])
          rw [if_pos (nI_lt h2 (by omega)), hJ6]
          unfold gX3_merge_J4
          rw [zjn_, if_neg (by decide)]
          repeat (first | rw [a0] | rw [ia] | rw [zx_nI (show i < 2 ^ 31 by omega)] | rw [v1] | rw [zlt_] | rw [zjn_] | rw [zob_s] | rw [zg_1] | rw [zbi_s] | rw [zbI_s] | rw [zbr_s] | rw [zbR_s] | rw [zbV_s] | rw [zbj_s] | rw [zbJ_s] | rw [zcs_s] | rw [zcs_n])
          rfl
        · refine ⟨true, true, va, vb, va.1, fun K => ?_, fun _ => ⟨hva, rfl⟩, fun _ => ⟨hvb, by omega⟩, Or.inl rfl, fun h => (by cases h), fun h => (by cases h)⟩
          unfold gX3_merge_L10
          rw [if_neg n1, if_neg n2, cb, zbi_s, zjn_, zjn_, hJ8, if_neg nb, ca, zbi_s, zjn_, hJ9, if_neg na]
          repeat (first | rw [a0] | rw [ia] | rw [b0] | rw [ib] | rw [zx_nI (show i < 2 ^ 31 by omega)] | rw [zx_nI (show j < 2 ^ 31 by omega)] | rw [v1] | rw [w1] | rw [zlt_] | rw [zjn_] | rw [zob_s] | rw [zg_1] | rw [zbi_s] | rw [zbI_s] | rw [zbr_s] | rw [zbR_s] | rw [zbV_s] | rw [zbj_s] | rw [zbJ_s] | rw [zcs_s] | rw [zcs_n])
          rw [if_neg (nI_nlt (by omega) (by omega))]
          unfold gX3_merge_J7
          rw [ca, zbi_s, zjn_, zjn_, if_neg na, cb, zbi_s, zjn_, if_neg nb]
          repeat (first | rw [a0] | rw [ia] | rw [b0] | rw [ib] | rw [zx_nI (show i < 2 ^ 31 by omega)] | rw [zx_nI (show j < 2 ^ 31 by omega)] | rw [v1] | rw [w1] | rw [zlt_] | rw [zjn_] | rw [zob_s] | rw [zg_1] | rw [zbi_s] | rw [zbI_s] | rw [zbr_s] | rw [zbR_s] | rw [zbV_s] | rw [zbj_s] | rw [zbJ_s] | rw [zcs_s] | rw [zcs_n])
          rw [if_neg (nI_nlt (by omega) (by omega)), hJ5]
          unfold gX3_merge_J4
          rw [zjn_, if_neg (by decide)]
          repeat (first | rw [a0] | rw [ia] | rw [zx_nI (show i < 2 ^ 31 by omega)] | rw [v1] | rw [zlt_] | rw [zjn_] | rw [zob_s] | rw [zg_1] | rw [zbi_s] | rw [zbI_s] | rw [zbr_s] | rw [zbR_s] | rw [zbV_s] | rw [zbj_s] | rw [zbJ_s] | rw [zcs_s] | rw [zcs_n])
          rfl
    · have hie : i = A.length := by omega
      have pa' : nI A.length ≤ nI i := by rw [hie]; exact Int32.le_refl _
      refine ⟨false, true, vb, vb, vb.1, fun K => ?_, fun h => (by cases h), fun _ => ⟨hvb, rfl⟩, Or.inr rfl, fun _ => Or.inl hie, fun h => (by cases h)⟩
      unfold gX3_merge_L10
      rw [if_neg n1, if_neg n2, cb, zbi_s, zjn_, zjn_, hJ8, if_neg nb, ca, zbi_s, zjn_, hJ9, if_pos pa']
      unfold gX3_merge_J7
      rw [ca, zbi_s, zjn_, zjn_, if_pos pa', hJ5]
      unfold gX3_merge_J4
      rw [zjn_, if_pos rfl]
      repeat (first | rw [b0] | rw [ib] | rw [zx_nI (show j < 2 ^ 31 by omega)] | rw [w1] | rw [zlt_] | rw [zjn_] | rw [zob_s] | rw [zg_1] | rw [zbi_s] | rw [zbI_s] | rw [zbr_s] | rw [zbR_s] | rw [zbV_s] | rw [zbj_s] | rw [zbJ_s] | rw [zcs_s] | rw [zcs_n])
      rfl
  · have hje : j = B.length := by omega
    have pb' : nI B.length ≤ nI j := by rw [hje]; exact Int32.le_refl _
    have hiA : i < A.length := by omega
    obtain ⟨va, hva⟩ := get_some hiA
    obtain ⟨v1, v2, v3⟩ := wa i va hva
    have ia : zin (nI i) (zL h ax) = true := by rw [la0]; exact zin_nI hiA (by omega)
    have na : ¬ nI A.length ≤ nI i := zge_n hiA (by omega)
    refine ⟨true, false, va, va, va.1, fun K => ?_, fun _ => ⟨hva, rfl⟩, fun h => (by cases h), Or.inl rfl, fun h => (by cases h), fun _ => Or.inl hje⟩
    unfold gX3_merge_L10
    rw [if_neg n1, if_neg n2, cb, zbi_s, zjn_, zjn_, hJ8, if_pos pb']
    unfold gX3_merge_J7
    rw [ca, zbi_s, zjn_, zjn_, if_neg na, cb, zbi_s, zjn_, if_pos pb', hJ6]
    unfold gX3_merge_J4
    rw [zjn_, if_neg (by decide)]
    repeat (first | rw [a0] | rw [ia] | rw [zx_nI (show i < 2 ^ 31 by omega)] | rw [v1] | rw [zlt_] | rw [zjn_] | rw [zob_s] | rw [zg_1] | rw [zbi_s] | rw [zbI_s] | rw [zbr_s] | rw [zbR_s] | rw [zbV_s] | rw [zbj_s] | rw [zbJ_s] | rw [zcs_s] | rw [zcs_n])
    rfl
theorem sAt_c (w : Nat) (v : Int64) (cs : List (Nat × Int64)) (x : Nat) : sAt ((w, v) :: cs) x = (if w = x then v else 0) + sAt cs x := rfl
theorem merge_ok {h : Zh} {o : Nat → Nat} {s p q n : Nat} (hx : mxS h o s p q n) {a b : Nat} {A B : List Wd} (sa : sumX h o a A) (sb : sumX h o b B) (hA : A.length ≤ 60) (hB : B.length ≤ 60) (pA : A.Pairwise (fun v w => v.1 < w.1)) (pB : B.Pairwise (fun v w => v.1 < w.1)) (kA : ∀ w ∈ A, w.1 < 65536) (kB : ∀ w ∈ B, w.1 < 65536) (t : Int64) : ∃ h' E, gX3_merge h s (some a) (some b) t = some h' ∧ mxM s h h' ∧ mxE h' s E ∧ E.length ≤ 120 ∧ eS E ∧ ∀ x, sAt (eR E) x = sAt (c1R A) x + sAt (ctR t B) x ∧ sAt (eI E) x = sAt (c1I A) x + sAt (ctI t B) x := by
  obtain ⟨h1, g1, m1, e1, -⟩ := begin_ok h s
  have ho : ∀ a, a < 5 → o (s + a) = 3 := fun a ha => (hx.1 a ha).2
  have sa1 := sa.mv (m1.mv ho) (by omega)
  have sb1 := sb.mv (m1.mv ho) (by omega)
  unfold gX3_merge
  rw [g1, zbV_s, zob_s, count_okX sa1, zbi_s, zob_s, count_okX sb1, zbi_s, zlt_, nI_add]
  refine zlp_E (R := Option Zh) (σ := (Nat × Nat × Nat) × Zh × List (Nat × Int64 × Int64)) (z := fun (_ : Int32) (_ : Int32) (_ : Int32) (_ : Zh) => (none : Option (Zh))) (F := gX3_merge_L10 s t a b (nI (A.length + B.length))) (fun y (F : Int32 → Int32 → Int32 → Zh → Option Zh) => F (nI y.1.1) (nI y.1.2.1) (nI y.1.2.2) y.2.1) (fun y => y.1.1 ≤ A.length ∧ y.1.2.1 ≤ B.length ∧ y.1.2.2 ≤ y.1.1 + y.1.2.1 ∧ mxM s h y.2.1 ∧ mxE y.2.1 s y.2.2 ∧ y.2.2.length ≤ y.1.1 + y.1.2.1 ∧ eS y.2.2 ∧ (∀ c ∈ y.2.2, (∀ w ∈ A.drop y.1.1, c.1 < w.1) ∧ ∀ w ∈ B.drop y.1.2.1, c.1 < w.1) ∧ ∀ x, sAt (eR y.2.2) x + sAt (c1R (A.drop y.1.1)) x + sAt (ctR t (B.drop y.1.2.1)) x = sAt (c1R A) x + sAt (ctR t B) x ∧ sAt (eI y.2.2) x + sAt (c1I (A.drop y.1.1)) x + sAt (ctI t (B.drop y.1.2.1)) x = sAt (c1I A) x + sAt (ctI t B) x) (fun r => ∃ h' E, r = some h' ∧ mxM s h h' ∧ mxE h' s E ∧ E.length ≤ 120 ∧ eS E ∧ ∀ x, sAt (eR E) x = sAt (c1R A) x + sAt (ctR t B) x ∧ sAt (eI E) x = sAt (c1I A) x + sAt (ctI t B) x) (fun y => A.length + B.length - (y.1.1 + y.1.2.1)) ?_ ((0, 0, 0), h1, []) ?_ zFU (by unfold zFU; show A.length + B.length - (0 + 0) < _; omega)
  · rintro ⟨⟨i, j, st⟩, g, E⟩ ⟨q1, q2, q3, q4, q5, q6, q7, q8, q9⟩
    have sa2 := sa.mv (q4.mv ho) (by omega)
    have sb2 := sb.mv (q4.mv ho) (by omega)
    by_cases hend : i + j < A.length + B.length
    · right
      obtain ⟨lf, rg, va, vb, key, hK, f1, f2, f3, f4, f5⟩ := merge_L (s := s) sa2 sb2 hA hB kA kB t q1 q2 q3 hend
      have f4 : lf = false → i = A.length ∨ ∃ w, A[i]? = some w ∧ key < w.1 := f4
      have f5 : rg = false → j = B.length ∨ ∃ w, B[j]? = some w ∧ key < w.1 := f5
      have q1 : i ≤ A.length := q1
      have q2 : j ≤ B.length := q2
      have q6 : E.length ≤ i + j := q6
      obtain ⟨h', g2, g3, g4⟩ := merge_J3 (hx.mv q4) q5 (show E.length < 100000 by omega) sa2 sb2 hA hB t (i := i) (j := j) (st := st) (va := va) (vb := vb) lf rg (fun e => (f1 e).1) (fun e => (f2 e).1) key
      have dA : lf = true → A.drop i = va :: A.drop (i + 1) := fun e => drop_c (f1 e).1
      have dB : rg = true → B.drop j = vb :: B.drop (j + 1) := fun e => drop_c (f2 e).1
      have iA : lf = true → i + 1 ≤ A.length := fun e => len_i (f1 e).1
      have jB : rg = true → j + 1 ≤ B.length := fun e => len_i (f2 e).1
      have hkey : key < 65536 := by
        rcases f3 with e | e
        · rw [← (f1 e).2]; exact kA va (List.mem_of_getElem? (f1 e).1)
        · rw [← (f2 e).2]; exact kB vb (List.mem_of_getElem? (f2 e).1)
      have hlt : ∀ c ∈ E, c.1 < key := fun c hc => by
        rcases f3 with e | e
        · rw [← (f1 e).2]; exact (q8 c hc).1 va (by rw [dA e]; exact List.mem_cons_self)
        · rw [← (f2 e).2]; exact (q8 c hc).2 vb (by rw [dB e]; exact List.mem_cons_self)
      -- all that is left lies above the key
      have aboveA : ∀ w ∈ A.drop (if lf = true then i + 1 else i), key < w.1 := fun w hw => by
        cases lf with
        | true =>
          rw [if_pos rfl] at hw
          have hp : (A.drop i).Pairwise (fun v w => v.1 < w.1) := List.Pairwise.sublist (List.drop_sublist i A) pA
          rw [dA rfl] at hp
          rw [← (f1 rfl).2]
          exact (List.pairwise_cons.mp hp).1 w hw
        | false =>
          rw [if_neg (by decide)] at hw
          rcases f4 rfl with e | ⟨v, hv, hkv⟩
          · rw [e, List.drop_length] at hw; cases hw
          · have hp : (A.drop i).Pairwise (fun v w => v.1 < w.1) := List.Pairwise.sublist (List.drop_sublist i A) pA
            rw [drop_c hv] at hp hw
            rcases List.mem_cons.mp hw with rfl | hw
            · exact hkv
            · exact Nat.lt_trans hkv ((List.pairwise_cons.mp hp).1 w hw)
      have aboveB : ∀ w ∈ B.drop (if rg = true then j + 1 else j), key < w.1 := fun w hw => by
        cases rg with
        | true =>
          rw [if_pos rfl] at hw
          have hp : (B.drop j).Pairwise (fun v w => v.1 < w.1) := List.Pairwise.sublist (List.drop_sublist j B) pB
          rw [dB rfl] at hp
          rw [← (f2 rfl).2]
          exact (List.pairwise_cons.mp hp).1 w hw
        | false =>
          rw [if_neg (by decide)] at hw
          rcases f5 rfl with e | ⟨v, hv, hkv⟩
          · rw [e, List.drop_length] at hw; cases hw
          · have hp : (B.drop j).Pairwise (fun v w => v.1 < w.1) := List.Pairwise.sublist (List.drop_sublist j B) pB
            rw [drop_c hv] at hp hw
            rcases List.mem_cons.mp hw with rfl | hw
            · exact hkv
            · exact Nat.lt_trans hkv ((List.pairwise_cons.mp hp).1 w hw)
      refine ⟨((if lf = true then i + 1 else i, if rg = true then j + 1 else j, st + 1), h', E ++ emL key ((if lf = true then va.2.1.toInt64 else 0) + (if rg = true then t * vb.2.1.toInt64 else 0)) ((if lf = true then va.2.2.toInt64 else 0) + (if rg = true then t * vb.2.2.toInt64 else 0))), ⟨?_, ?_, ?_, q4.tr g3, g4, ?_, eS_em q7 hkey hlt _ _, fun c hc => ?_, fun x => ?_⟩, ?_, fun r => (hK r).trans (g2 r)⟩
      · show (if lf = true then i + 1 else i) ≤ A.length
        split
        · rename_i e; exact iA e
        · exact q1
      · show (if rg = true then j + 1 else j) ≤ B.length
        split
        · rename_i e; exact jB e
        · exact q2
      · show st + 1 ≤ (if lf = true then i + 1 else i) + (if rg = true then j + 1 else j)
        have q3 : st ≤ i + j := q3
        rcases f3 with e | e
        · rw [if_pos e]; split <;> omega
        · rw [if_pos e]; split <;> omega
      · show (E ++ _).length ≤ (if lf = true then i + 1 else i) + (if rg = true then j + 1 else j)
        rw [List.length_append]
        refine Nat.le_trans (Nat.add_le_add_left (emL_len _ _ _) _) ?_
        rcases f3 with e | e
        · rw [if_pos e]; split <;> omega
        · rw [if_pos e]; split <;> omega
      · rcases List.mem_append.mp hc with hc | hc
        · refine ⟨fun w hw => Nat.lt_trans (hlt c hc) (aboveA w hw), fun w hw => Nat.lt_trans (hlt c hc) (aboveB w hw)⟩
        · rw [(emL_mem hc).1]
          exact ⟨aboveA, aboveB⟩
      · obtain ⟨z1, z2⟩ := q9 x
        have z1 : sAt (eR E) x + sAt (c1R (A.drop i)) x + sAt (ctR t (B.drop j)) x = sAt (c1R A) x + sAt (ctR t B) x := z1
        have z2 : sAt (eI E) x + sAt (c1I (A.drop i)) x + sAt (ctI t (B.drop j)) x = sAt (c1I A) x + sAt (ctI t B) x := z2
        have zA : lf = true → sAt (c1R (A.drop i)) x = (if va.1 = x then va.2.1.toInt64 else 0) + sAt (c1R (A.drop (i + 1))) x ∧ sAt (c1I (A.drop i)) x = (if va.1 = x then va.2.2.toInt64 else 0) + sAt (c1I (A.drop (i + 1))) x := fun e => by rw [dA e]; exact ⟨rfl, rfl⟩
        have zB : rg = true → sAt (ctR t (B.drop j)) x = (if vb.1 = x then t * vb.2.1.toInt64 else 0) + sAt (ctR t (B.drop (j + 1))) x ∧ sAt (ctI t (B.drop j)) x = (if vb.1 = x then t * vb.2.2.toInt64 else 0) + sAt (ctI t (B.drop (j + 1))) x := fun e => by rw [dB e]; exact ⟨rfl, rfl⟩
        show sAt (eR (E ++ _)) x + sAt (c1R (A.drop (if lf = true then i + 1 else i))) x + sAt (ctR t (B.drop (if rg = true then j + 1 else j))) x = _ ∧ sAt (eI (E ++ _)) x + sAt (c1I (A.drop (if lf = true then i + 1 else i))) x + sAt (ctI t (B.drop (if rg = true then j + 1 else j))) x = _
        rw [eR_app, eI_app, sAt_app, sAt_app, (sAt_em _ _ _ _).1, (sAt_em _ _ _ _).2, ← z1, ← z2]
        cases lf with
        | true =>
          obtain ⟨zA1, zA2⟩ := zA rfl
          have ka := (f1 rfl).2
          cases rg with
          | true =>
            obtain ⟨zB1, zB2⟩ := zB rfl
            have kb := (f2 rfl).2
            rw [zA1, zA2, zB1, zB2, ka, kb, if_pos rfl, if_pos rfl, if_pos rfl, if_pos rfl, if_pos rfl, if_pos rfl]
            by_cases hkx : key = x
            · simp only [if_pos hkx]; exact ⟨by grind, by grind⟩
            · simp only [if_neg hkx]; exact ⟨by grind, by grind⟩
          | false =>
            rw [zA1, zA2, ka]
            simp only [if_true, Bool.false_eq_true, if_false]
            by_cases hkx : key = x
            · simp only [if_pos hkx]; exact ⟨by grind, by grind⟩
            · simp only [if_neg hkx]; exact ⟨by grind, by grind⟩
        | false =>
          cases rg with
          | true =>
            obtain ⟨zB1, zB2⟩ := zB rfl
            have kb := (f2 rfl).2
            rw [zB1, zB2, kb]
            simp only [if_true, Bool.false_eq_true, if_false]
            by_cases hkx : key = x
            · simp only [if_pos hkx]; exact ⟨by grind, by grind⟩
            · simp only [if_neg hkx]; exact ⟨by grind, by grind⟩
          | false =>
            rcases f3 with e | e <;> cases e
      · show A.length + B.length - ((if lf = true then i + 1 else i) + (if rg = true then j + 1 else j)) < A.length + B.length - (i + j)
        rcases f3 with e | e
        · rw [if_pos e]; split <;> omega
        · rw [if_pos e]; split <;> omega
    · left
      intro r
      have q1' : i ≤ A.length := q1
      have q2' : j ≤ B.length := q2
      have q6' : E.length ≤ i + j := q6
      have hi : i = A.length := by omega
      have hj : j = B.length := by omega
      subst hi hj
      refine ⟨g, E, ?_, q4, q5, by omega, q7, fun x => ?_⟩
      · show gX3_merge_L10 s t a b (nI (A.length + B.length)) r (nI A.length) (nI B.length) (nI st) g = some g
        unfold gX3_merge_L10
        by_cases hh : nI (A.length + B.length) ≤ nI st
        · rw [if_pos hh]
        · rw [if_neg hh, nI_add, if_pos (Int32.le_refl _)]
      · obtain ⟨z1, z2⟩ := q9 x
        rw [List.drop_length, List.drop_length] at z1 z2
        refine ⟨?_, ?_⟩
        · rw [← z1]
          show _ = _ + (0 : Int64) + 0
          grind
        · rw [← z2]
          show _ = _ + (0 : Int64) + 0
          grind
  · refine ⟨Nat.zero_le _, Nat.zero_le _, Nat.zero_le _, m1, e1, Nat.zero_le _, ⟨List.Pairwise.nil, fun c hc => by cases hc⟩, fun c hc => (by cases hc), fun x => ?_⟩
    rw [List.drop_zero, List.drop_zero]
    refine ⟨?_, ?_⟩
    · show (0 : Int64) + _ + _ = _
      grind
    · show (0 : Int64) + _ + _ = _
      grind
