/-! ===== marks, and what to ask: the class ===== -/
def vOk (R : Nat) (v : Int64) : Bool := decide (-1 ≤ v.toInt ∧ v.toInt < R)
def vW (v : Int64) : Option Nat := if v.toInt < 0 then none else some v.toInt.toNat
theorem vW_I {R : Nat} {v : Int64} (hR : R ≤ 4) (h : vOk R v = true) : v.toInt32 = oI (vW v) ∧ ∀ r, vW v = some r → r < R := by
  unfold vOk at h
  rw [decide_eq_true_eq] at h
  unfold vW
  by_cases q : v.toInt < 0
  · rw [if_pos q]
    refine ⟨?_, fun r e => by cases e⟩
    have : v = -1 := Int64.toInt_inj.mp (by rw [show v.toInt = -1 by omega]; decide)
    rw [this]; decide
  · rw [if_neg q]
    refine ⟨?_, fun r e => by cases e; omega⟩
    show v.toInt32 = nI v.toInt.toNat
    apply Int32.toInt_inj.mp
    rw [nI_toInt (by omega), Int64.toInt_toInt32]
    rw [show (v.toInt.toNat : Int) = v.toInt by omega]
    exact Int.bmod_eq_of_le (by omega) (by omega)
/-- are the told places a choice -/
def ansOk (a : Ln) (d : Dt) (vs : Nat → Int64) : Bool := alln (fun b => vOk (nR a) (vs b)) (nB a) && fits (nB a) (nR a) (dR d) (fun b => vW (vs b))
theorem c_Su_hear_111 {l : Launch} {h : Nat} {mi : TMi} {ml : TMl} {z : Nat} {a : Ln} {d : Dt} {vs : Nat → Int64} {Q : Int32 → TMi → TMl → Nat → Prop} (hA : CA mi a d) (hn : mi 111 2 = nI (nB a)) (hv : ∀ i, i < nB a → ml 112 i = vs i)
    (hq1 : ansOk a d vs = true → ∀ mi', Fr [76] mi mi' → isW (mi' 76) (nB a) (nR a) (fun b => vW (vs b)) → Q 1 mi' ml z) (hq0 : ansOk a d vs = false → ∀ mi', Fr [76] mi mi' → Q 0 mi' ml z) : CI l (h + 3) m_Su_hear [.ref 75, .ref 17, .ref 111] mi ml z Q := by
  have ha := hA.1
  have hB6 := ha.1
  have hR4 := ha.2.1
  refine t_Su_hear_111 mi ml z ?_
  refine loop (P := fun i => ∀ m, Fr [76] mi m → (∀ b, b < i → vOk (nR a) (vs b) = true ∧ m 76 b = oI (vW (vs b))) → Ev l (h + 3) m_Su_hear 2 ([.ref 75, .ref 17, .ref 111, .int (nI i), .retAddr 0, .retAddr 0], [], st m ml z) (qI Q)) (nB a) (fun m F hk => ?_) (fun i hi ih m F hk => ?_) mi (Fr.refl _ _) (fun b hb => absurd hb (Nat.not_lt_zero _))
  · have hAm : CA m a d := hA.of F (by simp)
    have hall : alln (fun b => vOk (nR a) (vs b)) (nB a) = true := alln_iff.mpr (fun b hb => (hk b hb).1)
    have hiw : isW (m 76) (nB a) (nR a) (fun b => vW (vs b)) := fun b hb => ⟨(hk b hb).2, (vW_I hR4 (hk b hb).1).2⟩
    refine t_Su_hear_111_2 m ml z _ ⟨fun _ => ?_, fun c => absurd (le_at hAm.2.2.1.1 (by omega)) c⟩
    refine loop (P := fun j => (∀ r, r < j → cnt (inn (fun b => vW (vs b)) r) (nB a) ≤ dR d r) → Ev l (h + 3) m_Su_hear 62 ([.ref 75, .ref 17, .retAddr 0, .int (nI j), .retAddr 0, .retAddr 0], [], st m ml z) (qI Q)) (nR a) (fun hf => ?_) (fun j hj ihj hf => ?_) (fun r hr => absurd hr (Nat.not_lt_zero _))
    · refine t_Su_hear_111_62 m ml z _ ⟨fun _ => hq1 ?_ m F hiw, fun c => absurd (le_at hAm.2.2.1.2.1 (by omega)) c⟩
      unfold ansOk
      rw [hall, show fits (nB a) (nR a) (dR d) (fun b => vW (vs b)) = true from alln_iff.mpr (fun r hr => by rw [decide_eq_true_eq]; exact hf r hr)]
      rfl
    · refine t_Su_hear_111_62 m ml z _ ⟨fun c => absurd c (ge_no hAm.2.2.1.2.1 (by omega) hj), fun _ => c_Sc_becksIn_17 (lw := 6) rfl (by decide) hAm.2.2.1.1 hB6 ?_⟩
      rw [isW_enc hiw hR4 (show j < 4 by omega)]
      refine c_bitCount (enc_64 _ hB6) (t_Sc_roomOf_17 _ _ _ _ ⟨in_addL (a := 12) (by omega) (by decide), ?_⟩)
      have hcl := cnt_le (inn (fun b => vW (vs b)) j) (nB a)
      have hrm := hAm.rm j hj
      rw [pop_enc _ hB6, addL_cl 12 j (by omega), hrm.1]
      show (nI (cnt (inn (fun b => vW (vs b)) j) (nB a)) ≤ nI (dR d j) → _) ∧ (¬ nI (cnt (inn (fun b => vW (vs b)) j) (nB a)) ≤ nI (dR d j) → _)
      rw [nI_leI (by omega) (by omega), nI_1]
      refine ⟨fun c => ihj (fun r hr => ?_), fun c => hq0 ?_ m F⟩
      · by_cases q : r = j
        · rw [q]; exact c
        · exact hf r (by omega)
      · unfold ansOk
        rw [show fits (nB a) (nR a) (dR d) (fun b => vW (vs b)) = false from alln_false hj (by rw [decide_eq_false_iff_not]; exact c)]
        simp
  · have hAm : CA m a d := hA.of F (by simp)
    have no : vOk (nR a) (vs i) = false → Q 0 m ml z := fun e => hq0 (by unfold ansOk; rw [show alln (fun b => vOk (nR a) (vs b)) (nB a) = false from alln_false hi e]; rfl) m F
    refine t_Su_hear_111_2 m ml z _ ⟨fun c => absurd c (ge_no hAm.2.2.1.1 (by omega) hi), fun _ => c_Tr_at_111 (by rw [F 111 (by decide)]; exact hn) (by omega) hi ?_⟩
    rw [hv i hi, lc_lt, lc_lt, hAm.2.2.1.2.1, Int64.lt_iff_toInt_lt, Int64.lt_iff_toInt_lt, t64, nI_toInt (show nR a < 2 ^ 31 by omega), show (-1 : Int64).toInt = -1 by decide]
    refine ⟨fun c => no (by unfold vOk; rw [decide_eq_false_iff_not]; omega), fun c => ⟨fun c2 => ⟨in_nI (by omega) (by decide), ?_⟩, fun c2 => no (by unfold vOk; rw [decide_eq_false_iff_not]; omega)⟩⟩
    have hok : vOk (nR a) (vs i) = true := by unfold vOk; rw [decide_eq_true_eq]; omega
    rw [cl_nI (by omega), nI_1, (vW_I hR4 hok).1]
    refine ih _ (F.step (Fr_up _ _ _ _)) (fun b hb => ?_)
    by_cases q : b = i
    · subst q; rw [up_at]; exact ⟨hok, rfl⟩
    · rw [up_nk _ _ _ q]; exact hk b (by omega)
theorem c_Su_hear_113 {l : Launch} {h : Nat} {mi : TMi} {ml : TMl} {z : Nat} {a : Ln} {d : Dt} {vs : Nat → Int64} {Q : Int32 → TMi → TMl → Nat → Prop} (hA : CA mi a d) (hn : mi 113 2 = nI (nB a)) (hv : ∀ i, i < nB a → ml 114 i = vs i)
    (hq1 : ansOk a d vs = true → ∀ mi', Fr [76] mi mi' → isW (mi' 76) (nB a) (nR a) (fun b => vW (vs b)) → Q 1 mi' ml z) (hq0 : ansOk a d vs = false → ∀ mi', Fr [76] mi mi' → Q 0 mi' ml z) : CI l (h + 3) m_Su_hear [.ref 75, .ref 17, .ref 113] mi ml z Q := by
  have ha := hA.1
  have hB6 := ha.1
  have hR4 := ha.2.1
  refine t_Su_hear_113 mi ml z ?_
  refine loop (P := fun i => ∀ m, Fr [76] mi m → (∀ b, b < i → vOk (nR a) (vs b) = true ∧ m 76 b = oI (vW (vs b))) → Ev l (h + 3) m_Su_hear 2 ([.ref 75, .ref 17, .ref 113, .int (nI i), .retAddr 0, .retAddr 0], [], st m ml z) (qI Q)) (nB a) (fun m F hk => ?_) (fun i hi ih m F hk => ?_) mi (Fr.refl _ _) (fun b hb => absurd hb (Nat.not_lt_zero _))
  · have hAm : CA m a d := hA.of F (by simp)
    have hall : alln (fun b => vOk (nR a) (vs b)) (nB a) = true := alln_iff.mpr (fun b hb => (hk b hb).1)
    have hiw : isW (m 76) (nB a) (nR a) (fun b => vW (vs b)) := fun b hb => ⟨(hk b hb).2, (vW_I hR4 (hk b hb).1).2⟩
    refine t_Su_hear_113_2 m ml z _ ⟨fun _ => ?_, fun c => absurd (le_at hAm.2.2.1.1 (by omega)) c⟩
    refine loop (P := fun j => (∀ r, r < j → cnt (inn (fun b => vW (vs b)) r) (nB a) ≤ dR d r) → Ev l (h + 3) m_Su_hear 62 ([.ref 75, .ref 17, .retAddr 0, .int (nI j), .retAddr 0, .retAddr 0], [], st m ml z) (qI Q)) (nR a) (fun hf => ?_) (fun j hj ihj hf => ?_) (fun r hr => absurd hr (Nat.not_lt_zero _))
    · refine t_Su_hear_113_62 m ml z _ ⟨fun _ => hq1 ?_ m F hiw, fun c => absurd (le_at hAm.2.2.1.2.1 (by omega)) c⟩
      unfold ansOk
      rw [hall, show fits (nB a) (nR a) (dR d) (fun b => vW (vs b)) = true from alln_iff.mpr (fun r hr => by rw [decide_eq_true_eq]; exact hf r hr)]
      rfl
    · refine t_Su_hear_113_62 m ml z _ ⟨fun c => absurd c (ge_no hAm.2.2.1.2.1 (by omega) hj), fun _ => c_Sc_becksIn_17 (lw := 6) rfl (by decide) hAm.2.2.1.1 hB6 ?_⟩
      rw [isW_enc hiw hR4 (show j < 4 by omega)]
      refine c_bitCount (enc_64 _ hB6) (t_Sc_roomOf_17 _ _ _ _ ⟨in_addL (a := 12) (by omega) (by decide), ?_⟩)
      have hcl := cnt_le (inn (fun b => vW (vs b)) j) (nB a)
      have hrm := hAm.rm j hj
      rw [pop_enc _ hB6, addL_cl 12 j (by omega), hrm.1]
      show (nI (cnt (inn (fun b => vW (vs b)) j) (nB a)) ≤ nI (dR d j) → _) ∧ (¬ nI (cnt (inn (fun b => vW (vs b)) j) (nB a)) ≤ nI (dR d j) → _)
      rw [nI_leI (by omega) (by omega), nI_1]
      refine ⟨fun c => ihj (fun r hr => ?_), fun c => hq0 ?_ m F⟩
      · by_cases q : r = j
        · rw [q]; exact c
        · exact hf r (by omega)
      · unfold ansOk
        rw [show fits (nB a) (nR a) (dR d) (fun b => vW (vs b)) = false from alln_false hj (by rw [decide_eq_false_iff_not]; exact c)]
        simp
  · have hAm : CA m a d := hA.of F (by simp)
    have no : vOk (nR a) (vs i) = false → Q 0 m ml z := fun e => hq0 (by unfold ansOk; rw [show alln (fun b => vOk (nR a) (vs b)) (nB a) = false from alln_false hi e]; rfl) m F
    refine t_Su_hear_113_2 m ml z _ ⟨fun c => absurd c (ge_no hAm.2.2.1.1 (by omega) hi), fun _ => c_Tr_at_113 (by rw [F 113 (by decide)]; exact hn) (by omega) hi ?_⟩
    rw [hv i hi, lc_lt, lc_lt, hAm.2.2.1.2.1, Int64.lt_iff_toInt_lt, Int64.lt_iff_toInt_lt, t64, nI_toInt (show nR a < 2 ^ 31 by omega), show (-1 : Int64).toInt = -1 by decide]
    refine ⟨fun c => no (by unfold vOk; rw [decide_eq_false_iff_not]; omega), fun c => ⟨fun c2 => ⟨in_nI (by omega) (by decide), ?_⟩, fun c2 => no (by unfold vOk; rw [decide_eq_false_iff_not]; omega)⟩⟩
    have hok : vOk (nR a) (vs i) = true := by unfold vOk; rw [decide_eq_true_eq]; omega
    rw [cl_nI (by omega), nI_1, (vW_I hR4 hok).1]
    refine ih _ (F.step (Fr_up _ _ _ _)) (fun b hb => ?_)
    by_cases q : b = i
    · subst q; rw [up_at]; exact ⟨hok, rfl⟩
    · rw [up_nk _ _ _ q]; exact hk b (by omega)
theorem c_Su_hear_115 {l : Launch} {h : Nat} {mi : TMi} {ml : TMl} {z : Nat} {a : Ln} {d : Dt} {vs : Nat → Int64} {Q : Int32 → TMi → TMl → Nat → Prop} (hA : CA mi a d) (hn : mi 115 2 = nI (nB a)) (hv : ∀ i, i < nB a → ml 116 i = vs i)
    (hq1 : ansOk a d vs = true → ∀ mi', Fr [76] mi mi' → isW (mi' 76) (nB a) (nR a) (fun b => vW (vs b)) → Q 1 mi' ml z) (hq0 : ansOk a d vs = false → ∀ mi', Fr [76] mi mi' → Q 0 mi' ml z) : CI l (h + 3) m_Su_hear [.ref 75, .ref 17, .ref 115] mi ml z Q := by
  have ha := hA.1
  have hB6 := ha.1
  have hR4 := ha.2.1
  refine t_Su_hear_115 mi ml z ?_
  refine loop (P := fun i => ∀ m, Fr [76] mi m → (∀ b, b < i → vOk (nR a) (vs b) = true ∧ m 76 b = oI (vW (vs b))) → Ev l (h + 3) m_Su_hear 2 ([.ref 75, .ref 17, .ref 115, .int (nI i), .retAddr 0, .retAddr 0], [], st m ml z) (qI Q)) (nB a) (fun m F hk => ?_) (fun i hi ih m F hk => ?_) mi (Fr.refl _ _) (fun b hb => absurd hb (Nat.not_lt_zero _))
  · have hAm : CA m a d := hA.of F (by simp)
    have hall : alln (fun b => vOk (nR a) (vs b)) (nB a) = true := alln_iff.mpr (fun b hb => (hk b hb).1)
    have hiw : isW (m 76) (nB a) (nR a) (fun b => vW (vs b)) := fun b hb => ⟨(hk b hb).2, (vW_I hR4 (hk b hb).1).2⟩
    refine t_Su_hear_115_2 m ml z _ ⟨fun _ => ?_, fun c => absurd (le_at hAm.2.2.1.1 (by omega)) c⟩
    refine loop (P := fun j => (∀ r, r < j → cnt (inn (fun b => vW (vs b)) r) (nB a) ≤ dR d r) → Ev l (h + 3) m_Su_hear 62 ([.ref 75, .ref 17, .retAddr 0, .int (nI j), .retAddr 0, .retAddr 0], [], st m ml z) (qI Q)) (nR a) (fun hf => ?_) (fun j hj ihj hf => ?_) (fun r hr => absurd hr (Nat.not_lt_zero _))
    · refine t_Su_hear_115_62 m ml z _ ⟨fun _ => hq1 ?_ m F hiw, fun c => absurd (le_at hAm.2.2.1.2.1 (by omega)) c⟩
      unfold ansOk
      rw [hall, show fits (nB a) (nR a) (dR d) (fun b => vW (vs b)) = true from alln_iff.mpr (fun r hr => by rw [decide_eq_true_eq]; exact hf r hr)]
      rfl
    · refine t_Su_hear_115_62 m ml z _ ⟨fun c => absurd c (ge_no hAm.2.2.1.2.1 (by omega) hj), fun _ => c_Sc_becksIn_17 (lw := 6) rfl (by decide) hAm.2.2.1.1 hB6 ?_⟩
      rw [isW_enc hiw hR4 (show j < 4 by omega)]
      refine c_bitCount (enc_64 _ hB6) (t_Sc_roomOf_17 _ _ _ _ ⟨in_addL (a := 12) (by omega) (by decide), ?_⟩)
      have hcl := cnt_le (inn (fun b => vW (vs b)) j) (nB a)
      have hrm := hAm.rm j hj
      rw [pop_enc _ hB6, addL_cl 12 j (by omega), hrm.1]
      show (nI (cnt (inn (fun b => vW (vs b)) j) (nB a)) ≤ nI (dR d j) → _) ∧ (¬ nI (cnt (inn (fun b => vW (vs b)) j) (nB a)) ≤ nI (dR d j) → _)
      rw [nI_leI (by omega) (by omega), nI_1]
      refine ⟨fun c => ihj (fun r hr => ?_), fun c => hq0 ?_ m F⟩
      · by_cases q : r = j
        · rw [q]; exact c
        · exact hf r (by omega)
      · unfold ansOk
        rw [show fits (nB a) (nR a) (dR d) (fun b => vW (vs b)) = false from alln_false hj (by rw [decide_eq_false_iff_not]; exact c)]
        simp
  · have hAm : CA m a d := hA.of F (by simp)
    have no : vOk (nR a) (vs i) = false → Q 0 m ml z := fun e => hq0 (by unfold ansOk; rw [show alln (fun b => vOk (nR a) (vs b)) (nB a) = false from alln_false hi e]; rfl) m F
    refine t_Su_hear_115_2 m ml z _ ⟨fun c => absurd c (ge_no hAm.2.2.1.1 (by omega) hi), fun _ => c_Tr_at_115 (by rw [F 115 (by decide)]; exact hn) (by omega) hi ?_⟩
    rw [hv i hi, lc_lt, lc_lt, hAm.2.2.1.2.1, Int64.lt_iff_toInt_lt, Int64.lt_iff_toInt_lt, t64, nI_toInt (show nR a < 2 ^ 31 by omega), show (-1 : Int64).toInt = -1 by decide]
    refine ⟨fun c => no (by unfold vOk; rw [decide_eq_false_iff_not]; omega), fun c => ⟨fun c2 => ⟨in_nI (by omega) (by decide), ?_⟩, fun c2 => no (by unfold vOk; rw [decide_eq_false_iff_not]; omega)⟩⟩
    have hok : vOk (nR a) (vs i) = true := by unfold vOk; rw [decide_eq_true_eq]; omega
    rw [cl_nI (by omega), nI_1, (vW_I hR4 hok).1]
    refine ih _ (F.step (Fr_up _ _ _ _)) (fun b hb => ?_)
    by_cases q : b = i
    · subst q; rw [up_at]; exact ⟨hok, rfl⟩
    · rw [up_nk _ _ _ q]; exact hk b (by omega)
theorem c_Su_hear_117 {l : Launch} {h : Nat} {mi : TMi} {ml : TMl} {z : Nat} {a : Ln} {d : Dt} {vs : Nat → Int64} {Q : Int32 → TMi → TMl → Nat → Prop} (hA : CA mi a d) (hn : mi 117 2 = nI (nB a)) (hv : ∀ i, i < nB a → ml 118 i = vs i)
    (hq1 : ansOk a d vs = true → ∀ mi', Fr [76] mi mi' → isW (mi' 76) (nB a) (nR a) (fun b => vW (vs b)) → Q 1 mi' ml z) (hq0 : ansOk a d vs = false → ∀ mi', Fr [76] mi mi' → Q 0 mi' ml z) : CI l (h + 3) m_Su_hear [.ref 75, .ref 17, .ref 117] mi ml z Q := by
  have ha := hA.1
  have hB6 := ha.1
  have hR4 := ha.2.1
  refine t_Su_hear_117 mi ml z ?_
  refine loop (P := fun i => ∀ m, Fr [76] mi m → (∀ b, b < i → vOk (nR a) (vs b) = true ∧ m 76 b = oI (vW (vs b))) → Ev l (h + 3) m_Su_hear 2 ([.ref 75, .ref 17, .ref 117, .int (nI i), .retAddr 0, .retAddr 0], [], st m ml z) (qI Q)) (nB a) (fun m F hk => ?_) (fun i hi ih m F hk => ?_) mi (Fr.refl _ _) (fun b hb => absurd hb (Nat.not_lt_zero _))
  · have hAm : CA m a d := hA.of F (by simp)
    have hall : alln (fun b => vOk (nR a) (vs b)) (nB a) = true := alln_iff.mpr (fun b hb => (hk b hb).1)
    have hiw : isW (m 76) (nB a) (nR a) (fun b => vW (vs b)) := fun b hb => ⟨(hk b hb).2, (vW_I hR4 (hk b hb).1).2⟩
    refine t_Su_hear_117_2 m ml z _ ⟨fun _ => ?_, fun c => absurd (le_at hAm.2.2.1.1 (by omega)) c⟩
    refine loop (P := fun j => (∀ r, r < j → cnt (inn (fun b => vW (vs b)) r) (nB a) ≤ dR d r) → Ev l (h + 3) m_Su_hear 62 ([.ref 75, .ref 17, .retAddr 0, .int (nI j), .retAddr 0, .retAddr 0], [], st m ml z) (qI Q)) (nR a) (fun hf => ?_) (fun j hj ihj hf => ?_) (fun r hr => absurd hr (Nat.not_lt_zero _))
    · refine t_Su_hear_117_62 m ml z _ ⟨fun _ => hq1 ?_ m F hiw, fun c => absurd (le_at hAm.2.2.1.2.1 (by omega)) c⟩
      unfold ansOk
      rw [hall, show fits (nB a) (nR a) (dR d) (fun b => vW (vs b)) = true from alln_iff.mpr (fun r hr => by rw [decide_eq_true_eq]; exact hf r hr)]
      rfl
    · refine t_Su_hear_117_62 m ml z _ ⟨fun c => absurd c (ge_no hAm.2.2.1.2.1 (by omega) hj), fun _ => c_Sc_becksIn_17 (lw := 6) rfl (by decide) hAm.2.2.1.1 hB6 ?_⟩
      rw [isW_enc hiw hR4 (show j < 4 by omega)]
      refine c_bitCount (enc_64 _ hB6) (t_Sc_roomOf_17 _ _ _ _ ⟨in_addL (a := 12) (by omega) (by decide), ?_⟩)
      have hcl := cnt_le (inn (fun b => vW (vs b)) j) (nB a)
      have hrm := hAm.rm j hj
      rw [pop_enc _ hB6, addL_cl 12 j (by omega), hrm.1]
      show (nI (cnt (inn (fun b => vW (vs b)) j) (nB a)) ≤ nI (dR d j) → _) ∧ (¬ nI (cnt (inn (fun b => vW (vs b)) j) (nB a)) ≤ nI (dR d j) → _)
      rw [nI_leI (by omega) (by omega), nI_1]
      refine ⟨fun c => ihj (fun r hr => ?_), fun c => hq0 ?_ m F⟩
      · by_cases q : r = j
        · rw [q]; exact c
        · exact hf r (by omega)
      · unfold ansOk
        rw [show fits (nB a) (nR a) (dR d) (fun b => vW (vs b)) = false from alln_false hj (by rw [decide_eq_false_iff_not]; exact c)]
        simp
  · have hAm : CA m a d := hA.of F (by simp)
    have no : vOk (nR a) (vs i) = false → Q 0 m ml z := fun e => hq0 (by unfold ansOk; rw [show alln (fun b => vOk (nR a) (vs b)) (nB a) = false from alln_false hi e]; rfl) m F
    refine t_Su_hear_117_2 m ml z _ ⟨fun c => absurd c (ge_no hAm.2.2.1.1 (by omega) hi), fun _ => c_Tr_at_117 (by rw [F 117 (by decide)]; exact hn) (by omega) hi ?_⟩
    rw [hv i hi, lc_lt, lc_lt, hAm.2.2.1.2.1, Int64.lt_iff_toInt_lt, Int64.lt_iff_toInt_lt, t64, nI_toInt (show nR a < 2 ^ 31 by omega), show (-1 : Int64).toInt = -1 by decide]
    refine ⟨fun c => no (by unfold vOk; rw [decide_eq_false_iff_not]; omega), fun c => ⟨fun c2 => ⟨in_nI (by omega) (by decide), ?_⟩, fun c2 => no (by unfold vOk; rw [decide_eq_false_iff_not]; omega)⟩⟩
    have hok : vOk (nR a) (vs i) = true := by unfold vOk; rw [decide_eq_true_eq]; omega
    rw [cl_nI (by omega), nI_1, (vW_I hR4 hok).1]
    refine ih _ (F.step (Fr_up _ _ _ _)) (fun b hb => ?_)
    by_cases q : b = i
    · subst q; rw [up_at]; exact ⟨hok, rfl⟩
    · rw [up_nk _ _ _ q]; exact hk b (by omega)
/-- a land in which one beck has another mark -/
def mkL (a : Ln) (b k : Nat) : Ln := (a.1, a.2.1, a.2.2.1, fun i => if i = b then k else nM a i, a.2.2.2.2)
theorem mk_ne {a : Ln} {d : Dt} {b k x y : Nat} (h : ¬ x = b) : lkD (mkL a b k) d x y = lkD a d x y ∧ tkD (mkL a b k) d x y = tkD a d x y := by
  have e : nM (mkL a b k) x = nM a x := by simp [mkL, nM, h]
  unfold lkD tkD W0
  rw [e]
  exact ⟨rfl, rfl⟩
theorem mk_at {a : Ln} {b k : Nat} : nM (mkL a b k) b = k := by simp [mkL, nM]
theorem okLn_mk {a : Ln} {b k : Nat} (ha : okLn a) (hk : k ≤ 9) : okLn (mkL a b k) := by
  refine ⟨ha.1, ha.2.1, fun i hi => ⟨?_, (ha.2.2.1 i hi).2⟩, ha.2.2.2⟩
  by_cases q : i = b
  · subst q; rw [mk_at]; exact hk
  · have : nM (mkL a b k) i = nM a i := by simp [mkL, nM, q]
    rw [this]; exact (ha.2.2.1 i hi).1
def hdM (a : Ln) (d : Dt) (b : Nat) (wo : Nat → Option Nat) (k : Nat) : Bool := heldS (nB a) (nR a) (lkD (mkL a b k) d) (tkD (mkL a b k) d) (dR d) wo
def wdM (a : Ln) (d : Dt) (b : Nat) (wo : Nat → Option Nat) (r k : Nat) : Bool := hdM a d b wo k && decide (0 < lkD (mkL a b k) d b r)
theorem c_Su_countWilling {l : Launch} {h : Nat} {m : TMi} {ml : TMl} {z : Nat} {a : Ln} {b : Nat} {L : Nat → Int} {C : Nat → Nat} {Q : TMi → TMl → Nat → Prop} (hR : m 18 1 = nI (nR a)) (hR4 : nR a ≤ 4) (hb : b < 6) (hL : ∀ r, r < nR a → (m 35 (4 * b + r)).toInt = L r) (hC : ∀ r, r < nR a → m 77 r = nI (C r)) (hq : ∀ m', Fr [77] m m' → (∀ r, r < nR a → m' 77 r = nI (C r + if 0 < L r then 1 else 0)) → Q m' ml z) : CV l (h + 2) m_Su_countWilling [.ref 75, .int (nI b)] m ml z Q := by
  refine t_Su_countWilling m ml z _ ?_
  refine loop (P := fun i => ∀ m', Fr [77] m m' → (∀ r, r < i → m' 77 r = nI (C r + if 0 < L r then 1 else 0)) → (∀ r, i ≤ r → m' 77 r = m 77 r) → Ev l (h + 2) m_Su_countWilling 2 ([.ref 75, .int (nI b), .int (nI i)], [], st m' ml z) (qV Q)) (nR a) (fun m' F h1 h2 => ?_) (fun i hi ih m' F h1 h2 => ?_) m (Fr.refl _ _) (fun r hr => absurd hr (Nat.not_lt_zero _)) (fun _ _ => rfl)
  · exact t_Su_countWilling_2 m' ml z _ _ ⟨fun _ => hq m' F h1, fun c => absurd (le_at (by rw [F 18 (by decide)]; exact hR) (by omega)) c⟩
  · refine t_Su_countWilling_2 m' ml z _ _ ⟨fun c => absurd c (ge_no (by rw [F 18 (by decide)]; exact hR) (by omega) hi), fun _ => t_B_pair _ _ _ _ _ ?_⟩
    rw [mul4, cl_nI (by omega), F 35 (by decide), le0, hL i hi, nI_1, cl_nI (by omega), h2 i (Nat.le_refl _), hC i hi, nI_1]
    refine ⟨in_nI (by omega) (by decide), fun c => ?_, fun c => ⟨in_nI (by omega) (by decide), in_nI (by omega) (by decide), ?_⟩⟩
    · refine ih m' F (fun r hr => ?_) (fun r hr => h2 r (by omega))
      by_cases q : r = i
      · subst q; rw [if_neg c, Nat.add_zero, h2 r (Nat.le_refl _)]; exact hC r hi
      · exact h1 r (by omega)
    · rw [Decidable.not_not] at c
      refine ih _ (F.step (Fr_up _ _ _ _)) (fun r hr => ?_) (fun r hr => by rw [up_nk _ _ _ (by omega)]; exact h2 r (by omega))
      by_cases q : r = i
      · subst q; rw [up_at, if_pos c]
      · rw [up_nk _ _ _ q]; exact h1 r (by omega)
theorem c_Su_marksThatHold {l : Launch} {h : Nat} {mi : TMi} {ml : TMl} {z : Nat} {a : Ln} {d : Dt} {b : Nat} {wo : Nat → Option Nat} {Q : Int32 → TMi → TMl → Nat → Prop} (hA : CA mi a d) (hb : b < nB a) (hw : isW (mi 76) (nB a) (nR a) wo)
    (hq : ∀ mi', Fr [15, 16, 34, 35, 36, 37, 38, 39, 75, 77] mi mi' → mi' 75 3 = nI (enc (hdM a d b wo) 10) → (∀ r, r < nR a → mi' 77 r = nI (cnt (wdM a d b wo r) 10)) → Q (nI (enc (hdM a d b wo) 10)) mi' ml z) : CI l (h + 6) m_Su_marksThatHold [.ref 75, .ref 17, .int (nI b)] mi ml z Q := by
  have ha := hA.1
  have hB6 := ha.1
  have hR4 := ha.2.1
  refine t_Su_marksThatHold mi ml z _ (c_trial hA (fun m1 F1 hc1 hs1 => c_fill (n := 4) rfl (by decide) (fun m2 F2 k2 => ?_)))
  have F12 : Fr [15, 16, 34, 35, 36, 37, 38, 39, 75, 77] mi m2 := ((F1.weak (by simp)).step ((Fr_up _ _ _ _).weak (by simp))).step (F2.weak (by simp))
  have G : ∀ n, 34 ≤ n → n < 40 → m2 n = m1 n := fun n h1 h2 => by rw [F2 n (by simp; omega), up_ne _ _ _ (by omega)]
  refine loop (P := fun k => ∀ m, Fr [15, 16, 34, 35, 36, 37, 38, 39, 75, 77] mi m → m 34 = m1 34 → SLp m 35 36 37 38 39 (nB a) (nR a) (fun x _ => ¬ x = b) (lkD a d) (tkD a d) → m 75 3 = nI (enc (hdM a d b wo) k) → (∀ r, r < nR a → m 77 r = nI (cnt (wdM a d b wo r) k)) → Ev l (h + 6) m_Su_marksThatHold 23 ([.ref 75, .retAddr 0, .int (nI b), .int (nI k)], [], st m ml z) (qI Q)) 10 (fun m F e34 hs e3 e77 => ?_) (fun k hk ih m F e34 hs e3 e77 => ?_) m2 F12 (G 34 (by omega) (by omega)) ((hs1.fr (G _ (by omega) (by omega)) (G _ (by omega) (by omega)) (G _ (by omega) (by omega)) (G _ (by omega) (by omega)) (G _ (by omega) (by omega))).mono (fun _ _ _ _ _ => trivial)) (by rw [F2 75 (by decide), up_at]; rfl) (fun r hr => by rw [k2 r (by omega)]; rfl)
  · refine t_Su_marksThatHold_23 m ml z _ _ ⟨fun _ => ?_, fun c => absurd (by decide) c⟩
    rw [e3]
    exact hq m F e3 e77
  · have hAm : CA m a d := hA.of F (by decide)
    have hcm : Cs (m 34) d := by rw [e34]; exact hc1
    refine t_Su_marksThatHold_23 m ml z _ _ ⟨fun c => absurd ((nI_ltI (a := 9) (b := k) (by decide) (by omega)).mp c) (by omega), fun _ => ?_⟩
    have hak := okLn_mk (b := b) ha (show k ≤ 9 by omega)
    have hms : ∀ r, r < nR a → Ms m 34 (nL a) (nT a) (lkD (mkL a b k) d) (tkD (mkL a b k) d) b r (nI k) (m 34 (16 + (4 * b + r))) := fun r hr => by
      have e1 : m 34 (6 + b) = nI (dF d b) := hcm.2.1 b (by omega)
      have e2 : m 24 r = nI (nNm a r) := hAm.2.2.1.2.2.2.2.2.1 r hr
      have e4 : m 34 (16 + (4 * b + r)) = nI (dG d b r) := hcm.2.2.2 b r (by omega) (by omega)
      unfold Ms
      rw [e1, e2, e4]
      refine ⟨okW_wds (by omega) (hA.2.1.2.1 b).1 (by omega) (by omega) (ha.2.2.2 r hr).1 (hA.2.1.2.2.2.1 b r), ?_, ?_⟩
      · unfold lkD W0; rw [mk_at]; rfl
      · unfold tkD W0; rw [mk_at]; rfl
    refine c_Sc_measureBeck_33 (hAm.2.2.1.ld ha) hb hms (hs.cong (P' := fun x _ => ¬ x = b) (fun x y _ _ hp => ⟨hp, mk_ne hp⟩)) (fun m3 F3 hs3 => ?_)
    have hs3' : SLp m3 35 36 37 38 39 (nB a) (nR a) allP (lkD (mkL a b k) d) (tkD (mkL a b k) d) := hs3.mono (fun x _ _ _ _ => by
      by_cases q : x = b
      · exact Or.inr q
      · exact Or.inl q)
    have F13 : Fr [15, 16, 34, 35, 36, 37, 38, 39, 75, 77] mi m3 := F.step (F3.weak (by simp))
    have hA3 : CA m3 a d := hA.of F13 (by decide)
    have e343 : m3 34 = m1 34 := by rw [F3 34 (by decide)]; exact e34
    refine c_Sc_isHeld_33 (lw := 6) rfl (by decide) hA3.2.2.1.1 hB6 hA3.2.2.1.2.1 hR4 hs3' (by rw [F13 76 (by decide)]; exact hw) (by rw [e343]; exact hc1.rm ha hA.2.1) ?_
    have hsn : ∀ m4 : TMi, (∀ n, 34 ≤ n → n < 40 → m4 n = m3 n) → SLp m4 35 36 37 38 39 (nB a) (nR a) (fun x _ => ¬ x = b) (lkD a d) (tkD a d) := fun m4 e => (hs3'.fr (e _ (by omega) (by omega)) (e _ (by omega) (by omega)) (e _ (by omega) (by omega)) (e _ (by omega) (by omega)) (e _ (by omega) (by omega))).cong (fun x y _ _ hp => ⟨trivial, (mk_ne hp).1.symm, (mk_ne hp).2.symm⟩)
    rw [bI_0, nI_1]
    show (hdM a d b wo k = false → _) ∧ (¬ hdM a d b wo k = false → _)
    refine ⟨fun c => ih m3 F13 e343 (hsn m3 (fun _ _ _ => rfl)) ?_ (fun r hr => ?_), fun c => ?_⟩
    · rw [F3 75 (by decide), e3, enc_skip c]
    · rw [F3 77 (by decide), e77 r hr, cnt_n (p := wdM a d b wo r) (by simp [wdM, c])]
    · have c' : hdM a d b wo k = true := by simpa using c
      rw [F3 75 (by decide), e3, enc10 (p := hdM a d b wo) hk c']
      refine c_Su_countWilling (a := a) (L := fun r => lkD (mkL a b k) d b r) (C := fun r => cnt (wdM a d b wo r) k) (by rw [up_ne _ _ _ (by decide)]; exact hA3.2.2.1.2.1) hR4 (by omega) (fun r hr => by rw [up_ne _ _ _ (by decide)]; exact (hs3'.1 b r hb hr trivial).1) (fun r hr => by rw [up_ne _ _ _ (by decide), F3 77 (by decide)]; exact e77 r hr) (fun m4 F4 k77 => ?_)
      have G4 : ∀ n, 34 ≤ n → n < 40 → m4 n = m3 n := fun n h1 h2 => by rw [F4 n (by simp; omega), up_ne _ _ _ (by omega)]
      refine ih m4 ((F13.step ((Fr_up _ _ _ _).weak (by simp))).step (F4.weak (by simp))) (by rw [G4 34 (by omega) (by omega)]; exact e343) (hsn m4 G4) (by rw [F4 75 (by decide), up_at]) (fun r hr => ?_)
      rw [k77 r hr]
      congr 1
      by_cases q : 0 < lkD (mkL a b k) d b r
      · rw [if_pos q]; simp [cnt, wdM, c', q]
      · rw [if_neg q]; simp [cnt, wdM, q]
theorem pc10 : ∀ m, m < 1024 → bcE (nI m) = nI (cnt (fun b => tb m b) 10) := by decide +kernel
theorem c_bit10 {l : Launch} {h : Nat} {mi : TMi} {ml : TMl} {z : Nat} {p : Nat → Bool} {Q : Int32 → TMi → TMl → Nat → Prop} (hq : Q (nI (cnt p 10)) mi ml z) : CI l (h + 1) m_JI_bitCount [.int (nI (enc p 10))] mi ml z Q := by
  refine t_JI_bitCount mi ml z _ ?_
  have := pc10 _ (enc_lt p 10)
  rw [cnt_congr (q := p) (fun b hb => enc_tb p 10 b hb)] at this
  rw [← this] at hq
  exact hq
def itsM (a : Ln) (d : Dt) (b : Nat) (wo : Nat → Option Nat) (r : Nat) : Nat := min (cnt (wdM a d b wo r) 10) (cnt (hdM a d b wo) 10 - cnt (wdM a d b wo r) 10)
def askA2 (a : Ln) (d : Dt) (b : Nat) (wo : Nat → Option Nat) : Int32 := if cnt (hdM a d b wo) 10 = 0 then -1 else oI (lst (fun _ => true) (fun r => - (itsM a d b wo r : Int)) (nR a))
theorem wd_le {a : Ln} {d : Dt} {b r : Nat} {wo : Nat → Option Nat} : cnt (wdM a d b wo r) 10 ≤ cnt (hdM a d b wo) 10 := cnt_mono (fun k _ e => by unfold wdM at e; rw [Bool.and_eq_true] at e; exact e.1)
theorem lst_q {f : Nat → Nat} {i : Nat} : lst (fun _ => true) (fun r => - (f r : Int)) (i + 1) = match lst (fun _ => true) (fun r => - (f r : Int)) i with | none => some i | some m => if f m < f i then some i else some m := by
  simp only [lst, if_true]
  cases lst (fun _ => true) (fun r => - (f r : Int)) i with
  | none => rfl
  | some m =>
    have : (- (f i : Int) < - (f m : Int)) = (f m < f i) := by apply propext; omega
    simp only [this]
def mostQ (f : Nat → Nat) (x : Option Nat) : Int32 := match x with | none => -1 | some m => nI (f m)
theorem m1lt {n : Nat} (h : n < 2 ^ 31) : (-1 : Int32) < nI n := by
  rw [Int32.lt_iff_toInt_lt, nI_toInt h]
  have : (-1 : Int32).toInt = -1 := by decide
  omega
theorem sub_nI {x y : Nat} (hx : x < 2 ^ 31) (hy : y ≤ x) : nI x - nI y = nI (x - y) := by
  apply Int32.toInt_inj.mp
  rw [Int32.toInt_sub, nI_toInt hx, nI_toInt (by omega), nI_toInt (by omega)]
  rw [show ((x : Nat) : Int) - ((y : Nat) : Int) = ((x - y : Nat) : Int) by omega]
  exact Int.bmod_eq_of_le (by omega) (by omega)
theorem c_Su_bestQuestion {l : Launch} {h : Nat} {m : TMi} {ml : TMl} {z : Nat} {a : Ln} {d : Dt} {b : Nat} {wo : Nat → Option Nat} {Q : Int32 → TMi → TMl → Nat → Prop} (ha : okLn a) (e3 : m 75 3 = nI (enc (hdM a d b wo) 10)) (e77 : ∀ r, r < nR a → m 77 r = nI (cnt (wdM a d b wo r) 10)) (hq : Q (askA2 a d b wo) m ml z) : CI l (h + 2) m_Su_bestQuestion [.ref 75, .int (nI (nR a))] m ml z Q := by
  have hR4 := ha.2.1
  refine t_Su_bestQuestion m ml z _ ?_
  rw [e3]
  refine c_bit10 ?_
  have h10 := cnt_le (hdM a d b wo) 10
  unfold askA2 at hq
  by_cases q0 : cnt (hdM a d b wo) 10 = 0
  · rw [if_pos q0] at hq
    rw [q0]
    refine t_Su_bestQuestion_16 m ml z _ _ _ _ _ ⟨fun _ => hq, fun _ => ⟨fun _ => hq, fun c => absurd (by decide) c⟩⟩
  · rw [if_neg q0] at hq
    refine loop (P := fun i => Ev l (h + 2) m_Su_bestQuestion 16 ([.ref 75, .int (nI (nR a)), .int (oI (lst (fun _ => true) (fun r => - (itsM a d b wo r : Int)) i)), .int (mostQ (itsM a d b wo) (lst (fun _ => true) (fun r => - (itsM a d b wo r : Int)) i)), .int (nI (cnt (hdM a d b wo) 10)), .int (nI i), .retAddr 0], [], st m ml z) (qI Q)) (nR a) ?_ (fun i hi ih => ?_)
    · exact t_Su_bestQuestion_16 m ml z _ _ _ _ _ ⟨fun _ => hq, fun c => absurd (le_at (N := nR a) rfl (by omega)) c⟩
    · have hin : vp_in (nI i) 4 := in_nI (by omega) (by decide)
      have hle := wd_le (a := a) (d := d) (b := b) (r := i) (wo := wo)
      refine t_Su_bestQuestion_16 m ml z _ _ _ _ _ ⟨fun c => absurd c (ge_no (N := nR a) rfl (by omega) hi), fun _ => ⟨fun c => absurd ((nI_leI (a := cnt (hdM a d b wo) 10) (b := 0) (by omega) (by decide)).mp c) (by omega), fun _ => ⟨hin, hin, ?_⟩⟩⟩
      rw [cl_nI (by omega), e77 i hi, sub_nI (by omega) hle, nI_1]
      have eits : (if nI (cnt (wdM a d b wo i) 10) > nI (cnt (hdM a d b wo) 10 - cnt (wdM a d b wo i) 10) then nI (cnt (hdM a d b wo) 10 - cnt (wdM a d b wo i) 10) else nI (cnt (wdM a d b wo i) 10)) = nI (itsM a d b wo i) := by
        unfold itsM
        by_cases c : cnt (hdM a d b wo) 10 - cnt (wdM a d b wo i) 10 < cnt (wdM a d b wo i) 10
        · rw [if_pos ((nI_ltI (by omega) (by omega)).mpr c), Nat.min_eq_right (by omega)]
        · rw [if_neg (fun k => c ((nI_ltI (by omega) (by omega)).mp k)), Nat.min_eq_left (by omega)]
      rw [eits]
      have h10i : ∀ r, itsM a d b wo r ≤ 10 := fun r => by unfold itsM; have := wd_le (a := a) (d := d) (b := b) (r := r) (wo := wo); omega
      have hi10 := h10i i
      rw [lst_q] at ih
      cases ex : lst (fun _ => true) (fun r => - (itsM a d b wo r : Int)) i with
      | none =>
        rw [ex] at ih
        refine ⟨fun c => absurd c ?_, fun _ => ih⟩
        have := m1lt (n := itsM a d b wo i) (by omega)
        simp only [mostQ]
        rw [Int32.le_iff_toInt_le]
        rw [Int32.lt_iff_toInt_lt] at this
        omega
      | some x =>
        rw [ex] at ih
        have hx10 := h10i x
        simp only [mostQ] at ih ⊢
        rw [nI_leI (by omega) (by omega)]
        refine ⟨fun c => ?_, fun c => ?_⟩
        · rw [if_neg (by omega)] at ih; exact ih
        · rw [if_pos (by omega)] at ih; exact ih
