/-! ===== indexOf in the signs ===== -/
theorem c_JL_canEncode {l : Launch} {h : Nat} {mi : TMi} {ml : TMl} {z : Nat} {c : Int32} {Q : Int32 → TMi → TMl → Nat → Prop} (hc : 0 ≤ c.toInt ∧ c.toInt ≤ 127) (hq : Q 1 mi ml z) : CI l (h + 1) m_JL_canEncode [.int c] mi ml z Q := by
  show Ev l (h + 1) m_JL_canEncode 0 ([.int c], [], st mi ml z) (qI Q)
  refine ev_iload_n (i := 0) rfl rfl (a_dec_at dc_JL_canEncode 0 rfl) ?_
  refine ev_if_lt (tgt := 15) (a_dec_at dc_JL_canEncode 1 rfl) (by decide) (fun b => ?_) (fun _ => ?_)
  · rw [i32_lt0] at b; omega
  refine ev_iload_n (i := 0) rfl rfl (a_dec_at dc_JL_canEncode 2 rfl) ?_
  refine ev_sipush (v := 255) rfl (a_dec_at dc_JL_canEncode 3 rfl) ?_
  refine ev_icmp_gt (tgt := 15) (a_dec_at dc_JL_canEncode 4 rfl) (by decide) (fun b => ?_) (fun _ => ?_)
  · rw [Int32.lt_iff_toInt_lt, show (255 : Int32).toInt = 255 by decide] at b; omega
  refine ev_iconst (v := 1) rfl (a_dec_at dc_JL_canEncode 5 rfl) ?_
  refine ev_goto (tgt := 16) (a_dec_at dc_JL_canEncode 6 rfl) (by decide) ?_
  exact m_retI (a_dec_at dc_JL_canEncode 8 rfl) rfl rfl hq
theorem i8_small {c : Int32} (hc : 0 ≤ c.toInt ∧ c.toInt ≤ 127) : c.toInt8.toInt32 = c := by
  have e := nI_toNat (x := c) hc.1
  have : ∀ n, n < 128 → (nI n).toInt8.toInt32 = nI n := by decide +kernel
  have h := this c.toInt.toNat (by omega)
  rw [← e] at h
  exact h
theorem c_JL_indexOfChar {l : Launch} {h : Nat} {mi : TMi} {ml : TMl} {z j : Nat} {c : Int32} {Q : Int32 → TMi → TMl → Nat → Prop} (hj : j < 3) (hc : 0 ≤ c.toInt ∧ c.toInt ≤ 127) (hq1 : ∀ i, i < sL j → sB j i = c → Q (nI i) mi ml z) (hq0 : (∀ i, i < sL j → ¬ sB j i = c) → Q (-1) mi ml z) : CI l (h + 1) m_JL_indexOfChar [.ref (1000100 + j), .int c, .int 0, .int (nI (sL j))] mi ml z Q := by
  have h100 := sL_le j hj
  show Ev l (h + 1) m_JL_indexOfChar 0 ([.ref (1000100 + j), .int c, .int 0, .int (nI (sL j)), .retAddr 0, .retAddr 0], [], st mi ml z) (qI Q)
  refine ev_iload_n (i := 1) rfl rfl (a_dec_at dc_JL_indexOfChar 0 rfl) ?_
  refine ev_i2b (a_dec_at dc_JL_indexOfChar 1 rfl) ?_
  rw [i8_small hc]
  refine ev_istore (i := 4) (by decide) rfl (a_dec_at dc_JL_indexOfChar 2 rfl) ?_
  refine ev_iload_n (i := 2) rfl rfl (a_dec_at dc_JL_indexOfChar 3 rfl) ?_
  refine ev_istore (i := 5) (by decide) rfl (a_dec_at dc_JL_indexOfChar 4 rfl) ?_
  show Ev l (h + 1) m_JL_indexOfChar 7 ([.ref (1000100 + j), .int c, .int 0, .int (nI (sL j)), .int c, .int (nI 0)], [], st mi ml z) (qI Q)
  refine loop (P := fun k => (∀ i, i < k → ¬ sB j i = c) → Ev l (h + 1) m_JL_indexOfChar 7 ([.ref (1000100 + j), .int c, .int 0, .int (nI (sL j)), .int c, .int (nI k)], [], st mi ml z) (qI Q)) (sL j) (fun hn => ?_) (fun k hk ih hn => ?_) (fun i hi => absurd hi (Nat.not_lt_zero _))
  · refine ev_iload (i := 5) rfl (a_dec_at dc_JL_indexOfChar 5 rfl) ?_
    refine ev_iload_n (i := 3) rfl rfl (a_dec_at dc_JL_indexOfChar 6 rfl) ?_
    refine ev_icmp_ge (tgt := 31) (a_dec_at dc_JL_indexOfChar 7 rfl) (by decide) (fun _ => ?_) (fun b => absurd (nI_le (Nat.le_refl _) (by omega)) b)
    refine ev_iconst (v := -1) rfl (a_dec_at dc_JL_indexOfChar 17 rfl) ?_
    exact m_retI (a_dec_at dc_JL_indexOfChar 18 rfl) rfl rfl (hq0 hn)
  · refine ev_iload (i := 5) rfl (a_dec_at dc_JL_indexOfChar 5 rfl) ?_
    refine ev_iload_n (i := 3) rfl rfl (a_dec_at dc_JL_indexOfChar 6 rfl) ?_
    refine ev_icmp_ge (tgt := 31) (a_dec_at dc_JL_indexOfChar 7 rfl) (by decide) (fun b => absurd b (ge_no (N := sL j) rfl (by omega) hk)) (fun _ => ?_)
    refine ev_aload_n (i := 0) rfl rfl (a_dec_at dc_JL_indexOfChar 8 rfl) ?_
    refine ev_iload (i := 5) rfl (a_dec_at dc_JL_indexOfChar 9 rfl) ?_
    refine ev_sbyt hj (in_nI hk (by have : sL j = a_sl.getD j 0 := rfl; omega)) (a_dec_at dc_JL_indexOfChar 10 rfl) ?_
    rw [cl_nI (show k < 2 ^ 31 by omega), show (a_sb.getD j []).getD k 0 = sB j k from rfl]
    refine ev_iload (i := 4) rfl (a_dec_at dc_JL_indexOfChar 11 rfl) ?_
    refine ev_icmp_ne (tgt := 25) (a_dec_at dc_JL_indexOfChar 12 rfl) (by decide) (fun b => ?_) (fun b => ?_)
    · refine ev_iinc (i := 5) (v := 1) rfl rfl (by decide) rfl (a_dec_at dc_JL_indexOfChar 15 rfl) ?_
      rw [nI_1]
      refine ev_goto (tgt := 7) (a_dec_at dc_JL_indexOfChar 16 rfl) (by decide) ?_
      exact ih (fun i hi => by
        by_cases e : i = k
        · rw [e]; exact b
        · exact hn i (by omega))
    · refine ev_iload (i := 5) rfl (a_dec_at dc_JL_indexOfChar 13 rfl) ?_
      exact m_retI (a_dec_at dc_JL_indexOfChar 14 rfl) rfl rfl (hq1 k hk b)
theorem min_sL : ∀ j, j < 3 → (if nI (sL j) > nI (a_sl.getD j 0) then nI (a_sl.getD j 0) else nI (sL j)) = nI (sL j) ∧ (0 : Int32) < nI (sL j) := by decide
theorem c_JL_indexOf {l : Launch} {h : Nat} {mi : TMi} {ml : TMl} {z j : Nat} {c : Int32} {Q : Int32 → TMi → TMl → Nat → Prop} (hj : j < 3) (hc : 0 ≤ c.toInt ∧ c.toInt ≤ 127) (hq1 : ∀ i, i < sL j → sB j i = c → Q (nI i) mi ml z) (hq0 : (∀ i, i < sL j → ¬ sB j i = c) → Q (-1) mi ml z) : CI l (h + 2) m_JL_indexOf [.ref (1000100 + j), .int c, .int 0, .int (nI (sL j))] mi ml z Q := by
  show Ev l (h + 2) m_JL_indexOf 0 ([.ref (1000100 + j), .int c, .int 0, .int (nI (sL j))], [], st mi ml z) (qI Q)
  refine ev_iload_n (i := 1) rfl rfl (a_dec_at dc_JL_indexOf 0 rfl) ?_
  refine cS1I cs_JL_88 rfl (Nat.le_of_ble_eq_true rfl) (Nat.le_of_ble_eq_true rfl) (a_dec_at dc_JL_indexOf 1 rfl) (c_JL_canEncode hc ?_)
  refine ev_if_ne (tgt := 9) (a_dec_at dc_JL_indexOf 2 rfl) (by decide) (fun _ => ?_) (fun b => absurd b (by decide))
  refine ev_iload_n (i := 2) rfl rfl (a_dec_at dc_JL_indexOf 5 rfl) ?_
  refine ev_iconst (v := 0) rfl (a_dec_at dc_JL_indexOf 6 rfl) ?_
  refine w_mmax cs_JL_92 (Nat.le_of_ble_eq_true rfl) (a_dec_at dc_JL_indexOf 7 rfl) ?_
  rw [if_neg (show ¬ (0 : Int32) < 0 by decide)]
  refine ev_istore_n (i := 2) rfl (by decide) rfl (a_dec_at dc_JL_indexOf 8 rfl) ?_
  refine ev_iload_n (i := 3) rfl rfl (a_dec_at dc_JL_indexOf 9 rfl) ?_
  refine ev_aload_n (i := 0) rfl rfl (a_dec_at dc_JL_indexOf 10 rfl) ?_
  refine ev_slen hj (a_dec_at dc_JL_indexOf 11 rfl) ?_
  refine w_mmin cs_JL_38 (Nat.le_of_ble_eq_true rfl) (a_dec_at dc_JL_indexOf 12 rfl) ?_
  rw [(min_sL j hj).1]
  refine ev_istore_n (i := 3) rfl (by decide) rfl (a_dec_at dc_JL_indexOf 13 rfl) ?_
  refine ev_iload_n (i := 2) rfl rfl (a_dec_at dc_JL_indexOf 14 rfl) ?_
  refine ev_iload_n (i := 3) rfl rfl (a_dec_at dc_JL_indexOf 15 rfl) ?_
  refine ev_icmp_lt (tgt := 29) (a_dec_at dc_JL_indexOf 16 rfl) (by decide) (fun _ => ?_) (fun b => absurd (min_sL j hj).2 b)
  refine ev_aload_n (i := 0) rfl rfl (a_dec_at dc_JL_indexOf 19 rfl) ?_
  refine ev_iload_n (i := 1) rfl rfl (a_dec_at dc_JL_indexOf 20 rfl) ?_
  refine ev_iload_n (i := 2) rfl rfl (a_dec_at dc_JL_indexOf 21 rfl) ?_
  refine ev_iload_n (i := 3) rfl rfl (a_dec_at dc_JL_indexOf 22 rfl) ?_
  refine cS4I cs_JL_95 rfl (Nat.le_of_ble_eq_true rfl) (Nat.le_of_ble_eq_true rfl) (a_dec_at dc_JL_indexOf 23 rfl) (c_JL_indexOfChar hj hc (fun i hi e => ?_) (fun hn => ?_))
  · exact m_retI (a_dec_at dc_JL_indexOf 24 rfl) rfl rfl (hq1 i hi e)
  · exact m_retI (a_dec_at dc_JL_indexOf 24 rfl) rfl rfl (hq0 hn)
theorem c_JS_indexOf2 {l : Launch} {h : Nat} {mi : TMi} {ml : TMl} {z j : Nat} {c : Int32} {Q : Int32 → TMi → TMl → Nat → Prop} (hj : j < 3) (hc : 0 ≤ c.toInt ∧ c.toInt ≤ 127) (hq1 : ∀ i, i < sL j → sB j i = c → Q (nI i) mi ml z) (hq0 : (∀ i, i < sL j → ¬ sB j i = c) → Q (-1) mi ml z) : CI l (h + 3) m_JS_indexOf2 [.ref (1000000 + j), .int c, .int 0] mi ml z Q := by
  show Ev l (h + 3) m_JS_indexOf2 0 ([.ref (1000000 + j), .int c, .int 0], [], st mi ml z) (qI Q)
  refine ev_aload_n (i := 0) rfl rfl (a_dec_at dc_JS_indexOf2 0 rfl) ?_
  refine cT0I cs_JS_492 hj rfl (Nat.le_of_ble_eq_true rfl) (Nat.le_of_ble_eq_true rfl) (a_dec_at dc_JS_indexOf2 1 rfl) (c_JS_isLatin1 hj ?_)
  refine ev_if_eq (tgt := 23) (a_dec_at dc_JS_indexOf2 2 rfl) (by decide) (fun b => absurd b (by decide)) (fun _ => ?_)
  refine ev_aload_n (i := 0) rfl rfl (a_dec_at dc_JS_indexOf2 3 rfl) ?_
  refine ev_sval hj fl_JS_9 (a_dec_at dc_JS_indexOf2 4 rfl) ?_
  refine ev_iload_n (i := 1) rfl rfl (a_dec_at dc_JS_indexOf2 5 rfl) ?_
  refine ev_iload_n (i := 2) rfl rfl (a_dec_at dc_JS_indexOf2 6 rfl) ?_
  refine ev_aload_n (i := 0) rfl rfl (a_dec_at dc_JS_indexOf2 7 rfl) ?_
  refine cT0I cs_JS_505 hj rfl (Nat.le_of_ble_eq_true rfl) (Nat.le_of_ble_eq_true rfl) (a_dec_at dc_JS_indexOf2 8 rfl) (c_JS_length hj ?_)
  refine cS4I cs_JS_637 rfl (Nat.le_of_ble_eq_true rfl) (Nat.le_of_ble_eq_true rfl) (a_dec_at dc_JS_indexOf2 9 rfl) (c_JL_indexOf hj hc (fun i hi e => ?_) (fun hn => ?_))
  · refine ev_goto (tgt := 36) (a_dec_at dc_JS_indexOf2 10 rfl) (by decide) ?_
    exact m_retI (a_dec_at dc_JS_indexOf2 18 rfl) rfl rfl (hq1 i hi e)
  · refine ev_goto (tgt := 36) (a_dec_at dc_JS_indexOf2 10 rfl) (by decide) ?_
    exact m_retI (a_dec_at dc_JS_indexOf2 18 rfl) rfl rfl (hq0 hn)
theorem c_JS_indexOf {l : Launch} {h : Nat} {mi : TMi} {ml : TMl} {z j : Nat} {c : Int32} {Q : Int32 → TMi → TMl → Nat → Prop} (hj : j < 3) (hc : 0 ≤ c.toInt ∧ c.toInt ≤ 127) (hq1 : ∀ i, i < sL j → sB j i = c → Q (nI i) mi ml z) (hq0 : (∀ i, i < sL j → ¬ sB j i = c) → Q (-1) mi ml z) : CI l (h + 4) m_JS_indexOf [.ref (1000000 + j), .int c] mi ml z Q := by
  show Ev l (h + 4) m_JS_indexOf 0 ([.ref (1000000 + j), .int c], [], st mi ml z) (qI Q)
  refine ev_aload_n (i := 0) rfl rfl (a_dec_at dc_JS_indexOf 0 rfl) ?_
  refine ev_iload_n (i := 1) rfl rfl (a_dec_at dc_JS_indexOf 1 rfl) ?_
  refine ev_iconst (v := 0) rfl (a_dec_at dc_JS_indexOf 2 rfl) ?_
  refine cT2I cs_JS_633 hj rfl (Nat.le_of_ble_eq_true rfl) (Nat.le_of_ble_eq_true rfl) (a_dec_at dc_JS_indexOf 3 rfl) (c_JS_indexOf2 hj hc (fun i hi e => ?_) (fun hn => ?_))
  · exact m_retI (a_dec_at dc_JS_indexOf 4 rfl) rfl rfl (hq1 i hi e)
  · exact m_retI (a_dec_at dc_JS_indexOf 4 rfl) rfl rfl (hq0 hn)
