/-! ===== the constant strings: length, charAt, indexOf ===== -/
def sB (j i : Nat) : Int32 := (a_sb.getD j []).getD i 0
def sL (j : Nat) : Nat := a_sl.getD j 0
theorem sb_c : ∀ j, j < 3 → ∀ i, i < sL j → ((sB j i &&& 255).toUInt32 % 65536).toInt32 = sB j i ∧ ((sB j i).toUInt32 % 65536).toInt32 = sB j i := by decide +kernel
theorem sL_le : ∀ j, j < 3 → sL j ≤ 100 := by decide
theorem nar_c (x : Int32) : narrow .char (.int x) = .int ((x.toUInt32 % 65536).toInt32) := rfl
theorem c_JS_isLatin1 {l : Launch} {h : Nat} {mi : TMi} {ml : TMl} {z j : Nat} {Q : Int32 → TMi → TMl → Nat → Prop} (hj : j < 3) (hq : Q 1 mi ml z) : CI l (h + 1) m_JS_isLatin1 [.ref (1000000 + j)] mi ml z Q := by
  show Ev l (h + 1) m_JS_isLatin1 0 ([.ref (1000000 + j)], [], st mi ml z) (qI Q)
  refine ev_compact fl_JS_38 (a_dec_at dc_JS_isLatin1 0 rfl) ?_
  refine ev_if_eq (tgt := 17) (a_dec_at dc_JS_isLatin1 1 rfl) (by decide) (fun b => absurd b (by decide)) (fun _ => ?_)
  refine ev_aload_n (i := 0) rfl rfl (a_dec_at dc_JS_isLatin1 2 rfl) ?_
  refine ev_scod hj fl_JS_15 (a_dec_at dc_JS_isLatin1 3 rfl) ?_
  refine ev_if_ne (tgt := 17) (a_dec_at dc_JS_isLatin1 4 rfl) (by decide) (fun b => absurd rfl b) (fun _ => ?_)
  refine ev_iconst (v := 1) rfl (a_dec_at dc_JS_isLatin1 5 rfl) ?_
  refine ev_goto (tgt := 18) (a_dec_at dc_JS_isLatin1 6 rfl) (by decide) ?_
  exact m_retI (a_dec_at dc_JS_isLatin1 8 rfl) rfl rfl hq
theorem c_JS_coder {l : Launch} {h : Nat} {mi : TMi} {ml : TMl} {z j : Nat} {Q : Int32 → TMi → TMl → Nat → Prop} (hj : j < 3) (hq : Q 0 mi ml z) : CI l (h + 1) m_JS_coder [.ref (1000000 + j)] mi ml z Q := by
  show Ev l (h + 1) m_JS_coder 0 ([.ref (1000000 + j)], [], st mi ml z) (qI Q)
  refine ev_compact fl_JS_38 (a_dec_at dc_JS_coder 0 rfl) ?_
  refine ev_if_eq (tgt := 13) (a_dec_at dc_JS_coder 1 rfl) (by decide) (fun b => absurd b (by decide)) (fun _ => ?_)
  refine ev_aload_n (i := 0) rfl rfl (a_dec_at dc_JS_coder 2 rfl) ?_
  refine ev_scod hj fl_JS_15 (a_dec_at dc_JS_coder 3 rfl) ?_
  refine ev_goto (tgt := 14) (a_dec_at dc_JS_coder 4 rfl) (by decide) ?_
  exact m_retI (a_dec_at dc_JS_coder 6 rfl) rfl rfl hq
theorem c_JS_length {l : Launch} {h : Nat} {mi : TMi} {ml : TMl} {z j : Nat} {Q : Int32 → TMi → TMl → Nat → Prop} (hj : j < 3) (hq : Q (nI (sL j)) mi ml z) : CI l (h + 2) m_JS_length [.ref (1000000 + j)] mi ml z Q := by
  show Ev l (h + 2) m_JS_length 0 ([.ref (1000000 + j)], [], st mi ml z) (qI Q)
  refine ev_aload_n (i := 0) rfl rfl (a_dec_at dc_JS_length 0 rfl) ?_
  refine ev_sval hj fl_JS_9 (a_dec_at dc_JS_length 1 rfl) ?_
  refine ev_slen hj (a_dec_at dc_JS_length 2 rfl) ?_
  refine ev_aload_n (i := 0) rfl rfl (a_dec_at dc_JS_length 3 rfl) ?_
  refine cT0I cs_JS_335 hj rfl (Nat.le_of_ble_eq_true rfl) (Nat.le_of_ble_eq_true rfl) (a_dec_at dc_JS_length 4 rfl) (c_JS_coder hj ?_)
  refine ev_ishr (a_dec_at dc_JS_length 5 rfl) ?_
  have e : nI (a_sl.getD j 0) >>> ((0 : Int32) &&& 31) = nI (sL j) := by
    have : ∀ j, j < 3 → nI (a_sl.getD j 0) >>> ((0 : Int32) &&& 31) = nI (sL j) := by decide
    exact this j hj
  rw [e]
  exact m_retI (a_dec_at dc_JS_length 6 rfl) rfl rfl hq
theorem c_JP_checkIndex {l : Launch} {h : Nat} {mi : TMi} {ml : TMl} {z i n : Nat} {Q : Int32 → TMi → TMl → Nat → Prop} (hi : i < n) (hn : n < 1000) (hq : Q (nI i) mi ml z) : CI l (h + 1) m_JP_checkIndex [.int (nI i), .int (nI n), .ref 1500000] mi ml z Q := by
  show Ev l (h + 1) m_JP_checkIndex 0 ([.int (nI i), .int (nI n), .ref 1500000], [], st mi ml z) (qI Q)
  refine ev_iload_n (i := 0) rfl rfl (a_dec_at dc_JP_checkIndex 0 rfl) ?_
  refine ev_if_lt (tgt := 9) (a_dec_at dc_JP_checkIndex 1 rfl) (by decide) (fun b => ?_) (fun _ => ?_)
  · rw [i32_lt0, nI_toInt (by omega)] at b; omega
  refine ev_iload_n (i := 0) rfl rfl (a_dec_at dc_JP_checkIndex 2 rfl) ?_
  refine ev_iload_n (i := 1) rfl rfl (a_dec_at dc_JP_checkIndex 3 rfl) ?_
  refine ev_icmp_lt (tgt := 16) (a_dec_at dc_JP_checkIndex 4 rfl) (by decide) (fun _ => ?_) (fun b => ?_)
  · refine ev_iload_n (i := 0) rfl rfl (a_dec_at dc_JP_checkIndex 10 rfl) ?_
    exact m_retI (a_dec_at dc_JP_checkIndex 11 rfl) rfl rfl hq
  · exact absurd (show nI i < nI n by rw [Int32.lt_iff_toInt_lt, nI_toInt (by omega), nI_toInt (by omega)]; omega) b
theorem c_JS_checkIndex {l : Launch} {h : Nat} {mi : TMi} {ml : TMl} {z i n : Nat} {Q : TMi → TMl → Nat → Prop} (hi : i < n) (hn : n < 1000) (hq : Q mi ml z) : CV l (h + 2) m_JS_checkIndex [.int (nI i), .int (nI n)] mi ml z Q := by
  show Ev l (h + 2) m_JS_checkIndex 0 ([.int (nI i), .int (nI n)], [], st mi ml z) (qV Q)
  refine ev_iload_n (i := 0) rfl rfl (a_dec_at dc_JS_checkIndex 0 rfl) ?_
  refine ev_iload_n (i := 1) rfl rfl (a_dec_at dc_JS_checkIndex 1 rfl) ?_
  refine ev_fmt fl_JS_1053 (a_dec_at dc_JS_checkIndex 2 rfl) ?_
  refine cS3I cs_JS_1059 rfl (Nat.le_of_ble_eq_true rfl) (Nat.le_of_ble_eq_true rfl) (a_dec_at dc_JS_checkIndex 3 rfl) (c_JP_checkIndex hi hn ?_)
  refine ev_pop rfl (a_dec_at dc_JS_checkIndex 4 rfl) ?_
  exact m_retV (a_dec_at dc_JS_checkIndex 5 rfl) rfl hq
theorem c_JL_charAt {l : Launch} {h : Nat} {mi : TMi} {ml : TMl} {z j i : Nat} {Q : Int32 → TMi → TMl → Nat → Prop} (hj : j < 3) (hi : i < sL j) (hq : Q (sB j i) mi ml z) : CI l (h + 3) m_JL_charAt [.ref (1000100 + j), .int (nI i)] mi ml z Q := by
  have h100 := sL_le j hj
  show Ev l (h + 3) m_JL_charAt 0 ([.ref (1000100 + j), .int (nI i)], [], st mi ml z) (qI Q)
  refine ev_iload_n (i := 1) rfl rfl (a_dec_at dc_JL_charAt 0 rfl) ?_
  refine ev_aload_n (i := 0) rfl rfl (a_dec_at dc_JL_charAt 1 rfl) ?_
  refine ev_slen hj (a_dec_at dc_JL_charAt 2 rfl) ?_
  refine cS2V cs_JL_9 rfl (Nat.le_of_ble_eq_true rfl) (Nat.le_of_ble_eq_true rfl) (a_dec_at dc_JL_charAt 3 rfl) (c_JS_checkIndex hi (show a_sl.getD j 0 < 1000 from Nat.lt_of_le_of_lt h100 (by decide)) ?_)
  refine ev_aload_n (i := 0) rfl rfl (a_dec_at dc_JL_charAt 4 rfl) ?_
  refine ev_iload_n (i := 1) rfl rfl (a_dec_at dc_JL_charAt 5 rfl) ?_
  refine ev_sbyt hj (in_nI hi (by have : sL j = a_sl.getD j 0 := rfl; omega)) (a_dec_at dc_JL_charAt 6 rfl) ?_
  refine ev_sipush (v := 255) rfl (a_dec_at dc_JL_charAt 7 rfl) ?_
  refine ev_iand (a_dec_at dc_JL_charAt 8 rfl) ?_
  refine ev_i2c (a_dec_at dc_JL_charAt 9 rfl) ?_
  rw [cl_nI (show i < 2 ^ 31 by omega), show (a_sb.getD j []).getD i 0 = sB j i from rfl, (sb_c j hj i hi).1]
  exact m_retI (a_dec_at dc_JL_charAt 10 rfl) rfl (by rw [nar_c, (sb_c j hj i hi).2]) hq
theorem c_JS_charAt {l : Launch} {h : Nat} {mi : TMi} {ml : TMl} {z j i : Nat} {Q : Int32 → TMi → TMl → Nat → Prop} (hj : j < 3) (hi : i < sL j) (hq : Q (sB j i) mi ml z) : CI l (h + 4) m_JS_charAt [.ref (1000000 + j), .int (nI i)] mi ml z Q := by
  show Ev l (h + 4) m_JS_charAt 0 ([.ref (1000000 + j), .int (nI i)], [], st mi ml z) (qI Q)
  refine ev_aload_n (i := 0) rfl rfl (a_dec_at dc_JS_charAt 0 rfl) ?_
  refine cT0I cs_JS_492 hj rfl (Nat.le_of_ble_eq_true rfl) (Nat.le_of_ble_eq_true rfl) (a_dec_at dc_JS_charAt 1 rfl) (c_JS_isLatin1 hj ?_)
  refine ev_if_eq (tgt := 16) (a_dec_at dc_JS_charAt 2 rfl) (by decide) (fun b => absurd b (by decide)) (fun _ => ?_)
  refine ev_aload_n (i := 0) rfl rfl (a_dec_at dc_JS_charAt 3 rfl) ?_
  refine ev_sval hj fl_JS_9 (a_dec_at dc_JS_charAt 4 rfl) ?_
  refine ev_iload_n (i := 1) rfl rfl (a_dec_at dc_JS_charAt 5 rfl) ?_
  refine cS2I cs_JS_495 rfl (Nat.le_of_ble_eq_true rfl) (Nat.le_of_ble_eq_true rfl) (a_dec_at dc_JS_charAt 6 rfl) (c_JL_charAt hj hi ?_)
  exact m_retI (a_dec_at dc_JS_charAt 7 rfl) rfl (by rw [nar_c, (sb_c j hj i hi).2]) hq
