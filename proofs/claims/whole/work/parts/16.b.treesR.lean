set_option maxRecDepth 20000 in
theorem t_R_giftAt {l : Launch} {h : Nat} (mi : TMi) (ml : TMl) (z : Nat) (a1 : Int32) (a2 : Int32) {Q : Int32 → TMi → TMl → Nat → Prop} (H : Q ((45 + (6 * a1)) + a2) mi ml z) : CI l (h + 1) m_R_giftAt [.ref 119, .int a1, .int a2] mi ml z Q := by
  show Ev l (h + 1) m_R_giftAt 0 ([.ref 119, .int a1, .int a2], [], st mi ml z) (qI Q)
  refine ev_bipush (v := 45) rfl (a_dec_at dc_R_giftAt 0 rfl) ?_
  refine ev_bipush (v := 6) rfl (a_dec_at dc_R_giftAt 1 rfl) ?_
  refine ev_iload_n (i := 1) rfl rfl (a_dec_at dc_R_giftAt 2 rfl) ?_
  refine ev_imul (a_dec_at dc_R_giftAt 3 rfl) ?_
  refine ev_iadd (a_dec_at dc_R_giftAt 4 rfl) ?_
  refine ev_iload_n (i := 2) rfl rfl (a_dec_at dc_R_giftAt 5 rfl) ?_
  refine ev_iadd (a_dec_at dc_R_giftAt 6 rfl) ?_
  exact m_retI (a_dec_at dc_R_giftAt 7 rfl) rfl rfl H
set_option maxRecDepth 20000 in
theorem t_R_between {l : Launch} {h : Nat} (mi : TMi) (ml : TMl) (z : Nat) (a1 : Int32) (a2 : Int32) (a3 : Int32) {Q : Int32 → TMi → TMl → Nat → Prop} (H : ((a1 = 3003 → ((¬ a2 = a3 → Q 0 mi ml z) ∧ (a2 = a3 → Q 1 mi ml z))) ∧ ((a1 = 3004 → ((a3 ≤ a2 → Q 0 mi ml z) ∧ (¬ a3 ≤ a2 → Q 1 mi ml z))) ∧ ((a1 = 3005 → ((a2 ≤ a3 → Q 0 mi ml z) ∧ (¬ a2 ≤ a3 → Q 1 mi ml z))) ∧ ((a1 = 3006 → ((¬ a1 = 3000 → ((¬ a1 = 3001 → (((lg_cmp (a2.toInt64 * a3.toInt64) 1000000) ≤ 0 → ((0 ≤ (lg_cmp (a2.toInt64 * a3.toInt64) (-1000000)) → Q ((a2.toInt64 * a3.toInt64).toInt32) mi ml z) ∧ (¬ 0 ≤ (lg_cmp (a2.toInt64 * a3.toInt64) (-1000000)) → Q ((-1000000 : Int64).toInt32) mi ml z))) ∧ (¬ (lg_cmp (a2.toInt64 * a3.toInt64) 1000000) ≤ 0 → Q ((1000000 : Int64).toInt32) mi ml z))) ∧ (a1 = 3001 → (((lg_cmp (a2.toInt64 - a3.toInt64) 1000000) ≤ 0 → ((0 ≤ (lg_cmp (a2.toInt64 - a3.toInt64) (-1000000)) → Q ((a2.toInt64 - a3.toInt64).toInt32) mi ml z) ∧ (¬ 0 ≤ (lg_cmp (a2.toInt64 - a3.toInt64) (-1000000)) → Q ((-1000000 : Int64).toInt32) mi ml z))) ∧ (¬ (lg_cmp (a2.toInt64 - a3.toInt64) 1000000) ≤ 0 → Q ((1000000 : Int64).toInt32) mi ml z))))) ∧ (a1 = 3000 → (((lg_cmp (a2.toInt64 + a3.toInt64) 1000000) ≤ 0 → ((0 ≤ (lg_cmp (a2.toInt64 + a3.toInt64) (-1000000)) → Q ((a2.toInt64 + a3.toInt64).toInt32) mi ml z) ∧ (¬ 0 ≤ (lg_cmp (a2.toInt64 + a3.toInt64) (-1000000)) → Q ((-1000000 : Int64).toInt32) mi ml z))) ∧ (¬ (lg_cmp (a2.toInt64 + a3.toInt64) 1000000) ≤ 0 → Q ((1000000 : Int64).toInt32) mi ml z))))) ∧ ((a1 = 3007 → Q (a2 &&& a3) mi ml z) ∧ ((a1 = 3008 → Q (a2 ||| a3) mi ml z) ∧ (¬ a1 = 3003 → ¬ a1 = 3004 → ¬ a1 = 3005 → ¬ a1 = 3006 → ¬ a1 = 3007 → ¬ a1 = 3008 → ((¬ a1 = 3000 → ((¬ a1 = 3001 → (((lg_cmp (a2.toInt64 * a3.toInt64) 1000000) ≤ 0 → ((0 ≤ (lg_cmp (a2.toInt64 * a3.toInt64) (-1000000)) → Q ((a2.toInt64 * a3.toInt64).toInt32) mi ml z) ∧ (¬ 0 ≤ (lg_cmp (a2.toInt64 * a3.toInt64) (-1000000)) → Q ((-1000000 : Int64).toInt32) mi ml z))) ∧ (¬ (lg_cmp (a2.toInt64 * a3.toInt64) 1000000) ≤ 0 → Q ((1000000 : Int64).toInt32) mi ml z))) ∧ (a1 = 3001 → (((lg_cmp (a2.toInt64 - a3.toInt64) 1000000) ≤ 0 → ((0 ≤ (lg_cmp (a2.toInt64 - a3.toInt64) (-1000000)) → Q ((a2.toInt64 - a3.toInt64).toInt32) mi ml z) ∧ (¬ 0 ≤ (lg_cmp (a2.toInt64 - a3.toInt64) (-1000000)) → Q ((-1000000 : Int64).toInt32) mi ml z))) ∧ (¬ (lg_cmp (a2.toInt64 - a3.toInt64) 1000000) ≤ 0 → Q ((1000000 : Int64).toInt32) mi ml z))))) ∧ (a1 = 3000 → (((lg_cmp (a2.toInt64 + a3.toInt64) 1000000) ≤ 0 → ((0 ≤ (lg_cmp (a2.toInt64 + a3.toInt64) (-1000000)) → Q ((a2.toInt64 + a3.toInt64).toInt32) mi ml z) ∧ (¬ 0 ≤ (lg_cmp (a2.toInt64 + a3.toInt64) (-1000000)) → Q ((-1000000 : Int64).toInt32) mi ml z))) ∧ (¬ (lg_cmp (a2.toInt64 + a3.toInt64) 1000000) ≤ 0 → Q ((1000000 : Int64).toInt32) mi ml z)))))))))))) : CI l (h + 1) m_R_between [.int a1, .int a2, .int a3] mi ml z Q := by
  show Ev l (h + 1) m_R_between 0 ([.int a1, .int a2, .int a3, .retAddr 0, .retAddr 0], [], st mi ml z) (qI Q)
  refine ev_iload_n (i := 0) rfl rfl (a_dec_at dc_R_between 0 rfl) ?_
  by_cases e1 : a1 = 3003
  · have H := H.1 e1
    refine w_tableIn (c := 3003) (off := 39) (tgt := 40) (a_dec_at dc_R_between 1 rfl) e1 (by decide) (by decide) (by decide) (by decide) ?_
    refine ev_iload_n (i := 1) rfl rfl (a_dec_at dc_R_between 2 rfl) ?_
    refine ev_iload_n (i := 2) rfl rfl (a_dec_at dc_R_between 3 rfl) ?_
    refine ev_icmp_ne (tgt := 49) (a_dec_at dc_R_between 4 rfl) (by decide) (fun b2 => ?_) (fun b2 => ?_)
    · have H := H.1 b2
      refine ev_iconst (v := 0) rfl (a_dec_at dc_R_between 7 rfl) ?_
      exact m_retI (a_dec_at dc_R_between 8 rfl) rfl rfl H
    · have H := H.2 b2
      refine ev_iconst (v := 1) rfl (a_dec_at dc_R_between 5 rfl) ?_
      refine ev_goto (tgt := 50) (a_dec_at dc_R_between 6 rfl) (by decide) ?_
      exact m_retI (a_dec_at dc_R_between 8 rfl) rfl rfl H
  have H := H.2
  by_cases e3 : a1 = 3004
  · have H := H.1 e3
    refine w_tableIn (c := 3004) (off := 50) (tgt := 51) (a_dec_at dc_R_between 1 rfl) e3 (by decide) (by decide) (by decide) (by decide) ?_
    refine ev_iload_n (i := 1) rfl rfl (a_dec_at dc_R_between 9 rfl) ?_
    refine ev_iload_n (i := 2) rfl rfl (a_dec_at dc_R_between 10 rfl) ?_
    refine ev_icmp_ge (tgt := 60) (a_dec_at dc_R_between 11 rfl) (by decide) (fun b4 => ?_) (fun b4 => ?_)
    · have H := H.1 b4
      refine ev_iconst (v := 0) rfl (a_dec_at dc_R_between 14 rfl) ?_
      exact m_retI (a_dec_at dc_R_between 15 rfl) rfl rfl H
    · have H := H.2 b4
      refine ev_iconst (v := 1) rfl (a_dec_at dc_R_between 12 rfl) ?_
      refine ev_goto (tgt := 61) (a_dec_at dc_R_between 13 rfl) (by decide) ?_
      exact m_retI (a_dec_at dc_R_between 15 rfl) rfl rfl H
  have H := H.2
  by_cases e5 : a1 = 3005
  · have H := H.1 e5
    refine w_tableIn (c := 3005) (off := 61) (tgt := 62) (a_dec_at dc_R_between 1 rfl) e5 (by decide) (by decide) (by decide) (by decide) ?_
    refine ev_iload_n (i := 1) rfl rfl (a_dec_at dc_R_between 16 rfl) ?_
    refine ev_iload_n (i := 2) rfl rfl (a_dec_at dc_R_between 17 rfl) ?_
    refine ev_icmp_le (tgt := 71) (a_dec_at dc_R_between 18 rfl) (by decide) (fun b6 => ?_) (fun b6 => ?_)
    · have H := H.1 b6
      refine ev_iconst (v := 0) rfl (a_dec_at dc_R_between 21 rfl) ?_
      exact m_retI (a_dec_at dc_R_between 22 rfl) rfl rfl H
    · have H := H.2 b6
      refine ev_iconst (v := 1) rfl (a_dec_at dc_R_between 19 rfl) ?_
      refine ev_goto (tgt := 72) (a_dec_at dc_R_between 20 rfl) (by decide) ?_
      exact m_retI (a_dec_at dc_R_between 22 rfl) rfl rfl H
  have H := H.2
  by_cases e7 : a1 = 3006
  · have H := H.1 e7
    refine w_tableIn (c := 3006) (off := 80) (tgt := 81) (a_dec_at dc_R_between 1 rfl) e7 (by decide) (by decide) (by decide) (by decide) ?_
    refine ev_iload_n (i := 0) rfl rfl (a_dec_at dc_R_between 31 rfl) ?_
    refine ev_sipush (v := 3000) rfl (a_dec_at dc_R_between 32 rfl) ?_
    refine ev_icmp_ne (tgt := 96) (a_dec_at dc_R_between 33 rfl) (by decide) (fun b8 => ?_) (fun b8 => ?_)
    · have H := H.1 b8
      refine ev_iload_n (i := 0) rfl rfl (a_dec_at dc_R_between 40 rfl) ?_
      refine ev_sipush (v := 3001) rfl (a_dec_at dc_R_between 41 rfl) ?_
      refine ev_icmp_ne (tgt := 111) (a_dec_at dc_R_between 42 rfl) (by decide) (fun b9 => ?_) (fun b9 => ?_)
      · have H := H.1 b9
        refine ev_iload_n (i := 1) rfl rfl (a_dec_at dc_R_between 49 rfl) ?_
        refine ev_i2l (a_dec_at dc_R_between 50 rfl) ?_
        refine ev_iload_n (i := 2) rfl rfl (a_dec_at dc_R_between 51 rfl) ?_
        refine ev_i2l (a_dec_at dc_R_between 52 rfl) ?_
        refine ev_lmul (a_dec_at dc_R_between 53 rfl) ?_
        refine ev_lstore_n (i := 3) rfl (by decide) rfl (a_dec_at dc_R_between 54 rfl) ?_
        refine ev_lload_n (i := 3) rfl rfl (a_dec_at dc_R_between 55 rfl) ?_
        refine ev_ldc2 kc_R_207 (a_dec_at dc_R_between 56 rfl) ?_
        refine ev_lcmp (a_dec_at dc_R_between 57 rfl) ?_
        refine ev_if_le (tgt := 131) (a_dec_at dc_R_between 58 rfl) (by decide) (fun b10 => ?_) (fun b10 => ?_)
        · have H := H.1 b10
          refine ev_lload_n (i := 3) rfl rfl (a_dec_at dc_R_between 61 rfl) ?_
          refine ev_ldc2 kc_R_209 (a_dec_at dc_R_between 62 rfl) ?_
          refine ev_lcmp (a_dec_at dc_R_between 63 rfl) ?_
          refine ev_if_ge (tgt := 145) (a_dec_at dc_R_between 64 rfl) (by decide) (fun b11 => ?_) (fun b11 => ?_)
          · have H := H.1 b11
            refine ev_lload_n (i := 3) rfl rfl (a_dec_at dc_R_between 67 rfl) ?_
            refine ev_l2i (a_dec_at dc_R_between 68 rfl) ?_
            exact m_retI (a_dec_at dc_R_between 69 rfl) rfl rfl H
          · have H := H.2 b11
            refine ev_ldc2 kc_R_209 (a_dec_at dc_R_between 65 rfl) ?_
            refine ev_goto (tgt := 146) (a_dec_at dc_R_between 66 rfl) (by decide) ?_
            refine ev_l2i (a_dec_at dc_R_between 68 rfl) ?_
            exact m_retI (a_dec_at dc_R_between 69 rfl) rfl rfl H
        · have H := H.2 b10
          refine ev_ldc2 kc_R_207 (a_dec_at dc_R_between 59 rfl) ?_
          refine ev_goto (tgt := 146) (a_dec_at dc_R_between 60 rfl) (by decide) ?_
          refine ev_l2i (a_dec_at dc_R_between 68 rfl) ?_
          exact m_retI (a_dec_at dc_R_between 69 rfl) rfl rfl H
      · have H := H.2 b9
        refine ev_iload_n (i := 1) rfl rfl (a_dec_at dc_R_between 43 rfl) ?_
        refine ev_i2l (a_dec_at dc_R_between 44 rfl) ?_
        refine ev_iload_n (i := 2) rfl rfl (a_dec_at dc_R_between 45 rfl) ?_
        refine ev_i2l (a_dec_at dc_R_between 46 rfl) ?_
        refine ev_lsub (a_dec_at dc_R_between 47 rfl) ?_
        refine ev_goto (tgt := 116) (a_dec_at dc_R_between 48 rfl) (by decide) ?_
        refine ev_lstore_n (i := 3) rfl (by decide) rfl (a_dec_at dc_R_between 54 rfl) ?_
        refine ev_lload_n (i := 3) rfl rfl (a_dec_at dc_R_between 55 rfl) ?_
        refine ev_ldc2 kc_R_207 (a_dec_at dc_R_between 56 rfl) ?_
        refine ev_lcmp (a_dec_at dc_R_between 57 rfl) ?_
        refine ev_if_le (tgt := 131) (a_dec_at dc_R_between 58 rfl) (by decide) (fun b12 => ?_) (fun b12 => ?_)
        · have H := H.1 b12
          refine ev_lload_n (i := 3) rfl rfl (a_dec_at dc_R_between 61 rfl) ?_
          refine ev_ldc2 kc_R_209 (a_dec_at dc_R_between 62 rfl) ?_
          refine ev_lcmp (a_dec_at dc_R_between 63 rfl) ?_
          refine ev_if_ge (tgt := 145) (a_dec_at dc_R_between 64 rfl) (by decide) (fun b13 => ?_) (fun b13 => ?_)
          · have H := H.1 b13
            refine ev_lload_n (i := 3) rfl rfl (a_dec_at dc_R_between 67 rfl) ?_
            refine ev_l2i (a_dec_at dc_R_between 68 rfl) ?_
            exact m_retI (a_dec_at dc_R_between 69 rfl) rfl rfl H
          · have H := H.2 b13
            refine ev_ldc2 kc_R_209 (a_dec_at dc_R_between 65 rfl) ?_
            refine ev_goto (tgt := 146) (a_dec_at dc_R_between 66 rfl) (by decide) ?_
            refine ev_l2i (a_dec_at dc_R_between 68 rfl) ?_
            exact m_retI (a_dec_at dc_R_between 69 rfl) rfl rfl H
        · have H := H.2 b12
          refine ev_ldc2 kc_R_207 (a_dec_at dc_R_between 59 rfl) ?_
          refine ev_goto (tgt := 146) (a_dec_at dc_R_between 60 rfl) (by decide) ?_
          refine ev_l2i (a_dec_at dc_R_between 68 rfl) ?_
          exact m_retI (a_dec_at dc_R_between 69 rfl) rfl rfl H
    · have H := H.2 b8
      refine ev_iload_n (i := 1) rfl rfl (a_dec_at dc_R_between 34 rfl) ?_
      refine ev_i2l (a_dec_at dc_R_between 35 rfl) ?_
      refine ev_iload_n (i := 2) rfl rfl (a_dec_at dc_R_between 36 rfl) ?_
      refine ev_i2l (a_dec_at dc_R_between 37 rfl) ?_
      refine ev_ladd (a_dec_at dc_R_between 38 rfl) ?_
      refine ev_goto (tgt := 116) (a_dec_at dc_R_between 39 rfl) (by decide) ?_
      refine ev_lstore_n (i := 3) rfl (by decide) rfl (a_dec_at dc_R_between 54 rfl) ?_
      refine ev_lload_n (i := 3) rfl rfl (a_dec_at dc_R_between 55 rfl) ?_
      refine ev_ldc2 kc_R_207 (a_dec_at dc_R_between 56 rfl) ?_
      refine ev_lcmp (a_dec_at dc_R_between 57 rfl) ?_
      refine ev_if_le (tgt := 131) (a_dec_at dc_R_between 58 rfl) (by decide) (fun b14 => ?_) (fun b14 => ?_)
      · have H := H.1 b14
        refine ev_lload_n (i := 3) rfl rfl (a_dec_at dc_R_between 61 rfl) ?_
        refine ev_ldc2 kc_R_209 (a_dec_at dc_R_between 62 rfl) ?_
        refine ev_lcmp (a_dec_at dc_R_between 63 rfl) ?_
        refine ev_if_ge (tgt := 145) (a_dec_at dc_R_between 64 rfl) (by decide) (fun b15 => ?_) (fun b15 => ?_)
        · have H := H.1 b15
          refine ev_lload_n (i := 3) rfl rfl (a_dec_at dc_R_between 67 rfl) ?_
          refine ev_l2i (a_dec_at dc_R_between 68 rfl) ?_
          exact m_retI (a_dec_at dc_R_between 69 rfl) rfl rfl H
        · have H := H.2 b15
          refine ev_ldc2 kc_R_209 (a_dec_at dc_R_between 65 rfl) ?_
          refine ev_goto (tgt := 146) (a_dec_at dc_R_between 66 rfl) (by decide) ?_
          refine ev_l2i (a_dec_at dc_R_between 68 rfl) ?_
          exact m_retI (a_dec_at dc_R_between 69 rfl) rfl rfl H
      · have H := H.2 b14
        refine ev_ldc2 kc_R_207 (a_dec_at dc_R_between 59 rfl) ?_
        refine ev_goto (tgt := 146) (a_dec_at dc_R_between 60 rfl) (by decide) ?_
        refine ev_l2i (a_dec_at dc_R_between 68 rfl) ?_
        exact m_retI (a_dec_at dc_R_between 69 rfl) rfl rfl H
  have H := H.2
  by_cases e16 : a1 = 3007
  · have H := H.1 e16
    refine w_tableIn (c := 3007) (off := 72) (tgt := 73) (a_dec_at dc_R_between 1 rfl) e16 (by decide) (by decide) (by decide) (by decide) ?_
    refine ev_iload_n (i := 1) rfl rfl (a_dec_at dc_R_between 23 rfl) ?_
    refine ev_iload_n (i := 2) rfl rfl (a_dec_at dc_R_between 24 rfl) ?_
    refine ev_iand (a_dec_at dc_R_between 25 rfl) ?_
    exact m_retI (a_dec_at dc_R_between 26 rfl) rfl rfl H
  have H := H.2
  by_cases e17 : a1 = 3008
  · have H := H.1 e17
    refine w_tableIn (c := 3008) (off := 76) (tgt := 77) (a_dec_at dc_R_between 1 rfl) e17 (by decide) (by decide) (by decide) (by decide) ?_
    refine ev_iload_n (i := 1) rfl rfl (a_dec_at dc_R_between 27 rfl) ?_
    refine ev_iload_n (i := 2) rfl rfl (a_dec_at dc_R_between 28 rfl) ?_
    refine ev_ior (a_dec_at dc_R_between 29 rfl) ?_
    exact m_retI (a_dec_at dc_R_between 30 rfl) rfl rfl H
  have H := H.2
  refine w_tableOut (tgt := 81) [3003, 3004, 3005, 3006, 3007, 3008] (a_dec_at dc_R_between 1 rfl) (by decide) (by intro c hc; simp only [List.mem_cons, List.not_mem_nil, or_false] at hc; rcases hc with rfl | rfl | rfl | rfl | rfl | rfl <;> assumption) (by decide) ?_
  have H := H e1 e3 e5 e7 e16 e17
  refine ev_iload_n (i := 0) rfl rfl (a_dec_at dc_R_between 31 rfl) ?_
  refine ev_sipush (v := 3000) rfl (a_dec_at dc_R_between 32 rfl) ?_
  refine ev_icmp_ne (tgt := 96) (a_dec_at dc_R_between 33 rfl) (by decide) (fun b18 => ?_) (fun b18 => ?_)
  · have H := H.1 b18
    refine ev_iload_n (i := 0) rfl rfl (a_dec_at dc_R_between 40 rfl) ?_
    refine ev_sipush (v := 3001) rfl (a_dec_at dc_R_between 41 rfl) ?_
    refine ev_icmp_ne (tgt := 111) (a_dec_at dc_R_between 42 rfl) (by decide) (fun b19 => ?_) (fun b19 => ?_)
    · have H := H.1 b19
      refine ev_iload_n (i := 1) rfl rfl (a_dec_at dc_R_between 49 rfl) ?_
      refine ev_i2l (a_dec_at dc_R_between 50 rfl) ?_
      refine ev_iload_n (i := 2) rfl rfl (a_dec_at dc_R_between 51 rfl) ?_
      refine ev_i2l (a_dec_at dc_R_between 52 rfl) ?_
      refine ev_lmul (a_dec_at dc_R_between 53 rfl) ?_
      refine ev_lstore_n (i := 3) rfl (by decide) rfl (a_dec_at dc_R_between 54 rfl) ?_
      refine ev_lload_n (i := 3) rfl rfl (a_dec_at dc_R_between 55 rfl) ?_
      refine ev_ldc2 kc_R_207 (a_dec_at dc_R_between 56 rfl) ?_
      refine ev_lcmp (a_dec_at dc_R_between 57 rfl) ?_
      refine ev_if_le (tgt := 131) (a_dec_at dc_R_between 58 rfl) (by decide) (fun b20 => ?_) (fun b20 => ?_)
      · have H := H.1 b20
        refine ev_lload_n (i := 3) rfl rfl (a_dec_at dc_R_between 61 rfl) ?_
        refine ev_ldc2 kc_R_209 (a_dec_at dc_R_between 62 rfl) ?_
        refine ev_lcmp (a_dec_at dc_R_between 63 rfl) ?_
        refine ev_if_ge (tgt := 145) (a_dec_at dc_R_between 64 rfl) (by decide) (fun b21 => ?_) (fun b21 => ?_)
        · have H := H.1 b21
          refine ev_lload_n (i := 3) rfl rfl (a_dec_at dc_R_between 67 rfl) ?_
          refine ev_l2i (a_dec_at dc_R_between 68 rfl) ?_
          exact m_retI (a_dec_at dc_R_between 69 rfl) rfl rfl H
        · have H := H.2 b21
          refine ev_ldc2 kc_R_209 (a_dec_at dc_R_between 65 rfl) ?_
          refine ev_goto (tgt := 146) (a_dec_at dc_R_between 66 rfl) (by decide) ?_
          refine ev_l2i (a_dec_at dc_R_between 68 rfl) ?_
          exact m_retI (a_dec_at dc_R_between 69 rfl) rfl rfl H
      · have H := H.2 b20
        refine ev_ldc2 kc_R_207 (a_dec_at dc_R_between 59 rfl) ?_
        refine ev_goto (tgt := 146) (a_dec_at dc_R_between 60 rfl) (by decide) ?_
        refine ev_l2i (a_dec_at dc_R_between 68 rfl) ?_
        exact m_retI (a_dec_at dc_R_between 69 rfl) rfl rfl H
    · have H := H.2 b19
      refine ev_iload_n (i := 1) rfl rfl (a_dec_at dc_R_between 43 rfl) ?_
      refine ev_i2l (a_dec_at dc_R_between 44 rfl) ?_
      refine ev_iload_n (i := 2) rfl rfl (a_dec_at dc_R_between 45 rfl) ?_
      refine ev_i2l (a_dec_at dc_R_between 46 rfl) ?_
      refine ev_lsub (a_dec_at dc_R_between 47 rfl) ?_
      refine ev_goto (tgt := 116) (a_dec_at dc_R_between 48 rfl) (by decide) ?_
      refine ev_lstore_n (i := 3) rfl (by decide) rfl (a_dec_at dc_R_between 54 rfl) ?_
      refine ev_lload_n (i := 3) rfl rfl (a_dec_at dc_R_between 55 rfl) ?_
      refine ev_ldc2 kc_R_207 (a_dec_at dc_R_between 56 rfl) ?_
      refine ev_lcmp (a_dec_at dc_R_between 57 rfl) ?_
      refine ev_if_le (tgt := 131) (a_dec_at dc_R_between 58 rfl) (by decide) (fun b22 => ?_) (fun b22 => ?_)
      · have H := H.1 b22
        refine ev_lload_n (i := 3) rfl rfl (a_dec_at dc_R_between 61 rfl) ?_
        refine ev_ldc2 kc_R_209 (a_dec_at dc_R_between 62 rfl) ?_
        refine ev_lcmp (a_dec_at dc_R_between 63 rfl) ?_
        refine ev_if_ge (tgt := 145) (a_dec_at dc_R_between 64 rfl) (by decide) (fun b23 => ?_) (fun b23 => ?_)
        · have H := H.1 b23
          refine ev_lload_n (i := 3) rfl rfl (a_dec_at dc_R_between 67 rfl) ?_
          refine ev_l2i (a_dec_at dc_R_between 68 rfl) ?_
          exact m_retI (a_dec_at dc_R_between 69 rfl) rfl rfl H
        · have H := H.2 b23
          refine ev_ldc2 kc_R_209 (a_dec_at dc_R_between 65 rfl) ?_
          refine ev_goto (tgt := 146) (a_dec_at dc_R_between 66 rfl) (by decide) ?_
          refine ev_l2i (a_dec_at dc_R_between 68 rfl) ?_
          exact m_retI (a_dec_at dc_R_between 69 rfl) rfl rfl H
      · have H := H.2 b22
        refine ev_ldc2 kc_R_207 (a_dec_at dc_R_between 59 rfl) ?_
        refine ev_goto (tgt := 146) (a_dec_at dc_R_between 60 rfl) (by decide) ?_
        refine ev_l2i (a_dec_at dc_R_between 68 rfl) ?_
        exact m_retI (a_dec_at dc_R_between 69 rfl) rfl rfl H
  · have H := H.2 b18
    refine ev_iload_n (i := 1) rfl rfl (a_dec_at dc_R_between 34 rfl) ?_
    refine ev_i2l (a_dec_at dc_R_between 35 rfl) ?_
    refine ev_iload_n (i := 2) rfl rfl (a_dec_at dc_R_between 36 rfl) ?_
    refine ev_i2l (a_dec_at dc_R_between 37 rfl) ?_
    refine ev_ladd (a_dec_at dc_R_between 38 rfl) ?_
    refine ev_goto (tgt := 116) (a_dec_at dc_R_between 39 rfl) (by decide) ?_
    refine ev_lstore_n (i := 3) rfl (by decide) rfl (a_dec_at dc_R_between 54 rfl) ?_
    refine ev_lload_n (i := 3) rfl rfl (a_dec_at dc_R_between 55 rfl) ?_
    refine ev_ldc2 kc_R_207 (a_dec_at dc_R_between 56 rfl) ?_
    refine ev_lcmp (a_dec_at dc_R_between 57 rfl) ?_
    refine ev_if_le (tgt := 131) (a_dec_at dc_R_between 58 rfl) (by decide) (fun b24 => ?_) (fun b24 => ?_)
    · have H := H.1 b24
      refine ev_lload_n (i := 3) rfl rfl (a_dec_at dc_R_between 61 rfl) ?_
      refine ev_ldc2 kc_R_209 (a_dec_at dc_R_between 62 rfl) ?_
      refine ev_lcmp (a_dec_at dc_R_between 63 rfl) ?_
      refine ev_if_ge (tgt := 145) (a_dec_at dc_R_between 64 rfl) (by decide) (fun b25 => ?_) (fun b25 => ?_)
      · have H := H.1 b25
        refine ev_lload_n (i := 3) rfl rfl (a_dec_at dc_R_between 67 rfl) ?_
        refine ev_l2i (a_dec_at dc_R_between 68 rfl) ?_
        exact m_retI (a_dec_at dc_R_between 69 rfl) rfl rfl H
      · have H := H.2 b25
        refine ev_ldc2 kc_R_209 (a_dec_at dc_R_between 65 rfl) ?_
        refine ev_goto (tgt := 146) (a_dec_at dc_R_between 66 rfl) (by decide) ?_
        refine ev_l2i (a_dec_at dc_R_between 68 rfl) ?_
        exact m_retI (a_dec_at dc_R_between 69 rfl) rfl rfl H
    · have H := H.2 b24
      refine ev_ldc2 kc_R_207 (a_dec_at dc_R_between 59 rfl) ?_
      refine ev_goto (tgt := 146) (a_dec_at dc_R_between 60 rfl) (by decide) ?_
      refine ev_l2i (a_dec_at dc_R_between 68 rfl) ?_
      exact m_retI (a_dec_at dc_R_between 69 rfl) rfl rfl H
set_option maxRecDepth 20000 in
theorem t_R_riversOf {l : Launch} {h : Nat} (mi : TMi) (ml : TMl) (z : Nat) (a1 : Int32) {Q : Int32 → TMi → TMl → Nat → Prop} (H : Ev l (h + 1) m_R_riversOf 4 ([.ref 119, .int a1, .int 0, .int 0], [], st mi ml z) (qI Q)) : CI l (h + 1) m_R_riversOf [.ref 119, .int a1] mi ml z Q := by
  show Ev l (h + 1) m_R_riversOf 0 ([.ref 119, .int a1, .retAddr 0, .retAddr 0], [], st mi ml z) (qI Q)
  refine ev_iconst (v := 0) rfl (a_dec_at dc_R_riversOf 0 rfl) ?_
  refine ev_istore_n (i := 2) rfl (by decide) rfl (a_dec_at dc_R_riversOf 1 rfl) ?_
  refine ev_iconst (v := 0) rfl (a_dec_at dc_R_riversOf 2 rfl) ?_
  refine ev_istore_n (i := 3) rfl (by decide) rfl (a_dec_at dc_R_riversOf 3 rfl) ?_
  exact Ev.drop (L' := [.ref 119, .int a1, .int 0, .int 0]) (And.intro rfl (And.intro rfl (And.intro rfl (And.intro rfl trivial)))) H
set_option maxRecDepth 20000 in
theorem t_R_riversOf_4 {l : Launch} {h : Nat} (mi : TMi) (ml : TMl) (z : Nat) (v1 : Int32) (v2 : Int32) (v3 : Int32) {Q : Int32 → TMi → TMl → Nat → Prop} (H : (((mi 120 2) ≤ v3 → Q v2 mi ml z) ∧ (¬ (mi 120 2) ≤ v3 → CI l h m_R_wouldBoth [.ref 119, .int v1, .int v3] mi ml z (fun x2 mi2 ml2 z2 => ((x2 = 0 → Ev l (h + 1) m_R_riversOf 4 ([.ref 119, .int v1, .int (v2 ||| 0), .int (v3 + 1)], [], st mi2 ml2 z2) (qI Q)) ∧ (¬ x2 = 0 → Ev l (h + 1) m_R_riversOf 4 ([.ref 119, .int v1, .int (v2 ||| ((1 : Int32) <<< (v3 &&& 31))), .int (v3 + 1)], [], st mi2 ml2 z2) (qI Q))))))) : Ev l (h + 1) m_R_riversOf 4 ([.ref 119, .int v1, .int v2, .int v3], [], st mi ml z) (qI Q) := by
  refine ev_iload_n (i := 3) rfl rfl (a_dec_at dc_R_riversOf 4 rfl) ?_
  refine ev_aload_n (i := 0) rfl rfl (a_dec_at dc_R_riversOf 5 rfl) ?_
  refine m_getR (y := 120) fl_R_13 rfl sh119 (mr_119_1 _) (by decide) (a_dec_at dc_R_riversOf 6 rfl) ?_
  refine ev_iconst (v := 2) rfl (a_dec_at dc_R_riversOf 7 rfl) ?_
  refine w_iald (k := 2) sh120 (by unfold vp_in; decide) (by decide) (a_dec_at dc_R_riversOf 8 rfl) ?_
  refine ev_icmp_ge (tgt := 39) (a_dec_at dc_R_riversOf 9 rfl) (by decide) (fun b1 => ?_) (fun b1 => ?_)
  · have H := H.1 b1
    refine ev_iload_n (i := 2) rfl rfl (a_dec_at dc_R_riversOf 25 rfl) ?_
    exact m_retI (a_dec_at dc_R_riversOf 26 rfl) rfl rfl H
  · have H := H.2 b1
    refine ev_iload_n (i := 2) rfl rfl (a_dec_at dc_R_riversOf 10 rfl) ?_
    refine ev_aload_n (i := 0) rfl rfl (a_dec_at dc_R_riversOf 11 rfl) ?_
    refine ev_iload_n (i := 1) rfl rfl (a_dec_at dc_R_riversOf 12 rfl) ?_
    refine ev_iload_n (i := 3) rfl rfl (a_dec_at dc_R_riversOf 13 rfl) ?_
    refine cV2I cs_R_229 sh119 rfl (Nat.le_of_ble_eq_true rfl) (Nat.le_of_ble_eq_true rfl) (a_dec_at dc_R_riversOf 14 rfl) ?_
    refine CI.mono (fun x2 mi2 ml2 z2 H => ?_) H
    refine ev_if_eq (tgt := 30) (a_dec_at dc_R_riversOf 15 rfl) (by decide) (fun b3 => ?_) (fun b3 => ?_)
    · have H := H.1 b3
      refine ev_iconst (v := 0) rfl (a_dec_at dc_R_riversOf 20 rfl) ?_
      refine ev_ior (a_dec_at dc_R_riversOf 21 rfl) ?_
      refine ev_istore_n (i := 2) rfl (by decide) rfl (a_dec_at dc_R_riversOf 22 rfl) ?_
      refine ev_iinc (v := 1) rfl rfl (by decide) rfl (a_dec_at dc_R_riversOf 23 rfl) ?_
      refine ev_goto (tgt := 4) (a_dec_at dc_R_riversOf 24 rfl) (by decide) ?_
      exact Ev.drop (L' := [.ref 119, .int v1, .int (v2 ||| 0), .int (v3 + 1)]) (And.intro rfl (And.intro rfl (And.intro rfl (And.intro rfl trivial)))) H
    · have H := H.2 b3
      refine ev_iconst (v := 1) rfl (a_dec_at dc_R_riversOf 16 rfl) ?_
      refine ev_iload_n (i := 3) rfl rfl (a_dec_at dc_R_riversOf 17 rfl) ?_
      refine ev_ishl (a_dec_at dc_R_riversOf 18 rfl) ?_
      refine ev_goto (tgt := 31) (a_dec_at dc_R_riversOf 19 rfl) (by decide) ?_
      refine ev_ior (a_dec_at dc_R_riversOf 21 rfl) ?_
      refine ev_istore_n (i := 2) rfl (by decide) rfl (a_dec_at dc_R_riversOf 22 rfl) ?_
      refine ev_iinc (v := 1) rfl rfl (by decide) rfl (a_dec_at dc_R_riversOf 23 rfl) ?_
      refine ev_goto (tgt := 4) (a_dec_at dc_R_riversOf 24 rfl) (by decide) ?_
      exact Ev.drop (L' := [.ref 119, .int v1, .int (v2 ||| ((1 : Int32) <<< (v3 &&& 31))), .int (v3 + 1)]) (And.intro rfl (And.intro rfl (And.intro rfl (And.intro rfl trivial)))) H
set_option maxRecDepth 20000 in
theorem t_R_wouldBoth {l : Launch} {h : Nat} (mi : TMi) (ml : TMl) (z : Nat) (a1 : Int32) (a2 : Int32) {Q : Int32 → TMi → TMl → Nat → Prop} (H : (vp_in ((4 * a1) + a2) 24) ∧ (((mi 126 (((4 * a1) + a2).toNatClampNeg)) ≤ 0 → Q 0 mi ml z) ∧ (¬ (mi 126 (((4 * a1) + a2).toNatClampNeg)) ≤ 0 → (vp_in ((4 * a1) + a2) 24) ∧ (((mi 127 (((4 * a1) + a2).toNatClampNeg)) ≤ 0 → Q 0 mi ml z) ∧ (¬ (mi 127 (((4 * a1) + a2).toNatClampNeg)) ≤ 0 → Q 1 mi ml z))))) : CI l (h + 1) m_R_wouldBoth [.ref 119, .int a1, .int a2] mi ml z Q := by
  show Ev l (h + 1) m_R_wouldBoth 0 ([.ref 119, .int a1, .int a2], [], st mi ml z) (qI Q)
  refine ev_aload_n (i := 0) rfl rfl (a_dec_at dc_R_wouldBoth 0 rfl) ?_
  refine m_getR (y := 126) fl_R_36 rfl sh119 (mr_119_17 _) (by decide) (a_dec_at dc_R_wouldBoth 1 rfl) ?_
  refine ev_iconst (v := 4) rfl (a_dec_at dc_R_wouldBoth 2 rfl) ?_
  refine ev_iload_n (i := 1) rfl rfl (a_dec_at dc_R_wouldBoth 3 rfl) ?_
  refine ev_imul (a_dec_at dc_R_wouldBoth 4 rfl) ?_
  refine ev_iload_n (i := 2) rfl rfl (a_dec_at dc_R_wouldBoth 5 rfl) ?_
  refine ev_iadd (a_dec_at dc_R_wouldBoth 6 rfl) ?_
  obtain ⟨c1, H⟩ := H
  refine w_iald (k := ((4 * a1) + a2).toNatClampNeg) sh126 c1 rfl (a_dec_at dc_R_wouldBoth 7 rfl) ?_
  refine ev_if_le (tgt := 30) (a_dec_at dc_R_wouldBoth 8 rfl) (by decide) (fun b2 => ?_) (fun b2 => ?_)
  · have H := H.1 b2
    refine ev_iconst (v := 0) rfl (a_dec_at dc_R_wouldBoth 20 rfl) ?_
    exact m_retI (a_dec_at dc_R_wouldBoth 21 rfl) rfl rfl H
  · have H := H.2 b2
    refine ev_aload_n (i := 0) rfl rfl (a_dec_at dc_R_wouldBoth 9 rfl) ?_
    refine m_getR (y := 127) fl_R_39 rfl sh119 (mr_119_18 _) (by decide) (a_dec_at dc_R_wouldBoth 10 rfl) ?_
    refine ev_iconst (v := 4) rfl (a_dec_at dc_R_wouldBoth 11 rfl) ?_
    refine ev_iload_n (i := 1) rfl rfl (a_dec_at dc_R_wouldBoth 12 rfl) ?_
    refine ev_imul (a_dec_at dc_R_wouldBoth 13 rfl) ?_
    refine ev_iload_n (i := 2) rfl rfl (a_dec_at dc_R_wouldBoth 14 rfl) ?_
    refine ev_iadd (a_dec_at dc_R_wouldBoth 15 rfl) ?_
    obtain ⟨c3, H⟩ := H
    refine w_iald (k := ((4 * a1) + a2).toNatClampNeg) sh127 c3 rfl (a_dec_at dc_R_wouldBoth 16 rfl) ?_
    refine ev_if_le (tgt := 30) (a_dec_at dc_R_wouldBoth 17 rfl) (by decide) (fun b4 => ?_) (fun b4 => ?_)
    · have H := H.1 b4
      refine ev_iconst (v := 0) rfl (a_dec_at dc_R_wouldBoth 20 rfl) ?_
      exact m_retI (a_dec_at dc_R_wouldBoth 21 rfl) rfl rfl H
    · have H := H.2 b4
      refine ev_iconst (v := 1) rfl (a_dec_at dc_R_wouldBoth 18 rfl) ?_
      refine ev_goto (tgt := 31) (a_dec_at dc_R_wouldBoth 19 rfl) (by decide) ?_
      exact m_retI (a_dec_at dc_R_wouldBoth 21 rfl) rfl rfl H
set_option maxRecDepth 20000 in
theorem t_R_river {l : Launch} {h : Nat} (mi : TMi) (ml : TMl) (z : Nat) (a1 : Int32) (a2 : Int32) {Q : Int32 → TMi → TMl → Nat → Prop} (H : CI l h m_R_isRiver [.ref 119, .long a1.toInt64] (up mi 119 0 0) ml z (fun x1 mi1 ml1 z1 => ((¬ x1 = 0 → CV l h m_R_laysLikes [.ref 119] mi1 ml1 z1 (fun mi3 ml3 z3 => ((a2 = 0 → (vp_in (41 + a1) 4113) ∧ Q (mi3 120 ((41 + a1).toNatClampNeg)) mi3 ml3 z3) ∧ ((a2 = 1 → (vp_in (21 + a1) 4113) ∧ Q (mi3 120 ((21 + a1).toNatClampNeg)) mi3 ml3 z3) ∧ ((a2 = 2 → (vp_in (25 + a1) 4113) ∧ Q (mi3 120 ((25 + a1).toNatClampNeg)) mi3 ml3 z3) ∧ ((a2 = 3 → CI l h m_R_becksIn [.ref 119, .int a1] mi3 ml3 z3 (fun x11 mi11 ml11 z11 => Q x11 mi11 ml11 z11)) ∧ ((a2 = 4 → CI l h m_R_becksIn [.ref 119, .int a1] mi3 ml3 z3 (fun x13 mi13 ml13 z13 => CI l h m_R_flowOf [.ref 119, .int x13] mi13 ml13 z13 (fun x14 mi14 ml14 z14 => Q x14 mi14 ml14 z14))) ∧ ((a2 = 5 → CI l h m_R_becksIn [.ref 119, .int a1] mi3 ml3 z3 (fun x16 mi16 ml16 z16 => CI l h m_R_leastOf [.ref 119, .int a1, .int x16] mi16 ml16 z16 (fun x17 mi17 ml17 z17 => Q x17 mi17 ml17 z17))) ∧ (¬ a2 = 0 → ¬ a2 = 1 → ¬ a2 = 2 → ¬ a2 = 3 → ¬ a2 = 4 → ¬ a2 = 5 → Q (-2) mi3 ml3 z3))))))))) ∧ (x1 = 0 → Q (-2) mi1 ml1 z1)))) : CI l (h + 1) m_R_river [.ref 119, .int a1, .int a2] mi ml z Q := by
  show Ev l (h + 1) m_R_river 0 ([.ref 119, .int a1, .int a2], [], st mi ml z) (qI Q)
  refine ev_aload_n (i := 0) rfl rfl (a_dec_at dc_R_river 0 rfl) ?_
  refine ev_iconst (v := 0) rfl (a_dec_at dc_R_river 1 rfl) ?_
  refine m_putI fl_R_1 rfl (fun _ _ _ h => by cases h; exact Or.inl rfl) sh119 (a_dec_at dc_R_river 2 rfl) ?_
  refine ev_aload_n (i := 0) rfl rfl (a_dec_at dc_R_river 3 rfl) ?_
  refine ev_iload_n (i := 1) rfl rfl (a_dec_at dc_R_river 4 rfl) ?_
  refine ev_i2l (a_dec_at dc_R_river 5 rfl) ?_
  refine cV1I cs_R_243 sh119 rfl (Nat.le_of_ble_eq_true rfl) (Nat.le_of_ble_eq_true rfl) (a_dec_at dc_R_river 6 rfl) ?_
  refine CI.mono (fun x1 mi1 ml1 z1 H => ?_) H
  refine ev_if_ne (tgt := 17) (a_dec_at dc_R_river 7 rfl) (by decide) (fun b2 => ?_) (fun b2 => ?_)
  · have H := H.1 b2
    refine ev_aload_n (i := 0) rfl rfl (a_dec_at dc_R_river 10 rfl) ?_
    refine cV0V cs_R_237 sh119 rfl (Nat.le_of_ble_eq_true rfl) (Nat.le_of_ble_eq_true rfl) (a_dec_at dc_R_river 11 rfl) ?_
    refine CV.mono (fun mi3 ml3 z3 H => ?_) H
    refine ev_iload_n (i := 2) rfl rfl (a_dec_at dc_R_river 12 rfl) ?_
    by_cases e4 : a2 = 0
    · have H := H.1 e4
      refine w_tableIn (c := 0) (off := 38) (tgt := 60) (a_dec_at dc_R_river 13 rfl) e4 (by decide) (by decide) (by decide) (by decide) ?_
      refine ev_aload_n (i := 0) rfl rfl (a_dec_at dc_R_river 14 rfl) ?_
      refine m_getR (y := 120) fl_R_13 rfl sh119 (mr_119_1 _) (by decide) (a_dec_at dc_R_river 15 rfl) ?_
      refine ev_bipush (v := 41) rfl (a_dec_at dc_R_river 16 rfl) ?_
      refine ev_iload_n (i := 1) rfl rfl (a_dec_at dc_R_river 17 rfl) ?_
      refine ev_iadd (a_dec_at dc_R_river 18 rfl) ?_
      obtain ⟨c5, H⟩ := H
      refine w_iald (k := (41 + a1).toNatClampNeg) sh120 c5 rfl (a_dec_at dc_R_river 19 rfl) ?_
      exact m_retI (a_dec_at dc_R_river 20 rfl) rfl rfl H
    have H := H.2
    by_cases e6 : a2 = 1
    · have H := H.1 e6
      refine w_tableIn (c := 1) (off := 48) (tgt := 70) (a_dec_at dc_R_river 13 rfl) e6 (by decide) (by decide) (by decide) (by decide) ?_
      refine ev_aload_n (i := 0) rfl rfl (a_dec_at dc_R_river 21 rfl) ?_
      refine m_getR (y := 120) fl_R_13 rfl sh119 (mr_119_1 _) (by decide) (a_dec_at dc_R_river 22 rfl) ?_
      refine ev_bipush (v := 21) rfl (a_dec_at dc_R_river 23 rfl) ?_
      refine ev_iload_n (i := 1) rfl rfl (a_dec_at dc_R_river 24 rfl) ?_
      refine ev_iadd (a_dec_at dc_R_river 25 rfl) ?_
      obtain ⟨c7, H⟩ := H
      refine w_iald (k := (21 + a1).toNatClampNeg) sh120 c7 rfl (a_dec_at dc_R_river 26 rfl) ?_
      exact m_retI (a_dec_at dc_R_river 27 rfl) rfl rfl H
    have H := H.2
    by_cases e8 : a2 = 2
    · have H := H.1 e8
      refine w_tableIn (c := 2) (off := 58) (tgt := 80) (a_dec_at dc_R_river 13 rfl) e8 (by decide) (by decide) (by decide) (by decide) ?_
      refine ev_aload_n (i := 0) rfl rfl (a_dec_at dc_R_river 28 rfl) ?_
      refine m_getR (y := 120) fl_R_13 rfl sh119 (mr_119_1 _) (by decide) (a_dec_at dc_R_river 29 rfl) ?_
      refine ev_bipush (v := 25) rfl (a_dec_at dc_R_river 30 rfl) ?_
      refine ev_iload_n (i := 1) rfl rfl (a_dec_at dc_R_river 31 rfl) ?_
      refine ev_iadd (a_dec_at dc_R_river 32 rfl) ?_
      obtain ⟨c9, H⟩ := H
      refine w_iald (k := (25 + a1).toNatClampNeg) sh120 c9 rfl (a_dec_at dc_R_river 33 rfl) ?_
      exact m_retI (a_dec_at dc_R_river 34 rfl) rfl rfl H
    have H := H.2
    by_cases e10 : a2 = 3
    · have H := H.1 e10
      refine w_tableIn (c := 3) (off := 68) (tgt := 90) (a_dec_at dc_R_river 13 rfl) e10 (by decide) (by decide) (by decide) (by decide) ?_
      refine ev_aload_n (i := 0) rfl rfl (a_dec_at dc_R_river 35 rfl) ?_
      refine ev_iload_n (i := 1) rfl rfl (a_dec_at dc_R_river 36 rfl) ?_
      refine cV1I cs_R_246 sh119 rfl (Nat.le_of_ble_eq_true rfl) (Nat.le_of_ble_eq_true rfl) (a_dec_at dc_R_river 37 rfl) ?_
      refine CI.mono (fun x11 mi11 ml11 z11 H => ?_) H
      exact m_retI (a_dec_at dc_R_river 38 rfl) rfl rfl H
    have H := H.2
    by_cases e12 : a2 = 4
    · have H := H.1 e12
      refine w_tableIn (c := 4) (off := 74) (tgt := 96) (a_dec_at dc_R_river 13 rfl) e12 (by decide) (by decide) (by decide) (by decide) ?_
      refine ev_aload_n (i := 0) rfl rfl (a_dec_at dc_R_river 39 rfl) ?_
      refine ev_aload_n (i := 0) rfl rfl (a_dec_at dc_R_river 40 rfl) ?_
      refine ev_iload_n (i := 1) rfl rfl (a_dec_at dc_R_river 41 rfl) ?_
      refine cV1I cs_R_246 sh119 rfl (Nat.le_of_ble_eq_true rfl) (Nat.le_of_ble_eq_true rfl) (a_dec_at dc_R_river 42 rfl) ?_
      refine CI.mono (fun x13 mi13 ml13 z13 H => ?_) H
      refine cV1I cs_R_249 sh119 rfl (Nat.le_of_ble_eq_true rfl) (Nat.le_of_ble_eq_true rfl) (a_dec_at dc_R_river 43 rfl) ?_
      refine CI.mono (fun x14 mi14 ml14 z14 H => ?_) H
      exact m_retI (a_dec_at dc_R_river 44 rfl) rfl rfl H
    have H := H.2
    by_cases e15 : a2 = 5
    · have H := H.1 e15
      refine w_tableIn (c := 5) (off := 84) (tgt := 106) (a_dec_at dc_R_river 13 rfl) e15 (by decide) (by decide) (by decide) (by decide) ?_
      refine ev_aload_n (i := 0) rfl rfl (a_dec_at dc_R_river 45 rfl) ?_
      refine ev_iload_n (i := 1) rfl rfl (a_dec_at dc_R_river 46 rfl) ?_
      refine ev_aload_n (i := 0) rfl rfl (a_dec_at dc_R_river 47 rfl) ?_
      refine ev_iload_n (i := 1) rfl rfl (a_dec_at dc_R_river 48 rfl) ?_
      refine cV1I cs_R_246 sh119 rfl (Nat.le_of_ble_eq_true rfl) (Nat.le_of_ble_eq_true rfl) (a_dec_at dc_R_river 49 rfl) ?_
      refine CI.mono (fun x16 mi16 ml16 z16 H => ?_) H
      refine cV2I cs_R_252 sh119 rfl (Nat.le_of_ble_eq_true rfl) (Nat.le_of_ble_eq_true rfl) (a_dec_at dc_R_river 50 rfl) ?_
      refine CI.mono (fun x17 mi17 ml17 z17 H => ?_) H
      exact m_retI (a_dec_at dc_R_river 51 rfl) rfl rfl H
    have H := H.2
    refine w_tableOut (tgt := 117) [0, 1, 2, 3, 4, 5] (a_dec_at dc_R_river 13 rfl) (by decide) (by intro c hc; simp only [List.mem_cons, List.not_mem_nil, or_false] at hc; rcases hc with rfl | rfl | rfl | rfl | rfl | rfl <;> assumption) (by decide) ?_
    have H := H e4 e6 e8 e10 e12 e15
    refine ev_bipush (v := (-2)) rfl (a_dec_at dc_R_river 52 rfl) ?_
    exact m_retI (a_dec_at dc_R_river 53 rfl) rfl rfl H
  · have H := H.2 b2
    refine ev_bipush (v := (-2)) rfl (a_dec_at dc_R_river 8 rfl) ?_
    exact m_retI (a_dec_at dc_R_river 9 rfl) rfl rfl H
set_option maxRecDepth 20000 in
theorem t_R_isRiver {l : Launch} {h : Nat} (mi : TMi) (ml : TMl) (z : Nat) (a1 : Int64) {Q : Int32 → TMi → TMl → Nat → Prop} (H : CI l h m_R_within [.long a1, .long 0, .long (((mi 120 2) - 1).toInt64)] mi ml z (fun x1 mi1 ml1 z1 => (narrow .boolean (.int x1) = .int x1) ∧ Q x1 mi1 ml1 z1)) : CI l (h + 1) m_R_isRiver [.ref 119, .long a1] mi ml z Q := by
  show Ev l (h + 1) m_R_isRiver 0 ([.ref 119, .long a1, .retAddr 0], [], st mi ml z) (qI Q)
  refine ev_lload_n (i := 1) rfl rfl (a_dec_at dc_R_isRiver 0 rfl) ?_
  refine ev_lconst (v := 0) rfl (a_dec_at dc_R_isRiver 1 rfl) ?_
  refine ev_aload_n (i := 0) rfl rfl (a_dec_at dc_R_isRiver 2 rfl) ?_
  refine m_getR (y := 120) fl_R_13 rfl sh119 (mr_119_1 _) (by decide) (a_dec_at dc_R_isRiver 3 rfl) ?_
  refine ev_iconst (v := 2) rfl (a_dec_at dc_R_isRiver 4 rfl) ?_
  refine w_iald (k := 2) sh120 (by unfold vp_in; decide) (by decide) (a_dec_at dc_R_isRiver 5 rfl) ?_
  refine ev_iconst (v := 1) rfl (a_dec_at dc_R_isRiver 6 rfl) ?_
  refine ev_isub (a_dec_at dc_R_isRiver 7 rfl) ?_
  refine ev_i2l (a_dec_at dc_R_isRiver 8 rfl) ?_
  refine cS3I cs_R_139 rfl (Nat.le_of_ble_eq_true rfl) (Nat.le_of_ble_eq_true rfl) (a_dec_at dc_R_isRiver 9 rfl) ?_
  refine CI.mono (fun x1 mi1 ml1 z1 H => ?_) H
  obtain ⟨c2, H⟩ := H
  exact m_retI (a_dec_at dc_R_isRiver 10 rfl) rfl c2 H
set_option maxRecDepth 20000 in
theorem t_R_becksIn {l : Launch} {h : Nat} (mi : TMi) (ml : TMl) (z : Nat) (a1 : Int32) {Q : Int32 → TMi → TMl → Nat → Prop} (H : Ev l (h + 1) m_R_becksIn 4 ([.ref 119, .int a1, .int 0, .int 0], [], st mi ml z) (qI Q)) : CI l (h + 1) m_R_becksIn [.ref 119, .int a1] mi ml z Q := by
  show Ev l (h + 1) m_R_becksIn 0 ([.ref 119, .int a1, .retAddr 0, .retAddr 0], [], st mi ml z) (qI Q)
  refine ev_iconst (v := 0) rfl (a_dec_at dc_R_becksIn 0 rfl) ?_
  refine ev_istore_n (i := 2) rfl (by decide) rfl (a_dec_at dc_R_becksIn 1 rfl) ?_
  refine ev_iconst (v := 0) rfl (a_dec_at dc_R_becksIn 2 rfl) ?_
  refine ev_istore_n (i := 3) rfl (by decide) rfl (a_dec_at dc_R_becksIn 3 rfl) ?_
  exact Ev.drop (L' := [.ref 119, .int a1, .int 0, .int 0]) (And.intro rfl (And.intro rfl (And.intro rfl (And.intro rfl trivial)))) H
set_option maxRecDepth 20000 in
theorem t_R_becksIn_4 {l : Launch} {h : Nat} (mi : TMi) (ml : TMl) (z : Nat) (v1 : Int32) (v2 : Int32) (v3 : Int32) {Q : Int32 → TMi → TMl → Nat → Prop} (H : (((mi 120 1) ≤ v3 → Q v2 mi ml z) ∧ (¬ (mi 120 1) ≤ v3 → (vp_in (29 + v3) 4113) ∧ ((¬ (mi 120 ((29 + v3).toNatClampNeg)) = v1 → Ev l (h + 1) m_R_becksIn 4 ([.ref 119, .int v1, .int (v2 ||| 0), .int (v3 + 1)], [], st mi ml z) (qI Q)) ∧ ((mi 120 ((29 + v3).toNatClampNeg)) = v1 → Ev l (h + 1) m_R_becksIn 4 ([.ref 119, .int v1, .int (v2 ||| ((1 : Int32) <<< (v3 &&& 31))), .int (v3 + 1)], [], st mi ml z) (qI Q)))))) : Ev l (h + 1) m_R_becksIn 4 ([.ref 119, .int v1, .int v2, .int v3], [], st mi ml z) (qI Q) := by
  refine ev_iload_n (i := 3) rfl rfl (a_dec_at dc_R_becksIn 4 rfl) ?_
  refine ev_aload_n (i := 0) rfl rfl (a_dec_at dc_R_becksIn 5 rfl) ?_
  refine m_getR (y := 120) fl_R_13 rfl sh119 (mr_119_1 _) (by decide) (a_dec_at dc_R_becksIn 6 rfl) ?_
  refine ev_iconst (v := 1) rfl (a_dec_at dc_R_becksIn 7 rfl) ?_
  refine w_iald (k := 1) sh120 (by unfold vp_in; decide) (by decide) (a_dec_at dc_R_becksIn 8 rfl) ?_
  refine ev_icmp_ge (tgt := 43) (a_dec_at dc_R_becksIn 9 rfl) (by decide) (fun b1 => ?_) (fun b1 => ?_)
  · have H := H.1 b1
    refine ev_iload_n (i := 2) rfl rfl (a_dec_at dc_R_becksIn 28 rfl) ?_
    exact m_retI (a_dec_at dc_R_becksIn 29 rfl) rfl rfl H
  · have H := H.2 b1
    refine ev_iload_n (i := 2) rfl rfl (a_dec_at dc_R_becksIn 10 rfl) ?_
    refine ev_aload_n (i := 0) rfl rfl (a_dec_at dc_R_becksIn 11 rfl) ?_
    refine m_getR (y := 120) fl_R_13 rfl sh119 (mr_119_1 _) (by decide) (a_dec_at dc_R_becksIn 12 rfl) ?_
    refine ev_bipush (v := 29) rfl (a_dec_at dc_R_becksIn 13 rfl) ?_
    refine ev_iload_n (i := 3) rfl rfl (a_dec_at dc_R_becksIn 14 rfl) ?_
    refine ev_iadd (a_dec_at dc_R_becksIn 15 rfl) ?_
    obtain ⟨c2, H⟩ := H
    refine w_iald (k := (29 + v3).toNatClampNeg) sh120 c2 rfl (a_dec_at dc_R_becksIn 16 rfl) ?_
    refine ev_iload_n (i := 1) rfl rfl (a_dec_at dc_R_becksIn 17 rfl) ?_
    refine ev_icmp_ne (tgt := 34) (a_dec_at dc_R_becksIn 18 rfl) (by decide) (fun b3 => ?_) (fun b3 => ?_)
    · have H := H.1 b3
      refine ev_iconst (v := 0) rfl (a_dec_at dc_R_becksIn 23 rfl) ?_
      refine ev_ior (a_dec_at dc_R_becksIn 24 rfl) ?_
      refine ev_istore_n (i := 2) rfl (by decide) rfl (a_dec_at dc_R_becksIn 25 rfl) ?_
      refine ev_iinc (v := 1) rfl rfl (by decide) rfl (a_dec_at dc_R_becksIn 26 rfl) ?_
      refine ev_goto (tgt := 4) (a_dec_at dc_R_becksIn 27 rfl) (by decide) ?_
      exact Ev.drop (L' := [.ref 119, .int v1, .int (v2 ||| 0), .int (v3 + 1)]) (And.intro rfl (And.intro rfl (And.intro rfl (And.intro rfl trivial)))) H
    · have H := H.2 b3
      refine ev_iconst (v := 1) rfl (a_dec_at dc_R_becksIn 19 rfl) ?_
      refine ev_iload_n (i := 3) rfl rfl (a_dec_at dc_R_becksIn 20 rfl) ?_
      refine ev_ishl (a_dec_at dc_R_becksIn 21 rfl) ?_
      refine ev_goto (tgt := 35) (a_dec_at dc_R_becksIn 22 rfl) (by decide) ?_
      refine ev_ior (a_dec_at dc_R_becksIn 24 rfl) ?_
      refine ev_istore_n (i := 2) rfl (by decide) rfl (a_dec_at dc_R_becksIn 25 rfl) ?_
      refine ev_iinc (v := 1) rfl rfl (by decide) rfl (a_dec_at dc_R_becksIn 26 rfl) ?_
      refine ev_goto (tgt := 4) (a_dec_at dc_R_becksIn 27 rfl) (by decide) ?_
      exact Ev.drop (L' := [.ref 119, .int v1, .int (v2 ||| ((1 : Int32) <<< (v3 &&& 31))), .int (v3 + 1)]) (And.intro rfl (And.intro rfl (And.intro rfl (And.intro rfl trivial)))) H
set_option maxRecDepth 20000 in
theorem t_R_flowOf {l : Launch} {h : Nat} (mi : TMi) (ml : TMl) (z : Nat) (a1 : Int32) {Q : Int32 → TMi → TMl → Nat → Prop} (H : Ev l (h + 1) m_R_flowOf 4 ([.ref 119, .int a1, .int 0, .int 0], [], st mi ml z) (qI Q)) : CI l (h + 1) m_R_flowOf [.ref 119, .int a1] mi ml z Q := by
  show Ev l (h + 1) m_R_flowOf 0 ([.ref 119, .int a1, .retAddr 0, .retAddr 0], [], st mi ml z) (qI Q)
  refine ev_iconst (v := 0) rfl (a_dec_at dc_R_flowOf 0 rfl) ?_
  refine ev_istore_n (i := 2) rfl (by decide) rfl (a_dec_at dc_R_flowOf 1 rfl) ?_
  refine ev_iconst (v := 0) rfl (a_dec_at dc_R_flowOf 2 rfl) ?_
  refine ev_istore_n (i := 3) rfl (by decide) rfl (a_dec_at dc_R_flowOf 3 rfl) ?_
  exact Ev.drop (L' := [.ref 119, .int a1, .int 0, .int 0]) (And.intro rfl (And.intro rfl (And.intro rfl (And.intro rfl trivial)))) H
set_option maxRecDepth 20000 in
theorem t_R_flowOf_4 {l : Launch} {h : Nat} (mi : TMi) (ml : TMl) (z : Nat) (v1 : Int32) (v2 : Int32) (v3 : Int32) {Q : Int32 → TMi → TMl → Nat → Prop} (H : (((mi 120 1) ≤ v3 → Q v2 mi ml z) ∧ (¬ (mi 120 1) ≤ v3 → CI l h m_R_isIn [.long v1.toInt64, .int v3] mi ml z (fun x2 mi2 ml2 z2 => ((x2 = 0 → Ev l (h + 1) m_R_flowOf 4 ([.ref 119, .int v1, .int (v2 + 0), .int (v3 + 1)], [], st mi2 ml2 z2) (qI Q)) ∧ (¬ x2 = 0 → (vp_in (35 + v3) 4113) ∧ Ev l (h + 1) m_R_flowOf 4 ([.ref 119, .int v1, .int (v2 + (mi2 120 ((35 + v3).toNatClampNeg))), .int (v3 + 1)], [], st mi2 ml2 z2) (qI Q))))))) : Ev l (h + 1) m_R_flowOf 4 ([.ref 119, .int v1, .int v2, .int v3], [], st mi ml z) (qI Q) := by
  refine ev_iload_n (i := 3) rfl rfl (a_dec_at dc_R_flowOf 4 rfl) ?_
  refine ev_aload_n (i := 0) rfl rfl (a_dec_at dc_R_flowOf 5 rfl) ?_
  refine m_getR (y := 120) fl_R_13 rfl sh119 (mr_119_1 _) (by decide) (a_dec_at dc_R_flowOf 6 rfl) ?_
  refine ev_iconst (v := 1) rfl (a_dec_at dc_R_flowOf 7 rfl) ?_
  refine w_iald (k := 1) sh120 (by unfold vp_in; decide) (by decide) (a_dec_at dc_R_flowOf 8 rfl) ?_
  refine ev_icmp_ge (tgt := 45) (a_dec_at dc_R_flowOf 9 rfl) (by decide) (fun b1 => ?_) (fun b1 => ?_)
  · have H := H.1 b1
    refine ev_iload_n (i := 2) rfl rfl (a_dec_at dc_R_flowOf 28 rfl) ?_
    exact m_retI (a_dec_at dc_R_flowOf 29 rfl) rfl rfl H
  · have H := H.2 b1
    refine ev_iload_n (i := 2) rfl rfl (a_dec_at dc_R_flowOf 10 rfl) ?_
    refine ev_iload_n (i := 1) rfl rfl (a_dec_at dc_R_flowOf 11 rfl) ?_
    refine ev_i2l (a_dec_at dc_R_flowOf 12 rfl) ?_
    refine ev_iload_n (i := 3) rfl rfl (a_dec_at dc_R_flowOf 13 rfl) ?_
    refine cS2I cs_R_221 rfl (Nat.le_of_ble_eq_true rfl) (Nat.le_of_ble_eq_true rfl) (a_dec_at dc_R_flowOf 14 rfl) ?_
    refine CI.mono (fun x2 mi2 ml2 z2 H => ?_) H
    refine ev_if_eq (tgt := 36) (a_dec_at dc_R_flowOf 15 rfl) (by decide) (fun b3 => ?_) (fun b3 => ?_)
    · have H := H.1 b3
      refine ev_iconst (v := 0) rfl (a_dec_at dc_R_flowOf 23 rfl) ?_
      refine ev_iadd (a_dec_at dc_R_flowOf 24 rfl) ?_
      refine ev_istore_n (i := 2) rfl (by decide) rfl (a_dec_at dc_R_flowOf 25 rfl) ?_
      refine ev_iinc (v := 1) rfl rfl (by decide) rfl (a_dec_at dc_R_flowOf 26 rfl) ?_
      refine ev_goto (tgt := 4) (a_dec_at dc_R_flowOf 27 rfl) (by decide) ?_
      exact Ev.drop (L' := [.ref 119, .int v1, .int (v2 + 0), .int (v3 + 1)]) (And.intro rfl (And.intro rfl (And.intro rfl (And.intro rfl trivial)))) H
    · have H := H.2 b3
      refine ev_aload_n (i := 0) rfl rfl (a_dec_at dc_R_flowOf 16 rfl) ?_
      refine m_getR (y := 120) fl_R_13 rfl sh119 (mr_119_1 _) (by decide) (a_dec_at dc_R_flowOf 17 rfl) ?_
      refine ev_bipush (v := 35) rfl (a_dec_at dc_R_flowOf 18 rfl) ?_
      refine ev_iload_n (i := 3) rfl rfl (a_dec_at dc_R_flowOf 19 rfl) ?_
      refine ev_iadd (a_dec_at dc_R_flowOf 20 rfl) ?_
      obtain ⟨c4, H⟩ := H
      refine w_iald (k := (35 + v3).toNatClampNeg) sh120 c4 rfl (a_dec_at dc_R_flowOf 21 rfl) ?_
      refine ev_goto (tgt := 37) (a_dec_at dc_R_flowOf 22 rfl) (by decide) ?_
      refine ev_iadd (a_dec_at dc_R_flowOf 24 rfl) ?_
      refine ev_istore_n (i := 2) rfl (by decide) rfl (a_dec_at dc_R_flowOf 25 rfl) ?_
      refine ev_iinc (v := 1) rfl rfl (by decide) rfl (a_dec_at dc_R_flowOf 26 rfl) ?_
      refine ev_goto (tgt := 4) (a_dec_at dc_R_flowOf 27 rfl) (by decide) ?_
      exact Ev.drop (L' := [.ref 119, .int v1, .int (v2 + (mi2 120 ((35 + v3).toNatClampNeg))), .int (v3 + 1)]) (And.intro rfl (And.intro rfl (And.intro rfl (And.intro rfl trivial)))) H
set_option maxRecDepth 20000 in
theorem t_R_isIn {l : Launch} {h : Nat} (mi : TMi) (ml : TMl) (z : Nat) (a1 : Int64) (a2 : Int32) {Q : Int32 → TMi → TMl → Nat → Prop} (H : ((¬ (lg_cmp ((a1 >>> (a2.toInt64 &&& 63)) &&& 1) 1) = 0 → Q 0 mi ml z) ∧ ((lg_cmp ((a1 >>> (a2.toInt64 &&& 63)) &&& 1) 1) = 0 → Q 1 mi ml z))) : CI l (h + 1) m_R_isIn [.long a1, .int a2] mi ml z Q := by
  show Ev l (h + 1) m_R_isIn 0 ([.long a1, .retAddr 0, .int a2], [], st mi ml z) (qI Q)
  refine ev_lload_n (i := 0) rfl rfl (a_dec_at dc_R_isIn 0 rfl) ?_
  refine ev_iload_n (i := 2) rfl rfl (a_dec_at dc_R_isIn 1 rfl) ?_
  refine ev_lshr (a_dec_at dc_R_isIn 2 rfl) ?_
  refine ev_lconst (v := 1) rfl (a_dec_at dc_R_isIn 3 rfl) ?_
  refine ev_land (a_dec_at dc_R_isIn 4 rfl) ?_
  refine ev_lconst (v := 1) rfl (a_dec_at dc_R_isIn 5 rfl) ?_
  refine ev_lcmp (a_dec_at dc_R_isIn 6 rfl) ?_
  refine ev_if_ne (tgt := 14) (a_dec_at dc_R_isIn 7 rfl) (by decide) (fun b1 => ?_) (fun b1 => ?_)
  · have H := H.1 b1
    refine ev_iconst (v := 0) rfl (a_dec_at dc_R_isIn 10 rfl) ?_
    exact m_retI (a_dec_at dc_R_isIn 11 rfl) rfl rfl H
  · have H := H.2 b1
    refine ev_iconst (v := 1) rfl (a_dec_at dc_R_isIn 8 rfl) ?_
    refine ev_goto (tgt := 15) (a_dec_at dc_R_isIn 9 rfl) (by decide) ?_
    exact m_retI (a_dec_at dc_R_isIn 11 rfl) rfl rfl H
set_option maxRecDepth 20000 in
theorem t_R_leastOf {l : Launch} {h : Nat} (mi : TMi) (ml : TMl) (z : Nat) (a1 : Int32) (a2 : Int32) {Q : Int32 → TMi → TMl → Nat → Prop} (H : Ev l (h + 1) m_R_leastOf 5 ([.ref 119, .int a1, .int a2, .int (-1), .int 0], [], st mi ml z) (qI Q)) : CI l (h + 1) m_R_leastOf [.ref 119, .int a1, .int a2] mi ml z Q := by
  show Ev l (h + 1) m_R_leastOf 0 ([.ref 119, .int a1, .int a2, .retAddr 0, .retAddr 0], [], st mi ml z) (qI Q)
  refine ev_iconst (v := (-1)) rfl (a_dec_at dc_R_leastOf 0 rfl) ?_
  refine ev_istore_n (i := 3) rfl (by decide) rfl (a_dec_at dc_R_leastOf 1 rfl) ?_
  refine ev_iconst (v := 0) rfl (a_dec_at dc_R_leastOf 2 rfl) ?_
  refine ev_istore (by decide) rfl (a_dec_at dc_R_leastOf 3 rfl) ?_
  exact Ev.drop (L' := [.ref 119, .int a1, .int a2, .int (-1), .int 0]) (And.intro rfl (And.intro rfl (And.intro rfl (And.intro rfl (And.intro rfl trivial))))) H
set_option maxRecDepth 20000 in
theorem t_R_leastOf_5 {l : Launch} {h : Nat} (mi : TMi) (ml : TMl) (z : Nat) (v1 : Int32) (v2 : Int32) (v3 : Int32) (v4 : Int32) {Q : Int32 → TMi → TMl → Nat → Prop} (H : (((mi 120 1) ≤ v4 → Q v3 mi ml z) ∧ (¬ (mi 120 1) ≤ v4 → CI l h m_R_isIn [.long v2.toInt64, .int v4] mi ml z (fun x2 mi2 ml2 z2 => ((x2 = 0 → Ev l (h + 1) m_R_leastOf 5 ([.ref 119, .int v1, .int v2, .int v3, .int (v4 + 1)], [], st mi2 ml2 z2) (qI Q)) ∧ (¬ x2 = 0 → ((v3 = (-1) → Ev l (h + 1) m_R_leastOf 5 ([.ref 119, .int v1, .int v2, .int v4, .int (v4 + 1)], [], st mi2 ml2 z2) (qI Q)) ∧ (¬ v3 = (-1) → CI l h m_R_takesMore [.ref 119, .int v1, .int v3, .int v4] mi2 ml2 z2 (fun x5 mi5 ml5 z5 => ((x5 = 0 → Ev l (h + 1) m_R_leastOf 5 ([.ref 119, .int v1, .int v2, .int v3, .int (v4 + 1)], [], st mi5 ml5 z5) (qI Q)) ∧ (¬ x5 = 0 → Ev l (h + 1) m_R_leastOf 5 ([.ref 119, .int v1, .int v2, .int v4, .int (v4 + 1)], [], st mi5 ml5 z5) (qI Q)))))))))))) : Ev l (h + 1) m_R_leastOf 5 ([.ref 119, .int v1, .int v2, .int v3, .int v4], [], st mi ml z) (qI Q) := by
  refine ev_iload rfl (a_dec_at dc_R_leastOf 4 rfl) ?_
  refine ev_aload_n (i := 0) rfl rfl (a_dec_at dc_R_leastOf 5 rfl) ?_
  refine m_getR (y := 120) fl_R_13 rfl sh119 (mr_119_1 _) (by decide) (a_dec_at dc_R_leastOf 6 rfl) ?_
  refine ev_iconst (v := 1) rfl (a_dec_at dc_R_leastOf 7 rfl) ?_
  refine w_iald (k := 1) sh120 (by unfold vp_in; decide) (by decide) (a_dec_at dc_R_leastOf 8 rfl) ?_
  refine ev_icmp_ge (tgt := 51) (a_dec_at dc_R_leastOf 9 rfl) (by decide) (fun b1 => ?_) (fun b1 => ?_)
  · have H := H.1 b1
    refine ev_iload_n (i := 3) rfl rfl (a_dec_at dc_R_leastOf 28 rfl) ?_
    exact m_retI (a_dec_at dc_R_leastOf 29 rfl) rfl rfl H
  · have H := H.2 b1
    refine ev_iload_n (i := 2) rfl rfl (a_dec_at dc_R_leastOf 10 rfl) ?_
    refine ev_i2l (a_dec_at dc_R_leastOf 11 rfl) ?_
    refine ev_iload rfl (a_dec_at dc_R_leastOf 12 rfl) ?_
    refine cS2I cs_R_221 rfl (Nat.le_of_ble_eq_true rfl) (Nat.le_of_ble_eq_true rfl) (a_dec_at dc_R_leastOf 13 rfl) ?_
    refine CI.mono (fun x2 mi2 ml2 z2 H => ?_) H
    refine ev_if_eq (tgt := 45) (a_dec_at dc_R_leastOf 14 rfl) (by decide) (fun b3 => ?_) (fun b3 => ?_)
    · have H := H.1 b3
      refine ev_iinc (v := 1) rfl rfl (by decide) rfl (a_dec_at dc_R_leastOf 26 rfl) ?_
      refine ev_goto (tgt := 5) (a_dec_at dc_R_leastOf 27 rfl) (by decide) ?_
      exact Ev.drop (L' := [.ref 119, .int v1, .int v2, .int v3, .int (v4 + 1)]) (And.intro rfl (And.intro rfl (And.intro rfl (And.intro rfl (And.intro rfl trivial))))) H
    · have H := H.2 b3
      refine ev_iload_n (i := 3) rfl rfl (a_dec_at dc_R_leastOf 15 rfl) ?_
      refine ev_iconst (v := (-1)) rfl (a_dec_at dc_R_leastOf 16 rfl) ?_
      refine ev_icmp_eq (tgt := 42) (a_dec_at dc_R_leastOf 17 rfl) (by decide) (fun b4 => ?_) (fun b4 => ?_)
      · have H := H.1 b4
        refine ev_iload rfl (a_dec_at dc_R_leastOf 24 rfl) ?_
        refine ev_istore_n (i := 3) rfl (by decide) rfl (a_dec_at dc_R_leastOf 25 rfl) ?_
        refine ev_iinc (v := 1) rfl rfl (by decide) rfl (a_dec_at dc_R_leastOf 26 rfl) ?_
        refine ev_goto (tgt := 5) (a_dec_at dc_R_leastOf 27 rfl) (by decide) ?_
        exact Ev.drop (L' := [.ref 119, .int v1, .int v2, .int v4, .int (v4 + 1)]) (And.intro rfl (And.intro rfl (And.intro rfl (And.intro rfl (And.intro rfl trivial))))) H
      · have H := H.2 b4
        refine ev_aload_n (i := 0) rfl rfl (a_dec_at dc_R_leastOf 18 rfl) ?_
        refine ev_iload_n (i := 1) rfl rfl (a_dec_at dc_R_leastOf 19 rfl) ?_
        refine ev_iload_n (i := 3) rfl rfl (a_dec_at dc_R_leastOf 20 rfl) ?_
        refine ev_iload rfl (a_dec_at dc_R_leastOf 21 rfl) ?_
        refine cV3I cs_R_225 sh119 rfl (Nat.le_of_ble_eq_true rfl) (Nat.le_of_ble_eq_true rfl) (a_dec_at dc_R_leastOf 22 rfl) ?_
        refine CI.mono (fun x5 mi5 ml5 z5 H => ?_) H
        refine ev_if_eq (tgt := 45) (a_dec_at dc_R_leastOf 23 rfl) (by decide) (fun b6 => ?_) (fun b6 => ?_)
        · have H := H.1 b6
          refine ev_iinc (v := 1) rfl rfl (by decide) rfl (a_dec_at dc_R_leastOf 26 rfl) ?_
          refine ev_goto (tgt := 5) (a_dec_at dc_R_leastOf 27 rfl) (by decide) ?_
          exact Ev.drop (L' := [.ref 119, .int v1, .int v2, .int v3, .int (v4 + 1)]) (And.intro rfl (And.intro rfl (And.intro rfl (And.intro rfl (And.intro rfl trivial))))) H
        · have H := H.2 b6
          refine ev_iload rfl (a_dec_at dc_R_leastOf 24 rfl) ?_
          refine ev_istore_n (i := 3) rfl (by decide) rfl (a_dec_at dc_R_leastOf 25 rfl) ?_
          refine ev_iinc (v := 1) rfl rfl (by decide) rfl (a_dec_at dc_R_leastOf 26 rfl) ?_
          refine ev_goto (tgt := 5) (a_dec_at dc_R_leastOf 27 rfl) (by decide) ?_
          exact Ev.drop (L' := [.ref 119, .int v1, .int v2, .int v4, .int (v4 + 1)]) (And.intro rfl (And.intro rfl (And.intro rfl (And.intro rfl (And.intro rfl trivial))))) H
set_option maxRecDepth 20000 in
theorem t_R_takesMore {l : Launch} {h : Nat} (mi : TMi) (ml : TMl) (z : Nat) (a1 : Int32) (a2 : Int32) (a3 : Int32) {Q : Int32 → TMi → TMl → Nat → Prop} (H : (vp_in ((4 * a2) + a1) 24) ∧ (vp_in ((4 * a3) + a1) 24) ∧ ((0 < ((mi 127 (((4 * a2) + a1).toNatClampNeg)) - (mi 127 (((4 * a3) + a1).toNatClampNeg))) → Q 1 mi ml z) ∧ (¬ 0 < ((mi 127 (((4 * a2) + a1).toNatClampNeg)) - (mi 127 (((4 * a3) + a1).toNatClampNeg))) → ((¬ ((mi 127 (((4 * a2) + a1).toNatClampNeg)) - (mi 127 (((4 * a3) + a1).toNatClampNeg))) = 0 → Q 0 mi ml z) ∧ (((mi 127 (((4 * a2) + a1).toNatClampNeg)) - (mi 127 (((4 * a3) + a1).toNatClampNeg))) = 0 → ((a3 ≤ a2 → Q 0 mi ml z) ∧ (¬ a3 ≤ a2 → Q 1 mi ml z))))))) : CI l (h + 1) m_R_takesMore [.ref 119, .int a1, .int a2, .int a3] mi ml z Q := by
  show Ev l (h + 1) m_R_takesMore 0 ([.ref 119, .int a1, .int a2, .int a3, .retAddr 0], [], st mi ml z) (qI Q)
  refine ev_aload_n (i := 0) rfl rfl (a_dec_at dc_R_takesMore 0 rfl) ?_
  refine m_getR (y := 127) fl_R_39 rfl sh119 (mr_119_18 _) (by decide) (a_dec_at dc_R_takesMore 1 rfl) ?_
  refine ev_iconst (v := 4) rfl (a_dec_at dc_R_takesMore 2 rfl) ?_
  refine ev_iload_n (i := 2) rfl rfl (a_dec_at dc_R_takesMore 3 rfl) ?_
  refine ev_imul (a_dec_at dc_R_takesMore 4 rfl) ?_
  refine ev_iload_n (i := 1) rfl rfl (a_dec_at dc_R_takesMore 5 rfl) ?_
  refine ev_iadd (a_dec_at dc_R_takesMore 6 rfl) ?_
  obtain ⟨c1, H⟩ := H
  refine w_iald (k := ((4 * a2) + a1).toNatClampNeg) sh127 c1 rfl (a_dec_at dc_R_takesMore 7 rfl) ?_
  refine ev_aload_n (i := 0) rfl rfl (a_dec_at dc_R_takesMore 8 rfl) ?_
  refine m_getR (y := 127) fl_R_39 rfl sh119 (mr_119_18 _) (by decide) (a_dec_at dc_R_takesMore 9 rfl) ?_
  refine ev_iconst (v := 4) rfl (a_dec_at dc_R_takesMore 10 rfl) ?_
  refine ev_iload_n (i := 3) rfl rfl (a_dec_at dc_R_takesMore 11 rfl) ?_
  refine ev_imul (a_dec_at dc_R_takesMore 12 rfl) ?_
  refine ev_iload_n (i := 1) rfl rfl (a_dec_at dc_R_takesMore 13 rfl) ?_
  refine ev_iadd (a_dec_at dc_R_takesMore 14 rfl) ?_
  obtain ⟨c2, H⟩ := H
  refine w_iald (k := ((4 * a3) + a1).toNatClampNeg) sh127 c2 rfl (a_dec_at dc_R_takesMore 15 rfl) ?_
  refine ev_isub (a_dec_at dc_R_takesMore 16 rfl) ?_
  refine ev_istore (by decide) rfl (a_dec_at dc_R_takesMore 17 rfl) ?_
  refine ev_iload rfl (a_dec_at dc_R_takesMore 18 rfl) ?_
  refine ev_if_gt (tgt := 38) (a_dec_at dc_R_takesMore 19 rfl) (by decide) (fun b3 => ?_) (fun b3 => ?_)
  · have H := H.1 b3
    refine ev_iconst (v := 1) rfl (a_dec_at dc_R_takesMore 25 rfl) ?_
    refine ev_goto (tgt := 43) (a_dec_at dc_R_takesMore 26 rfl) (by decide) ?_
    exact m_retI (a_dec_at dc_R_takesMore 28 rfl) rfl rfl H
  · have H := H.2 b3
    refine ev_iload rfl (a_dec_at dc_R_takesMore 20 rfl) ?_
    refine ev_if_ne (tgt := 42) (a_dec_at dc_R_takesMore 21 rfl) (by decide) (fun b4 => ?_) (fun b4 => ?_)
    · have H := H.1 b4
      refine ev_iconst (v := 0) rfl (a_dec_at dc_R_takesMore 27 rfl) ?_
      exact m_retI (a_dec_at dc_R_takesMore 28 rfl) rfl rfl H
    · have H := H.2 b4
      refine ev_iload_n (i := 2) rfl rfl (a_dec_at dc_R_takesMore 22 rfl) ?_
      refine ev_iload_n (i := 3) rfl rfl (a_dec_at dc_R_takesMore 23 rfl) ?_
      refine ev_icmp_ge (tgt := 42) (a_dec_at dc_R_takesMore 24 rfl) (by decide) (fun b5 => ?_) (fun b5 => ?_)
      · have H := H.1 b5
        refine ev_iconst (v := 0) rfl (a_dec_at dc_R_takesMore 27 rfl) ?_
        exact m_retI (a_dec_at dc_R_takesMore 28 rfl) rfl rfl H
      · have H := H.2 b5
        refine ev_iconst (v := 1) rfl (a_dec_at dc_R_takesMore 25 rfl) ?_
        refine ev_goto (tgt := 43) (a_dec_at dc_R_takesMore 26 rfl) (by decide) ?_
        exact m_retI (a_dec_at dc_R_takesMore 28 rfl) rfl rfl H
set_option maxRecDepth 20000 in
theorem t_R_likes {l : Launch} {h : Nat} (mi : TMi) (ml : TMl) (z : Nat) (a1 : Int32) (a2 : Int32) {Q : Int32 → TMi → TMl → Nat → Prop} (H : CI l h m_R_isBeck [.ref 119, .long a1.toInt64] (up mi 119 0 0) ml z (fun x1 mi1 ml1 z1 => ((x1 = 0 → Q (-99000002) mi1 ml1 z1) ∧ (¬ x1 = 0 → CI l h m_R_isRiver [.ref 119, .long a2.toInt64] mi1 ml1 z1 (fun x3 mi3 ml3 z3 => ((x3 = 0 → Q (-99000002) mi3 ml3 z3) ∧ (¬ x3 = 0 → CI l h m_R_reckons [.ref 119, .int 0, .int a1, .int a2] mi3 ml3 z3 (fun x5 mi5 ml5 z5 => Q x5 mi5 ml5 z5)))))))) : CI l (h + 1) m_R_likes [.ref 119, .int a1, .int a2] mi ml z Q := by
  show Ev l (h + 1) m_R_likes 0 ([.ref 119, .int a1, .int a2], [], st mi ml z) (qI Q)
  refine ev_aload_n (i := 0) rfl rfl (a_dec_at dc_R_likes 0 rfl) ?_
  refine ev_iconst (v := 0) rfl (a_dec_at dc_R_likes 1 rfl) ?_
  refine m_putI fl_R_1 rfl (fun _ _ _ h => by cases h; exact Or.inl rfl) sh119 (a_dec_at dc_R_likes 2 rfl) ?_
  refine ev_aload_n (i := 0) rfl rfl (a_dec_at dc_R_likes 3 rfl) ?_
  refine ev_iload_n (i := 1) rfl rfl (a_dec_at dc_R_likes 4 rfl) ?_
  refine ev_i2l (a_dec_at dc_R_likes 5 rfl) ?_
  refine cV1I cs_R_233 sh119 rfl (Nat.le_of_ble_eq_true rfl) (Nat.le_of_ble_eq_true rfl) (a_dec_at dc_R_likes 6 rfl) ?_
  refine CI.mono (fun x1 mi1 ml1 z1 H => ?_) H
  refine ev_if_eq (tgt := 33) (a_dec_at dc_R_likes 7 rfl) (by decide) (fun b2 => ?_) (fun b2 => ?_)
  · have H := H.1 b2
    refine ev_ldc kc_R_255 (a_dec_at dc_R_likes 19 rfl) ?_
    exact m_retI (a_dec_at dc_R_likes 20 rfl) rfl rfl H
  · have H := H.2 b2
    refine ev_aload_n (i := 0) rfl rfl (a_dec_at dc_R_likes 8 rfl) ?_
    refine ev_iload_n (i := 2) rfl rfl (a_dec_at dc_R_likes 9 rfl) ?_
    refine ev_i2l (a_dec_at dc_R_likes 10 rfl) ?_
    refine cV1I cs_R_243 sh119 rfl (Nat.le_of_ble_eq_true rfl) (Nat.le_of_ble_eq_true rfl) (a_dec_at dc_R_likes 11 rfl) ?_
    refine CI.mono (fun x3 mi3 ml3 z3 H => ?_) H
    refine ev_if_eq (tgt := 33) (a_dec_at dc_R_likes 12 rfl) (by decide) (fun b4 => ?_) (fun b4 => ?_)
    · have H := H.1 b4
      refine ev_ldc kc_R_255 (a_dec_at dc_R_likes 19 rfl) ?_
      exact m_retI (a_dec_at dc_R_likes 20 rfl) rfl rfl H
    · have H := H.2 b4
      refine ev_aload_n (i := 0) rfl rfl (a_dec_at dc_R_likes 13 rfl) ?_
      refine ev_iconst (v := 0) rfl (a_dec_at dc_R_likes 14 rfl) ?_
      refine ev_iload_n (i := 1) rfl rfl (a_dec_at dc_R_likes 15 rfl) ?_
      refine ev_iload_n (i := 2) rfl rfl (a_dec_at dc_R_likes 16 rfl) ?_
      refine cV3I cs_R_218 sh119 rfl (Nat.le_of_ble_eq_true rfl) (Nat.le_of_ble_eq_true rfl) (a_dec_at dc_R_likes 17 rfl) ?_
      refine CI.mono (fun x5 mi5 ml5 z5 H => ?_) H
      refine ev_goto (tgt := 35) (a_dec_at dc_R_likes 18 rfl) (by decide) ?_
      exact m_retI (a_dec_at dc_R_likes 20 rfl) rfl rfl H
set_option maxRecDepth 20000 in
theorem t_R_takes {l : Launch} {h : Nat} (mi : TMi) (ml : TMl) (z : Nat) (a1 : Int32) (a2 : Int32) {Q : Int32 → TMi → TMl → Nat → Prop} (H : CI l h m_R_isBeck [.ref 119, .long a2.toInt64] (up mi 119 0 0) ml z (fun x1 mi1 ml1 z1 => ((x1 = 0 → Q (-99000002) mi1 ml1 z1) ∧ (¬ x1 = 0 → CI l h m_R_isRiver [.ref 119, .long a1.toInt64] mi1 ml1 z1 (fun x3 mi3 ml3 z3 => ((x3 = 0 → Q (-99000002) mi3 ml3 z3) ∧ (¬ x3 = 0 → CI l h m_R_reckons [.ref 119, .int 1, .int a2, .int a1] mi3 ml3 z3 (fun x5 mi5 ml5 z5 => Q x5 mi5 ml5 z5)))))))) : CI l (h + 1) m_R_takes [.ref 119, .int a1, .int a2] mi ml z Q := by
  show Ev l (h + 1) m_R_takes 0 ([.ref 119, .int a1, .int a2], [], st mi ml z) (qI Q)
  refine ev_aload_n (i := 0) rfl rfl (a_dec_at dc_R_takes 0 rfl) ?_
  refine ev_iconst (v := 0) rfl (a_dec_at dc_R_takes 1 rfl) ?_
  refine m_putI fl_R_1 rfl (fun _ _ _ h => by cases h; exact Or.inl rfl) sh119 (a_dec_at dc_R_takes 2 rfl) ?_
  refine ev_aload_n (i := 0) rfl rfl (a_dec_at dc_R_takes 3 rfl) ?_
  refine ev_iload_n (i := 2) rfl rfl (a_dec_at dc_R_takes 4 rfl) ?_
  refine ev_i2l (a_dec_at dc_R_takes 5 rfl) ?_
  refine cV1I cs_R_233 sh119 rfl (Nat.le_of_ble_eq_true rfl) (Nat.le_of_ble_eq_true rfl) (a_dec_at dc_R_takes 6 rfl) ?_
  refine CI.mono (fun x1 mi1 ml1 z1 H => ?_) H
  refine ev_if_eq (tgt := 33) (a_dec_at dc_R_takes 7 rfl) (by decide) (fun b2 => ?_) (fun b2 => ?_)
  · have H := H.1 b2
    refine ev_ldc kc_R_255 (a_dec_at dc_R_takes 19 rfl) ?_
    exact m_retI (a_dec_at dc_R_takes 20 rfl) rfl rfl H
  · have H := H.2 b2
    refine ev_aload_n (i := 0) rfl rfl (a_dec_at dc_R_takes 8 rfl) ?_
    refine ev_iload_n (i := 1) rfl rfl (a_dec_at dc_R_takes 9 rfl) ?_
    refine ev_i2l (a_dec_at dc_R_takes 10 rfl) ?_
    refine cV1I cs_R_243 sh119 rfl (Nat.le_of_ble_eq_true rfl) (Nat.le_of_ble_eq_true rfl) (a_dec_at dc_R_takes 11 rfl) ?_
    refine CI.mono (fun x3 mi3 ml3 z3 H => ?_) H
    refine ev_if_eq (tgt := 33) (a_dec_at dc_R_takes 12 rfl) (by decide) (fun b4 => ?_) (fun b4 => ?_)
    · have H := H.1 b4
      refine ev_ldc kc_R_255 (a_dec_at dc_R_takes 19 rfl) ?_
      exact m_retI (a_dec_at dc_R_takes 20 rfl) rfl rfl H
    · have H := H.2 b4
      refine ev_aload_n (i := 0) rfl rfl (a_dec_at dc_R_takes 13 rfl) ?_
      refine ev_iconst (v := 1) rfl (a_dec_at dc_R_takes 14 rfl) ?_
      refine ev_iload_n (i := 2) rfl rfl (a_dec_at dc_R_takes 15 rfl) ?_
      refine ev_iload_n (i := 1) rfl rfl (a_dec_at dc_R_takes 16 rfl) ?_
      refine cV3I cs_R_218 sh119 rfl (Nat.le_of_ble_eq_true rfl) (Nat.le_of_ble_eq_true rfl) (a_dec_at dc_R_takes 17 rfl) ?_
      refine CI.mono (fun x5 mi5 ml5 z5 H => ?_) H
      refine ev_goto (tgt := 35) (a_dec_at dc_R_takes 18 rfl) (by decide) ?_
      exact m_retI (a_dec_at dc_R_takes 20 rfl) rfl rfl H
set_option maxRecDepth 20000 in
theorem t_R_gifts {l : Launch} {h : Nat} (mi : TMi) (ml : TMl) (z : Nat) (a1 : Int32) (a2 : Int32) {Q : Int32 → TMi → TMl → Nat → Prop} (H : CI l h m_R_isBeck [.ref 119, .long a2.toInt64] (up mi 119 0 0) ml z (fun x1 mi1 ml1 z1 => ((x1 = 0 → Q (-2) mi1 ml1 z1) ∧ (¬ x1 = 0 → CI l h m_R_isRiver [.ref 119, .long a1.toInt64] mi1 ml1 z1 (fun x3 mi3 ml3 z3 => ((x3 = 0 → Q (-2) mi3 ml3 z3) ∧ (¬ x3 = 0 → CI l h m_R_giftAt [.ref 119, .int a1, .int a2] mi3 ml3 z3 (fun x5 mi5 ml5 z5 => (vp_in x5 4113) ∧ Q (mi5 120 x5.toNatClampNeg) mi5 ml5 z5)))))))) : CI l (h + 1) m_R_gifts [.ref 119, .int a1, .int a2] mi ml z Q := by
  show Ev l (h + 1) m_R_gifts 0 ([.ref 119, .int a1, .int a2], [], st mi ml z) (qI Q)
  refine ev_aload_n (i := 0) rfl rfl (a_dec_at dc_R_gifts 0 rfl) ?_
  refine ev_iconst (v := 0) rfl (a_dec_at dc_R_gifts 1 rfl) ?_
  refine m_putI fl_R_1 rfl (fun _ _ _ h => by cases h; exact Or.inl rfl) sh119 (a_dec_at dc_R_gifts 2 rfl) ?_
  refine ev_aload_n (i := 0) rfl rfl (a_dec_at dc_R_gifts 3 rfl) ?_
  refine ev_iload_n (i := 2) rfl rfl (a_dec_at dc_R_gifts 4 rfl) ?_
  refine ev_i2l (a_dec_at dc_R_gifts 5 rfl) ?_
  refine cV1I cs_R_233 sh119 rfl (Nat.le_of_ble_eq_true rfl) (Nat.le_of_ble_eq_true rfl) (a_dec_at dc_R_gifts 6 rfl) ?_
  refine CI.mono (fun x1 mi1 ml1 z1 H => ?_) H
  refine ev_if_eq (tgt := 37) (a_dec_at dc_R_gifts 7 rfl) (by decide) (fun b2 => ?_) (fun b2 => ?_)
  · have H := H.1 b2
    refine ev_bipush (v := (-2)) rfl (a_dec_at dc_R_gifts 21 rfl) ?_
    exact m_retI (a_dec_at dc_R_gifts 22 rfl) rfl rfl H
  · have H := H.2 b2
    refine ev_aload_n (i := 0) rfl rfl (a_dec_at dc_R_gifts 8 rfl) ?_
    refine ev_iload_n (i := 1) rfl rfl (a_dec_at dc_R_gifts 9 rfl) ?_
    refine ev_i2l (a_dec_at dc_R_gifts 10 rfl) ?_
    refine cV1I cs_R_243 sh119 rfl (Nat.le_of_ble_eq_true rfl) (Nat.le_of_ble_eq_true rfl) (a_dec_at dc_R_gifts 11 rfl) ?_
    refine CI.mono (fun x3 mi3 ml3 z3 H => ?_) H
    refine ev_if_eq (tgt := 37) (a_dec_at dc_R_gifts 12 rfl) (by decide) (fun b4 => ?_) (fun b4 => ?_)
    · have H := H.1 b4
      refine ev_bipush (v := (-2)) rfl (a_dec_at dc_R_gifts 21 rfl) ?_
      exact m_retI (a_dec_at dc_R_gifts 22 rfl) rfl rfl H
    · have H := H.2 b4
      refine ev_aload_n (i := 0) rfl rfl (a_dec_at dc_R_gifts 13 rfl) ?_
      refine m_getR (y := 120) fl_R_13 rfl sh119 (mr_119_1 _) (by decide) (a_dec_at dc_R_gifts 14 rfl) ?_
      refine ev_aload_n (i := 0) rfl rfl (a_dec_at dc_R_gifts 15 rfl) ?_
      refine ev_iload_n (i := 1) rfl rfl (a_dec_at dc_R_gifts 16 rfl) ?_
      refine ev_iload_n (i := 2) rfl rfl (a_dec_at dc_R_gifts 17 rfl) ?_
      refine cV2I cs_R_211 sh119 rfl (Nat.le_of_ble_eq_true rfl) (Nat.le_of_ble_eq_true rfl) (a_dec_at dc_R_gifts 18 rfl) ?_
      refine CI.mono (fun x5 mi5 ml5 z5 H => ?_) H
      obtain ⟨c6, H⟩ := H
      refine w_iald (k := x5.toNatClampNeg) sh120 c6 rfl (a_dec_at dc_R_gifts 19 rfl) ?_
      refine ev_goto (tgt := 39) (a_dec_at dc_R_gifts 20 rfl) (by decide) ?_
      exact m_retI (a_dec_at dc_R_gifts 22 rfl) rfl rfl H
set_option maxRecDepth 20000 in
theorem t_R_declare {l : Launch} {h : Nat} (mi : TMi) (ml : TMl) (z : Nat) (a1 : Int32) (a2 : Int32) {Q : Int32 → TMi → TMl → Nat → Prop} (H : CI l h m_R_whyDeclare [.ref 119, .long a1.toInt64, .long a2.toInt64] (up mi 119 0 0) ml z (fun x1 mi1 ml1 z1 => ((x1 = 0 → CV l h m_R_keeps [.ref 119] mi1 ml1 z1 (fun mi3 ml3 z3 => CV l h m_R_declares [.ref 119, .int a1, .int a2] mi3 ml3 z3 (fun mi4 ml4 z4 => CV l h m_R_notes [.ref 119] mi4 ml4 z4 (fun mi5 ml5 z5 => Q (mi5 119 20) mi5 ml5 z5)))) ∧ (¬ x1 = 0 → Q ((-10) - x1) mi1 ml1 z1)))) : CI l (h + 1) m_R_declare [.ref 119, .int a1, .int a2] mi ml z Q := by
  show Ev l (h + 1) m_R_declare 0 ([.ref 119, .int a1, .int a2, .retAddr 0], [], st mi ml z) (qI Q)
  refine ev_aload_n (i := 0) rfl rfl (a_dec_at dc_R_declare 0 rfl) ?_
  refine ev_iconst (v := 0) rfl (a_dec_at dc_R_declare 1 rfl) ?_
  refine m_putI fl_R_1 rfl (fun _ _ _ h => by cases h; exact Or.inl rfl) sh119 (a_dec_at dc_R_declare 2 rfl) ?_
  refine ev_aload_n (i := 0) rfl rfl (a_dec_at dc_R_declare 3 rfl) ?_
  refine ev_iload_n (i := 1) rfl rfl (a_dec_at dc_R_declare 4 rfl) ?_
  refine ev_i2l (a_dec_at dc_R_declare 5 rfl) ?_
  refine ev_iload_n (i := 2) rfl rfl (a_dec_at dc_R_declare 6 rfl) ?_
  refine ev_i2l (a_dec_at dc_R_declare 7 rfl) ?_
  refine cV2I cs_R_267 sh119 rfl (Nat.le_of_ble_eq_true rfl) (Nat.le_of_ble_eq_true rfl) (a_dec_at dc_R_declare 8 rfl) ?_
  refine CI.mono (fun x1 mi1 ml1 z1 H => ?_) H
  refine ev_istore_n (i := 3) rfl (by decide) rfl (a_dec_at dc_R_declare 9 rfl) ?_
  refine ev_iload_n (i := 3) rfl rfl (a_dec_at dc_R_declare 10 rfl) ?_
  refine ev_if_eq (tgt := 23) (a_dec_at dc_R_declare 11 rfl) (by decide) (fun b2 => ?_) (fun b2 => ?_)
  · have H := H.1 b2
    refine ev_aload_n (i := 0) rfl rfl (a_dec_at dc_R_declare 16 rfl) ?_
    refine cV0V cs_R_271 sh119 rfl (Nat.le_of_ble_eq_true rfl) (Nat.le_of_ble_eq_true rfl) (a_dec_at dc_R_declare 17 rfl) ?_
    refine CV.mono (fun mi3 ml3 z3 H => ?_) H
    refine ev_aload_n (i := 0) rfl rfl (a_dec_at dc_R_declare 18 rfl) ?_
    refine ev_iload_n (i := 1) rfl rfl (a_dec_at dc_R_declare 19 rfl) ?_
    refine ev_iload_n (i := 2) rfl rfl (a_dec_at dc_R_declare 20 rfl) ?_
    refine cV2V cs_R_274 sh119 rfl (Nat.le_of_ble_eq_true rfl) (Nat.le_of_ble_eq_true rfl) (a_dec_at dc_R_declare 21 rfl) ?_
    refine CV.mono (fun mi4 ml4 z4 H => ?_) H
    refine ev_aload_n (i := 0) rfl rfl (a_dec_at dc_R_declare 22 rfl) ?_
    refine cV0V cs_R_278 sh119 rfl (Nat.le_of_ble_eq_true rfl) (Nat.le_of_ble_eq_true rfl) (a_dec_at dc_R_declare 23 rfl) ?_
    refine CV.mono (fun mi5 ml5 z5 H => ?_) H
    refine ev_aload_n (i := 0) rfl rfl (a_dec_at dc_R_declare 24 rfl) ?_
    refine m_getI fl_R_261 rfl sh119 (a_dec_at dc_R_declare 25 rfl) ?_
    exact m_retI (a_dec_at dc_R_declare 26 rfl) rfl rfl H
  · have H := H.2 b2
    refine ev_bipush (v := (-10)) rfl (a_dec_at dc_R_declare 12 rfl) ?_
    refine ev_iload_n (i := 3) rfl rfl (a_dec_at dc_R_declare 13 rfl) ?_
    refine ev_isub (a_dec_at dc_R_declare 14 rfl) ?_
    exact m_retI (a_dec_at dc_R_declare 15 rfl) rfl rfl H
set_option maxRecDepth 20000 in
theorem t_R_whyDeclare {l : Launch} {h : Nat} (mi : TMi) (ml : TMl) (z : Nat) (a1 : Int64) (a2 : Int64) {Q : Int32 → TMi → TMl → Nat → Prop} (H : CI l h m_R_isBeck [.ref 119, .long a1] mi ml z (fun x1 mi1 ml1 z1 => ((x1 = 0 → Q 1 mi1 ml1 z1) ∧ (¬ x1 = 0 → CI l h m_R_isRiver [.ref 119, .long a2] mi1 ml1 z1 (fun x3 mi3 ml3 z3 => ((¬ x3 = 0 → (vp_in (29 + a1.toInt32) 4113) ∧ ((¬ (mi3 120 ((29 + a1.toInt32).toNatClampNeg)) = a2.toInt32 → CV l h m_R_laysLikes [.ref 119] mi3 ml3 z3 (fun mi7 ml7 z7 => CI l h m_R_wouldBoth [.ref 119, .int a1.toInt32, .int a2.toInt32] mi7 ml7 z7 (fun x8 mi8 ml8 z8 => ((¬ x8 = 0 → CI l h m_R_becksIn [.ref 119, .int a2.toInt32] mi8 ml8 z8 (fun x10 mi10 ml10 z10 => CI l h m_R_bitsOf [.int x10] mi10 ml10 z10 (fun x11 mi11 ml11 z11 => (vp_in (41 + a2.toInt32) 4113) ∧ (((mi11 120 ((41 + a2.toInt32).toNatClampNeg)) ≤ x11 → ((x10 = 0 → Q 4 mi11 ml11 z11) ∧ (¬ x10 = 0 → CI l h m_R_leastOf [.ref 119, .int a2.toInt32, .int x10] mi11 ml11 z11 (fun x15 mi15 ml15 z15 => CI l h m_R_takesMore [.ref 119, .int a2.toInt32, .int a1.toInt32, .int x15] mi15 ml15 z15 (fun x16 mi16 ml16 z16 => ((¬ x16 = 0 → Q 0 mi16 ml16 z16) ∧ (x16 = 0 → Q 4 mi16 ml16 z16))))))) ∧ (¬ (mi11 120 ((41 + a2.toInt32).toNatClampNeg)) ≤ x11 → Q 0 mi11 ml11 z11))))) ∧ (x8 = 0 → Q 3 mi8 ml8 z8))))) ∧ ((mi3 120 ((29 + a1.toInt32).toNatClampNeg)) = a2.toInt32 → Q 2 mi3 ml3 z3))) ∧ (x3 = 0 → Q 1 mi3 ml3 z3))))))) : CI l (h + 1) m_R_whyDeclare [.ref 119, .long a1, .long a2] mi ml z Q := by
  show Ev l (h + 1) m_R_whyDeclare 0 ([.ref 119, .long a1, .retAddr 0, .long a2, .retAddr 0, .retAddr 0, .retAddr 0, .retAddr 0], [], st mi ml z) (qI Q)
  refine ev_aload_n (i := 0) rfl rfl (a_dec_at dc_R_whyDeclare 0 rfl) ?_
  refine ev_lload_n (i := 1) rfl rfl (a_dec_at dc_R_whyDeclare 1 rfl) ?_
  refine cV1I cs_R_233 sh119 rfl (Nat.le_of_ble_eq_true rfl) (Nat.le_of_ble_eq_true rfl) (a_dec_at dc_R_whyDeclare 2 rfl) ?_
  refine CI.mono (fun x1 mi1 ml1 z1 H => ?_) H
  refine ev_if_eq (tgt := 16) (a_dec_at dc_R_whyDeclare 3 rfl) (by decide) (fun b2 => ?_) (fun b2 => ?_)
  · have H := H.1 b2
    refine ev_iconst (v := 1) rfl (a_dec_at dc_R_whyDeclare 8 rfl) ?_
    exact m_retI (a_dec_at dc_R_whyDeclare 9 rfl) rfl rfl H
  · have H := H.2 b2
    refine ev_aload_n (i := 0) rfl rfl (a_dec_at dc_R_whyDeclare 4 rfl) ?_
    refine ev_lload_n (i := 3) rfl rfl (a_dec_at dc_R_whyDeclare 5 rfl) ?_
    refine cV1I cs_R_243 sh119 rfl (Nat.le_of_ble_eq_true rfl) (Nat.le_of_ble_eq_true rfl) (a_dec_at dc_R_whyDeclare 6 rfl) ?_
    refine CI.mono (fun x3 mi3 ml3 z3 H => ?_) H
    refine ev_if_ne (tgt := 18) (a_dec_at dc_R_whyDeclare 7 rfl) (by decide) (fun b4 => ?_) (fun b4 => ?_)
    · have H := H.1 b4
      refine ev_lload_n (i := 1) rfl rfl (a_dec_at dc_R_whyDeclare 10 rfl) ?_
      refine ev_l2i (a_dec_at dc_R_whyDeclare 11 rfl) ?_
      refine ev_istore (by decide) rfl (a_dec_at dc_R_whyDeclare 12 rfl) ?_
      refine ev_lload_n (i := 3) rfl rfl (a_dec_at dc_R_whyDeclare 13 rfl) ?_
      refine ev_l2i (a_dec_at dc_R_whyDeclare 14 rfl) ?_
      refine ev_istore (by decide) rfl (a_dec_at dc_R_whyDeclare 15 rfl) ?_
      refine ev_aload_n (i := 0) rfl rfl (a_dec_at dc_R_whyDeclare 16 rfl) ?_
      refine m_getR (y := 120) fl_R_13 rfl sh119 (mr_119_1 _) (by decide) (a_dec_at dc_R_whyDeclare 17 rfl) ?_
      refine ev_bipush (v := 29) rfl (a_dec_at dc_R_whyDeclare 18 rfl) ?_
      refine ev_iload rfl (a_dec_at dc_R_whyDeclare 19 rfl) ?_
      refine ev_iadd (a_dec_at dc_R_whyDeclare 20 rfl) ?_
      obtain ⟨c5, H⟩ := H
      refine w_iald (k := (29 + a1.toInt32).toNatClampNeg) sh120 c5 rfl (a_dec_at dc_R_whyDeclare 21 rfl) ?_
      refine ev_iload rfl (a_dec_at dc_R_whyDeclare 22 rfl) ?_
      refine ev_icmp_ne (tgt := 43) (a_dec_at dc_R_whyDeclare 23 rfl) (by decide) (fun b6 => ?_) (fun b6 => ?_)
      · have H := H.1 b6
        refine ev_aload_n (i := 0) rfl rfl (a_dec_at dc_R_whyDeclare 26 rfl) ?_
        refine cV0V cs_R_237 sh119 rfl (Nat.le_of_ble_eq_true rfl) (Nat.le_of_ble_eq_true rfl) (a_dec_at dc_R_whyDeclare 27 rfl) ?_
        refine CV.mono (fun mi7 ml7 z7 H => ?_) H
        refine ev_aload_n (i := 0) rfl rfl (a_dec_at dc_R_whyDeclare 28 rfl) ?_
        refine ev_iload rfl (a_dec_at dc_R_whyDeclare 29 rfl) ?_
        refine ev_iload rfl (a_dec_at dc_R_whyDeclare 30 rfl) ?_
        refine cV2I cs_R_229 sh119 rfl (Nat.le_of_ble_eq_true rfl) (Nat.le_of_ble_eq_true rfl) (a_dec_at dc_R_whyDeclare 31 rfl) ?_
        refine CI.mono (fun x8 mi8 ml8 z8 H => ?_) H
        refine ev_if_ne (tgt := 60) (a_dec_at dc_R_whyDeclare 32 rfl) (by decide) (fun b9 => ?_) (fun b9 => ?_)
        · have H := H.1 b9
          refine ev_aload_n (i := 0) rfl rfl (a_dec_at dc_R_whyDeclare 35 rfl) ?_
          refine ev_iload rfl (a_dec_at dc_R_whyDeclare 36 rfl) ?_
          refine cV1I cs_R_246 sh119 rfl (Nat.le_of_ble_eq_true rfl) (Nat.le_of_ble_eq_true rfl) (a_dec_at dc_R_whyDeclare 37 rfl) ?_
          refine CI.mono (fun x10 mi10 ml10 z10 H => ?_) H
          refine ev_istore (by decide) rfl (a_dec_at dc_R_whyDeclare 38 rfl) ?_
          refine ev_iload rfl (a_dec_at dc_R_whyDeclare 39 rfl) ?_
          refine cS1I cs_R_256 rfl (Nat.le_of_ble_eq_true rfl) (Nat.le_of_ble_eq_true rfl) (a_dec_at dc_R_whyDeclare 40 rfl) ?_
          refine CI.mono (fun x11 mi11 ml11 z11 H => ?_) H
          refine ev_aload_n (i := 0) rfl rfl (a_dec_at dc_R_whyDeclare 41 rfl) ?_
          refine m_getR (y := 120) fl_R_13 rfl sh119 (mr_119_1 _) (by decide) (a_dec_at dc_R_whyDeclare 42 rfl) ?_
          refine ev_bipush (v := 41) rfl (a_dec_at dc_R_whyDeclare 43 rfl) ?_
          refine ev_iload rfl (a_dec_at dc_R_whyDeclare 44 rfl) ?_
          refine ev_iadd (a_dec_at dc_R_whyDeclare 45 rfl) ?_
          obtain ⟨c12, H⟩ := H
          refine w_iald (k := (41 + a2.toInt32).toNatClampNeg) sh120 c12 rfl (a_dec_at dc_R_whyDeclare 46 rfl) ?_
          refine ev_icmp_ge (tgt := 88) (a_dec_at dc_R_whyDeclare 47 rfl) (by decide) (fun b13 => ?_) (fun b13 => ?_)
          · have H := H.1 b13
            refine ev_iload rfl (a_dec_at dc_R_whyDeclare 50 rfl) ?_
            refine ev_if_eq (tgt := 112) (a_dec_at dc_R_whyDeclare 51 rfl) (by decide) (fun b14 => ?_) (fun b14 => ?_)
            · have H := H.1 b14
              refine ev_iconst (v := 4) rfl (a_dec_at dc_R_whyDeclare 61 rfl) ?_
              refine ev_goto (tgt := 117) (a_dec_at dc_R_whyDeclare 62 rfl) (by decide) ?_
              exact m_retI (a_dec_at dc_R_whyDeclare 64 rfl) rfl rfl H
            · have H := H.2 b14
              refine ev_aload_n (i := 0) rfl rfl (a_dec_at dc_R_whyDeclare 52 rfl) ?_
              refine ev_iload rfl (a_dec_at dc_R_whyDeclare 53 rfl) ?_
              refine ev_iload rfl (a_dec_at dc_R_whyDeclare 54 rfl) ?_
              refine ev_aload_n (i := 0) rfl rfl (a_dec_at dc_R_whyDeclare 55 rfl) ?_
              refine ev_iload rfl (a_dec_at dc_R_whyDeclare 56 rfl) ?_
              refine ev_iload rfl (a_dec_at dc_R_whyDeclare 57 rfl) ?_
              refine cV2I cs_R_252 sh119 rfl (Nat.le_of_ble_eq_true rfl) (Nat.le_of_ble_eq_true rfl) (a_dec_at dc_R_whyDeclare 58 rfl) ?_
              refine CI.mono (fun x15 mi15 ml15 z15 H => ?_) H
              refine cV3I cs_R_225 sh119 rfl (Nat.le_of_ble_eq_true rfl) (Nat.le_of_ble_eq_true rfl) (a_dec_at dc_R_whyDeclare 59 rfl) ?_
              refine CI.mono (fun x16 mi16 ml16 z16 H => ?_) H
              refine ev_if_ne (tgt := 116) (a_dec_at dc_R_whyDeclare 60 rfl) (by decide) (fun b17 => ?_) (fun b17 => ?_)
              · have H := H.1 b17
                refine ev_iconst (v := 0) rfl (a_dec_at dc_R_whyDeclare 63 rfl) ?_
                exact m_retI (a_dec_at dc_R_whyDeclare 64 rfl) rfl rfl H
              · have H := H.2 b17
                refine ev_iconst (v := 4) rfl (a_dec_at dc_R_whyDeclare 61 rfl) ?_
                refine ev_goto (tgt := 117) (a_dec_at dc_R_whyDeclare 62 rfl) (by decide) ?_
                exact m_retI (a_dec_at dc_R_whyDeclare 64 rfl) rfl rfl H
          · have H := H.2 b13
            refine ev_iconst (v := 0) rfl (a_dec_at dc_R_whyDeclare 48 rfl) ?_
            exact m_retI (a_dec_at dc_R_whyDeclare 49 rfl) rfl rfl H
        · have H := H.2 b9
          refine ev_iconst (v := 3) rfl (a_dec_at dc_R_whyDeclare 33 rfl) ?_
          exact m_retI (a_dec_at dc_R_whyDeclare 34 rfl) rfl rfl H
      · have H := H.2 b6
        refine ev_iconst (v := 2) rfl (a_dec_at dc_R_whyDeclare 24 rfl) ?_
        exact m_retI (a_dec_at dc_R_whyDeclare 25 rfl) rfl rfl H
    · have H := H.2 b4
      refine ev_iconst (v := 1) rfl (a_dec_at dc_R_whyDeclare 8 rfl) ?_
      exact m_retI (a_dec_at dc_R_whyDeclare 9 rfl) rfl rfl H
set_option maxRecDepth 20000 in
theorem t_R_bitsOf {l : Launch} {h : Nat} (mi : TMi) (ml : TMl) (z : Nat) (a1 : Int32) {Q : Int32 → TMi → TMl → Nat → Prop} (H : Ev l (h + 1) m_R_bitsOf 4 ([.int a1, .int 0, .int 0], [], st mi ml z) (qI Q)) : CI l (h + 1) m_R_bitsOf [.int a1] mi ml z Q := by
  show Ev l (h + 1) m_R_bitsOf 0 ([.int a1, .retAddr 0, .retAddr 0], [], st mi ml z) (qI Q)
  refine ev_iconst (v := 0) rfl (a_dec_at dc_R_bitsOf 0 rfl) ?_
  refine ev_istore_n (i := 1) rfl (by decide) rfl (a_dec_at dc_R_bitsOf 1 rfl) ?_
  refine ev_iconst (v := 0) rfl (a_dec_at dc_R_bitsOf 2 rfl) ?_
  refine ev_istore_n (i := 2) rfl (by decide) rfl (a_dec_at dc_R_bitsOf 3 rfl) ?_
  exact Ev.drop (L' := [.int a1, .int 0, .int 0]) (And.intro rfl (And.intro rfl (And.intro rfl trivial))) H
set_option maxRecDepth 20000 in
theorem t_R_bitsOf_4 {l : Launch} {h : Nat} (mi : TMi) (ml : TMl) (z : Nat) (v0 : Int32) (v1 : Int32) (v2 : Int32) {Q : Int32 → TMi → TMl → Nat → Prop} (H : ((6 ≤ v2 → Q v1 mi ml z) ∧ (¬ 6 ≤ v2 → Ev l (h + 1) m_R_bitsOf 4 ([.int v0, .int (v1 + ((v0 >>> (v2 &&& 31)) &&& 1)), .int (v2 + 1)], [], st mi ml z) (qI Q)))) : Ev l (h + 1) m_R_bitsOf 4 ([.int v0, .int v1, .int v2], [], st mi ml z) (qI Q) := by
  refine ev_iload_n (i := 2) rfl rfl (a_dec_at dc_R_bitsOf 4 rfl) ?_
  refine ev_bipush (v := 6) rfl (a_dec_at dc_R_bitsOf 5 rfl) ?_
  refine ev_icmp_ge (tgt := 24) (a_dec_at dc_R_bitsOf 6 rfl) (by decide) (fun b1 => ?_) (fun b1 => ?_)
  · have H := H.1 b1
    refine ev_iload_n (i := 1) rfl rfl (a_dec_at dc_R_bitsOf 17 rfl) ?_
    exact m_retI (a_dec_at dc_R_bitsOf 18 rfl) rfl rfl H
  · have H := H.2 b1
    refine ev_iload_n (i := 1) rfl rfl (a_dec_at dc_R_bitsOf 7 rfl) ?_
    refine ev_iload_n (i := 0) rfl rfl (a_dec_at dc_R_bitsOf 8 rfl) ?_
    refine ev_iload_n (i := 2) rfl rfl (a_dec_at dc_R_bitsOf 9 rfl) ?_
    refine ev_ishr (a_dec_at dc_R_bitsOf 10 rfl) ?_
    refine ev_iconst (v := 1) rfl (a_dec_at dc_R_bitsOf 11 rfl) ?_
    refine ev_iand (a_dec_at dc_R_bitsOf 12 rfl) ?_
    refine ev_iadd (a_dec_at dc_R_bitsOf 13 rfl) ?_
    refine ev_istore_n (i := 1) rfl (by decide) rfl (a_dec_at dc_R_bitsOf 14 rfl) ?_
    refine ev_iinc (v := 1) rfl rfl (by decide) rfl (a_dec_at dc_R_bitsOf 15 rfl) ?_
    refine ev_goto (tgt := 4) (a_dec_at dc_R_bitsOf 16 rfl) (by decide) ?_
    exact Ev.drop (L' := [.int v0, .int (v1 + ((v0 >>> (v2 &&& 31)) &&& 1)), .int (v2 + 1)]) (And.intro rfl (And.intro rfl (And.intro rfl trivial))) H
set_option maxRecDepth 20000 in
theorem t_R_keeps {l : Launch} {h : Nat} (mi : TMi) (ml : TMl) (z : Nat) {Q : TMi → TMl → Nat → Prop} (H : Ev l (h + 1) m_R_keeps 2 ([.ref 119, .int 0], [], st mi ml z) (qV Q)) : CV l (h + 1) m_R_keeps [.ref 119] mi ml z Q := by
  show Ev l (h + 1) m_R_keeps 0 ([.ref 119, .retAddr 0], [], st mi ml z) (qV Q)
  refine ev_iconst (v := 0) rfl (a_dec_at dc_R_keeps 0 rfl) ?_
  refine ev_istore_n (i := 1) rfl (by decide) rfl (a_dec_at dc_R_keeps 1 rfl) ?_
  exact Ev.drop (L' := [.ref 119, .int 0]) (And.intro rfl (And.intro rfl trivial)) H
set_option maxRecDepth 20000 in
theorem t_R_keeps_2 {l : Launch} {h : Nat} (mi : TMi) (ml : TMl) (z : Nat) (v1 : Int32) {Q : TMi → TMl → Nat → Prop} (H : ((40 ≤ v1 → Q mi ml z) ∧ (¬ 40 ≤ v1 → (vp_in (29 + v1) 4113) ∧ (vp_in v1 40) ∧ Ev l (h + 1) m_R_keeps 2 ([.ref 119, .int (v1 + 1)], [], st (up mi 128 v1.toNatClampNeg (mi 120 ((29 + v1).toNatClampNeg))) ml z) (qV Q)))) : Ev l (h + 1) m_R_keeps 2 ([.ref 119, .int v1], [], st mi ml z) (qV Q) := by
  refine ev_iload_n (i := 1) rfl rfl (a_dec_at dc_R_keeps 2 rfl) ?_
  refine ev_bipush (v := 40) rfl (a_dec_at dc_R_keeps 3 rfl) ?_
  refine ev_icmp_ge (tgt := 29) (a_dec_at dc_R_keeps 4 rfl) (by decide) (fun b1 => ?_) (fun b1 => ?_)
  · have H := H.1 b1
    exact m_retV (a_dec_at dc_R_keeps 17 rfl) rfl H
  · have H := H.2 b1
    refine ev_aload_n (i := 0) rfl rfl (a_dec_at dc_R_keeps 5 rfl) ?_
    refine m_getR (y := 128) fl_R_42 rfl sh119 (mr_119_19 _) (by decide) (a_dec_at dc_R_keeps 6 rfl) ?_
    refine ev_iload_n (i := 1) rfl rfl (a_dec_at dc_R_keeps 7 rfl) ?_
    refine ev_aload_n (i := 0) rfl rfl (a_dec_at dc_R_keeps 8 rfl) ?_
    refine m_getR (y := 120) fl_R_13 rfl sh119 (mr_119_1 _) (by decide) (a_dec_at dc_R_keeps 9 rfl) ?_
    refine ev_bipush (v := 29) rfl (a_dec_at dc_R_keeps 10 rfl) ?_
    refine ev_iload_n (i := 1) rfl rfl (a_dec_at dc_R_keeps 11 rfl) ?_
    refine ev_iadd (a_dec_at dc_R_keeps 12 rfl) ?_
    obtain ⟨c2, H⟩ := H
    refine w_iald (k := (29 + v1).toNatClampNeg) sh120 c2 rfl (a_dec_at dc_R_keeps 13 rfl) ?_
    obtain ⟨c3, H⟩ := H
    refine w_iast (k := v1.toNatClampNeg) sh128 c3 rfl (a_dec_at dc_R_keeps 14 rfl) ?_
    refine ev_iinc (v := 1) rfl rfl (by decide) rfl (a_dec_at dc_R_keeps 15 rfl) ?_
    refine ev_goto (tgt := 2) (a_dec_at dc_R_keeps 16 rfl) (by decide) ?_
    exact Ev.drop (L' := [.ref 119, .int (v1 + 1)]) (And.intro rfl (And.intro rfl trivial)) H
set_option maxRecDepth 20000 in
theorem t_R_declares {l : Launch} {h : Nat} (mi : TMi) (ml : TMl) (z : Nat) (a1 : Int32) (a2 : Int32) {Q : TMi → TMl → Nat → Prop} (H : (vp_in (29 + a1) 4113) ∧ CI l h m_R_pushes [.ref 119, .int a2] (up mi 120 ((29 + a1).toNatClampNeg) a2) ml z (fun x2 mi2 ml2 z2 => Q mi2 ml2 z2)) : CV l (h + 1) m_R_declares [.ref 119, .int a1, .int a2] mi ml z Q := by
  show Ev l (h + 1) m_R_declares 0 ([.ref 119, .int a1, .int a2], [], st mi ml z) (qV Q)
  refine ev_aload_n (i := 0) rfl rfl (a_dec_at dc_R_declares 0 rfl) ?_
  refine m_getR (y := 120) fl_R_13 rfl sh119 (mr_119_1 _) (by decide) (a_dec_at dc_R_declares 1 rfl) ?_
  refine ev_bipush (v := 29) rfl (a_dec_at dc_R_declares 2 rfl) ?_
  refine ev_iload_n (i := 1) rfl rfl (a_dec_at dc_R_declares 3 rfl) ?_
  refine ev_iadd (a_dec_at dc_R_declares 4 rfl) ?_
  refine ev_iload_n (i := 2) rfl rfl (a_dec_at dc_R_declares 5 rfl) ?_
  obtain ⟨c1, H⟩ := H
  refine w_iast (k := (29 + a1).toNatClampNeg) sh120 c1 rfl (a_dec_at dc_R_declares 6 rfl) ?_
  refine ev_aload_n (i := 0) rfl rfl (a_dec_at dc_R_declares 7 rfl) ?_
  refine ev_iload_n (i := 2) rfl rfl (a_dec_at dc_R_declares 8 rfl) ?_
  refine cV1I cs_R_264 sh119 rfl (Nat.le_of_ble_eq_true rfl) (Nat.le_of_ble_eq_true rfl) (a_dec_at dc_R_declares 9 rfl) ?_
  refine CI.mono (fun x2 mi2 ml2 z2 H => ?_) H
  refine ev_pop rfl (a_dec_at dc_R_declares 10 rfl) ?_
  exact m_retV (a_dec_at dc_R_declares 11 rfl) rfl H
set_option maxRecDepth 20000 in
theorem t_R_pushes {l : Launch} {h : Nat} (mi : TMi) (ml : TMl) (z : Nat) (a1 : Int32) {Q : Int32 → TMi → TMl → Nat → Prop} (H : CV l h m_R_laysLikes [.ref 119] mi ml z (fun mi1 ml1 z1 => Ev l (h + 1) m_R_pushes 11 ([.ref 119, .int a1, .int 0], [], st (up mi1 119 20 (-1)) ml1 z1) (qI Q))) : CI l (h + 1) m_R_pushes [.ref 119, .int a1] mi ml z Q := by
  show Ev l (h + 1) m_R_pushes 0 ([.ref 119, .int a1, .retAddr 0], [], st mi ml z) (qI Q)
  refine ev_aload_n (i := 0) rfl rfl (a_dec_at dc_R_pushes 0 rfl) ?_
  refine cV0V cs_R_237 sh119 rfl (Nat.le_of_ble_eq_true rfl) (Nat.le_of_ble_eq_true rfl) (a_dec_at dc_R_pushes 1 rfl) ?_
  refine CV.mono (fun mi1 ml1 z1 H => ?_) H
  refine ev_iconst (v := 0) rfl (a_dec_at dc_R_pushes 2 rfl) ?_
  refine ev_istore_n (i := 2) rfl (by decide) rfl (a_dec_at dc_R_pushes 3 rfl) ?_
  refine ev_aload_n (i := 0) rfl rfl (a_dec_at dc_R_pushes 4 rfl) ?_
  refine ev_iconst (v := (-1)) rfl (a_dec_at dc_R_pushes 5 rfl) ?_
  refine m_putI fl_R_261 rfl (fun _ _ _ h => by cases h; exact Or.inl rfl) sh119 (a_dec_at dc_R_pushes 6 rfl) ?_
  exact Ev.drop (L' := [.ref 119, .int a1, .int 0]) (And.intro rfl (And.intro rfl (And.intro rfl trivial))) H
set_option maxRecDepth 20000 in
theorem t_R_pushes_11 {l : Launch} {h : Nat} (mi : TMi) (ml : TMl) (z : Nat) (v1 : Int32) (v2 : Int32) {Q : Int32 → TMi → TMl → Nat → Prop} (H : CI l h m_R_becksIn [.ref 119, .int v1] mi ml z (fun x1 mi1 ml1 z1 => CI l h m_R_bitsOf [.int x1] mi1 ml1 z1 (fun x2 mi2 ml2 z2 => (vp_in (41 + v1) 4113) ∧ ((x2 ≤ (mi2 120 ((41 + v1).toNatClampNeg)) → Q v2 mi2 ml2 z2) ∧ (¬ x2 ≤ (mi2 120 ((41 + v1).toNatClampNeg)) → CI l h m_R_becksIn [.ref 119, .int v1] mi2 ml2 z2 (fun x5 mi5 ml5 z5 => CI l h m_R_leastOf [.ref 119, .int v1, .int x5] mi5 ml5 z5 (fun x6 mi6 ml6 z6 => (vp_in (29 + ((up mi6 119 20 x6) 119 20)) 4113) ∧ Ev l (h + 1) m_R_pushes 11 ([.ref 119, .int v1, .int (v2 + 1)], [], st (up (up mi6 119 20 x6) 120 ((29 + ((up mi6 119 20 x6) 119 20)).toNatClampNeg) (-1)) ml6 z6) (qI Q)))))))) : Ev l (h + 1) m_R_pushes 11 ([.ref 119, .int v1, .int v2], [], st mi ml z) (qI Q) := by
  refine ev_aload_n (i := 0) rfl rfl (a_dec_at dc_R_pushes 7 rfl) ?_
  refine ev_iload_n (i := 1) rfl rfl (a_dec_at dc_R_pushes 8 rfl) ?_
  refine cV1I cs_R_246 sh119 rfl (Nat.le_of_ble_eq_true rfl) (Nat.le_of_ble_eq_true rfl) (a_dec_at dc_R_pushes 9 rfl) ?_
  refine CI.mono (fun x1 mi1 ml1 z1 H => ?_) H
  refine cS1I cs_R_256 rfl (Nat.le_of_ble_eq_true rfl) (Nat.le_of_ble_eq_true rfl) (a_dec_at dc_R_pushes 10 rfl) ?_
  refine CI.mono (fun x2 mi2 ml2 z2 H => ?_) H
  refine ev_aload_n (i := 0) rfl rfl (a_dec_at dc_R_pushes 11 rfl) ?_
  refine m_getR (y := 120) fl_R_13 rfl sh119 (mr_119_1 _) (by decide) (a_dec_at dc_R_pushes 12 rfl) ?_
  refine ev_bipush (v := 41) rfl (a_dec_at dc_R_pushes 13 rfl) ?_
  refine ev_iload_n (i := 1) rfl rfl (a_dec_at dc_R_pushes 14 rfl) ?_
  refine ev_iadd (a_dec_at dc_R_pushes 15 rfl) ?_
  obtain ⟨c3, H⟩ := H
  refine w_iald (k := (41 + v1).toNatClampNeg) sh120 c3 rfl (a_dec_at dc_R_pushes 16 rfl) ?_
  refine ev_icmp_le (tgt := 64) (a_dec_at dc_R_pushes 17 rfl) (by decide) (fun b4 => ?_) (fun b4 => ?_)
  · have H := H.1 b4
    refine ev_iload_n (i := 2) rfl rfl (a_dec_at dc_R_pushes 36 rfl) ?_
    exact m_retI (a_dec_at dc_R_pushes 37 rfl) rfl rfl H
  · have H := H.2 b4
    refine ev_aload_n (i := 0) rfl rfl (a_dec_at dc_R_pushes 18 rfl) ?_
    refine ev_aload_n (i := 0) rfl rfl (a_dec_at dc_R_pushes 19 rfl) ?_
    refine ev_iload_n (i := 1) rfl rfl (a_dec_at dc_R_pushes 20 rfl) ?_
    refine ev_aload_n (i := 0) rfl rfl (a_dec_at dc_R_pushes 21 rfl) ?_
    refine ev_iload_n (i := 1) rfl rfl (a_dec_at dc_R_pushes 22 rfl) ?_
    refine cV1I cs_R_246 sh119 rfl (Nat.le_of_ble_eq_true rfl) (Nat.le_of_ble_eq_true rfl) (a_dec_at dc_R_pushes 23 rfl) ?_
    refine CI.mono (fun x5 mi5 ml5 z5 H => ?_) H
    refine cV2I cs_R_252 sh119 rfl (Nat.le_of_ble_eq_true rfl) (Nat.le_of_ble_eq_true rfl) (a_dec_at dc_R_pushes 24 rfl) ?_
    refine CI.mono (fun x6 mi6 ml6 z6 H => ?_) H
    refine m_putI fl_R_261 rfl (fun _ _ _ h => by cases h; exact Or.inl rfl) sh119 (a_dec_at dc_R_pushes 25 rfl) ?_
    refine ev_aload_n (i := 0) rfl rfl (a_dec_at dc_R_pushes 26 rfl) ?_
    refine m_getR (y := 120) fl_R_13 rfl sh119 (mr_119_1 _) (by decide) (a_dec_at dc_R_pushes 27 rfl) ?_
    refine ev_bipush (v := 29) rfl (a_dec_at dc_R_pushes 28 rfl) ?_
    refine ev_aload_n (i := 0) rfl rfl (a_dec_at dc_R_pushes 29 rfl) ?_
    refine m_getI fl_R_261 rfl sh119 (a_dec_at dc_R_pushes 30 rfl) ?_
    refine ev_iadd (a_dec_at dc_R_pushes 31 rfl) ?_
    refine ev_iconst (v := (-1)) rfl (a_dec_at dc_R_pushes 32 rfl) ?_
    obtain ⟨c7, H⟩ := H
    refine w_iast (k := (29 + ((up mi6 119 20 x6) 119 20)).toNatClampNeg) sh120 c7 rfl (a_dec_at dc_R_pushes 33 rfl) ?_
    refine ev_iinc (v := 1) rfl rfl (by decide) rfl (a_dec_at dc_R_pushes 34 rfl) ?_
    refine ev_goto (tgt := 11) (a_dec_at dc_R_pushes 35 rfl) (by decide) ?_
    exact Ev.drop (L' := [.ref 119, .int v1, .int (v2 + 1)]) (And.intro rfl (And.intro rfl (And.intro rfl trivial))) H
set_option maxRecDepth 20000 in
theorem t_R_notes {l : Launch} {h : Nat} (mi : TMi) (ml : TMl) (z : Nat) {Q : TMi → TMl → Nat → Prop} (H : ((¬ (mi 120 69) = 10 → Ev l (h + 1) m_R_notes 58 ([.ref 119, .int 0], [], st mi ml z) (qV Q)) ∧ ((mi 120 69) = 10 → Ev l (h + 1) m_R_notes 14 ([.ref 119, .int 0], [], st mi ml z) (qV Q)))) : CV l (h + 1) m_R_notes [.ref 119] mi ml z Q := by
  show Ev l (h + 1) m_R_notes 0 ([.ref 119, .retAddr 0], [], st mi ml z) (qV Q)
  refine ev_aload_n (i := 0) rfl rfl (a_dec_at dc_R_notes 0 rfl) ?_
  refine m_getR (y := 120) fl_R_13 rfl sh119 (mr_119_1 _) (by decide) (a_dec_at dc_R_notes 1 rfl) ?_
  refine ev_bipush (v := 69) rfl (a_dec_at dc_R_notes 2 rfl) ?_
  refine w_iald (k := 69) sh120 (by unfold vp_in; decide) (by decide) (a_dec_at dc_R_notes 3 rfl) ?_
  refine ev_bipush (v := 10) rfl (a_dec_at dc_R_notes 4 rfl) ?_
  refine ev_icmp_ne (tgt := 56) (a_dec_at dc_R_notes 5 rfl) (by decide) (fun b1 => ?_) (fun b1 => ?_)
  · have H := H.1 b1
    refine ev_iconst (v := 0) rfl (a_dec_at dc_R_notes 33 rfl) ?_
    refine ev_istore_n (i := 1) rfl (by decide) rfl (a_dec_at dc_R_notes 34 rfl) ?_
    exact Ev.drop (L' := [.ref 119, .int 0]) (And.intro rfl (And.intro rfl trivial)) H
  · have H := H.2 b1
    refine ev_iconst (v := 0) rfl (a_dec_at dc_R_notes 6 rfl) ?_
    refine ev_istore_n (i := 1) rfl (by decide) rfl (a_dec_at dc_R_notes 7 rfl) ?_
    exact Ev.drop (L' := [.ref 119, .int 0]) (And.intro rfl (And.intro rfl trivial)) H
set_option maxRecDepth 20000 in
theorem t_R_notes_58 {l : Launch} {h : Nat} (mi : TMi) (ml : TMl) (z : Nat) (v1 : Int32) {Q : TMi → TMl → Nat → Prop} (H : ((40 ≤ v1 → Q (up mi 120 69 ((mi 120 69) + 1)) ml z) ∧ (¬ 40 ≤ v1 → (vp_in v1 40) ∧ (vp_in ((70 + (40 * (mi 120 69))) + v1) 4113) ∧ Ev l (h + 1) m_R_notes 58 ([.ref 119, .int (v1 + 1)], [], st (up mi 120 (((70 + (40 * (mi 120 69))) + v1).toNatClampNeg) (mi 128 v1.toNatClampNeg)) ml z) (qV Q)))) : Ev l (h + 1) m_R_notes 58 ([.ref 119, .int v1], [], st mi ml z) (qV Q) := by
  refine ev_iload_n (i := 1) rfl rfl (a_dec_at dc_R_notes 35 rfl) ?_
  refine ev_bipush (v := 40) rfl (a_dec_at dc_R_notes 36 rfl) ?_
  refine ev_icmp_ge (tgt := 96) (a_dec_at dc_R_notes 37 rfl) (by decide) (fun b1 => ?_) (fun b1 => ?_)
  · have H := H.1 b1
    refine ev_aload_n (i := 0) rfl rfl (a_dec_at dc_R_notes 57 rfl) ?_
    refine m_getR (y := 120) fl_R_13 rfl sh119 (mr_119_1 _) (by decide) (a_dec_at dc_R_notes 58 rfl) ?_
    refine ev_bipush (v := 69) rfl (a_dec_at dc_R_notes 59 rfl) ?_
    refine ev_dup2 rfl rfl (a_dec_at dc_R_notes 60 rfl) ?_
    refine w_iald (k := 69) sh120 (by unfold vp_in; decide) (by decide) (a_dec_at dc_R_notes 61 rfl) ?_
    refine ev_iconst (v := 1) rfl (a_dec_at dc_R_notes 62 rfl) ?_
    refine ev_iadd (a_dec_at dc_R_notes 63 rfl) ?_
    refine w_iast (k := 69) sh120 (by unfold vp_in; decide) (by decide) (a_dec_at dc_R_notes 64 rfl) ?_
    exact m_retV (a_dec_at dc_R_notes 65 rfl) rfl H
  · have H := H.2 b1
    refine ev_aload_n (i := 0) rfl rfl (a_dec_at dc_R_notes 38 rfl) ?_
    refine m_getR (y := 120) fl_R_13 rfl sh119 (mr_119_1 _) (by decide) (a_dec_at dc_R_notes 39 rfl) ?_
    refine ev_bipush (v := 70) rfl (a_dec_at dc_R_notes 40 rfl) ?_
    refine ev_bipush (v := 40) rfl (a_dec_at dc_R_notes 41 rfl) ?_
    refine ev_aload_n (i := 0) rfl rfl (a_dec_at dc_R_notes 42 rfl) ?_
    refine m_getR (y := 120) fl_R_13 rfl sh119 (mr_119_1 _) (by decide) (a_dec_at dc_R_notes 43 rfl) ?_
    refine ev_bipush (v := 69) rfl (a_dec_at dc_R_notes 44 rfl) ?_
    refine w_iald (k := 69) sh120 (by unfold vp_in; decide) (by decide) (a_dec_at dc_R_notes 45 rfl) ?_
    refine ev_imul (a_dec_at dc_R_notes 46 rfl) ?_
    refine ev_iadd (a_dec_at dc_R_notes 47 rfl) ?_
    refine ev_iload_n (i := 1) rfl rfl (a_dec_at dc_R_notes 48 rfl) ?_
    refine ev_iadd (a_dec_at dc_R_notes 49 rfl) ?_
    refine ev_aload_n (i := 0) rfl rfl (a_dec_at dc_R_notes 50 rfl) ?_
    refine m_getR (y := 128) fl_R_42 rfl sh119 (mr_119_19 _) (by decide) (a_dec_at dc_R_notes 51 rfl) ?_
    refine ev_iload_n (i := 1) rfl rfl (a_dec_at dc_R_notes 52 rfl) ?_
    obtain ⟨c2, H⟩ := H
    refine w_iald (k := v1.toNatClampNeg) sh128 c2 rfl (a_dec_at dc_R_notes 53 rfl) ?_
    obtain ⟨c3, H⟩ := H
    refine w_iast (k := ((70 + (40 * (mi 120 69))) + v1).toNatClampNeg) sh120 c3 rfl (a_dec_at dc_R_notes 54 rfl) ?_
    refine ev_iinc (v := 1) rfl rfl (by decide) rfl (a_dec_at dc_R_notes 55 rfl) ?_
    refine ev_goto (tgt := 58) (a_dec_at dc_R_notes 56 rfl) (by decide) ?_
    exact Ev.drop (L' := [.ref 119, .int (v1 + 1)]) (And.intro rfl (And.intro rfl trivial)) H
set_option maxRecDepth 20000 in
theorem t_R_notes_14 {l : Launch} {h : Nat} (mi : TMi) (ml : TMl) (z : Nat) (v1 : Int32) {Q : TMi → TMl → Nat → Prop} (H : ((360 ≤ v1 → Ev l (h + 1) m_R_notes 58 ([.ref 119, .int 0], [], st (up mi 120 69 ((mi 120 69) - 1)) ml z) (qV Q)) ∧ (¬ 360 ≤ v1 → (vp_in (110 + v1) 4113) ∧ (vp_in (70 + v1) 4113) ∧ Ev l (h + 1) m_R_notes 14 ([.ref 119, .int (v1 + 1)], [], st (up mi 120 ((70 + v1).toNatClampNeg) (mi 120 ((110 + v1).toNatClampNeg))) ml z) (qV Q)))) : Ev l (h + 1) m_R_notes 14 ([.ref 119, .int v1], [], st mi ml z) (qV Q) := by
  refine ev_iload_n (i := 1) rfl rfl (a_dec_at dc_R_notes 8 rfl) ?_
  refine ev_sipush (v := 360) rfl (a_dec_at dc_R_notes 9 rfl) ?_
  refine ev_icmp_ge (tgt := 45) (a_dec_at dc_R_notes 10 rfl) (by decide) (fun b1 => ?_) (fun b1 => ?_)
  · have H := H.1 b1
    refine ev_aload_n (i := 0) rfl rfl (a_dec_at dc_R_notes 25 rfl) ?_
    refine m_getR (y := 120) fl_R_13 rfl sh119 (mr_119_1 _) (by decide) (a_dec_at dc_R_notes 26 rfl) ?_
    refine ev_bipush (v := 69) rfl (a_dec_at dc_R_notes 27 rfl) ?_
    refine ev_dup2 rfl rfl (a_dec_at dc_R_notes 28 rfl) ?_
    refine w_iald (k := 69) sh120 (by unfold vp_in; decide) (by decide) (a_dec_at dc_R_notes 29 rfl) ?_
    refine ev_iconst (v := 1) rfl (a_dec_at dc_R_notes 30 rfl) ?_
    refine ev_isub (a_dec_at dc_R_notes 31 rfl) ?_
    refine w_iast (k := 69) sh120 (by unfold vp_in; decide) (by decide) (a_dec_at dc_R_notes 32 rfl) ?_
    refine ev_iconst (v := 0) rfl (a_dec_at dc_R_notes 33 rfl) ?_
    refine ev_istore_n (i := 1) rfl (by decide) rfl (a_dec_at dc_R_notes 34 rfl) ?_
    exact Ev.drop (L' := [.ref 119, .int 0]) (And.intro rfl (And.intro rfl trivial)) H
  · have H := H.2 b1
    refine ev_aload_n (i := 0) rfl rfl (a_dec_at dc_R_notes 11 rfl) ?_
    refine m_getR (y := 120) fl_R_13 rfl sh119 (mr_119_1 _) (by decide) (a_dec_at dc_R_notes 12 rfl) ?_
    refine ev_bipush (v := 70) rfl (a_dec_at dc_R_notes 13 rfl) ?_
    refine ev_iload_n (i := 1) rfl rfl (a_dec_at dc_R_notes 14 rfl) ?_
    refine ev_iadd (a_dec_at dc_R_notes 15 rfl) ?_
    refine ev_aload_n (i := 0) rfl rfl (a_dec_at dc_R_notes 16 rfl) ?_
    refine m_getR (y := 120) fl_R_13 rfl sh119 (mr_119_1 _) (by decide) (a_dec_at dc_R_notes 17 rfl) ?_
    refine ev_bipush (v := 110) rfl (a_dec_at dc_R_notes 18 rfl) ?_
    refine ev_iload_n (i := 1) rfl rfl (a_dec_at dc_R_notes 19 rfl) ?_
    refine ev_iadd (a_dec_at dc_R_notes 20 rfl) ?_
    obtain ⟨c2, H⟩ := H
    refine w_iald (k := (110 + v1).toNatClampNeg) sh120 c2 rfl (a_dec_at dc_R_notes 21 rfl) ?_
    obtain ⟨c3, H⟩ := H
    refine w_iast (k := (70 + v1).toNatClampNeg) sh120 c3 rfl (a_dec_at dc_R_notes 22 rfl) ?_
    refine ev_iinc (v := 1) rfl rfl (by decide) rfl (a_dec_at dc_R_notes 23 rfl) ?_
    refine ev_goto (tgt := 14) (a_dec_at dc_R_notes 24 rfl) (by decide) ?_
    exact Ev.drop (L' := [.ref 119, .int (v1 + 1)]) (And.intro rfl (And.intro rfl trivial)) H
set_option maxRecDepth 20000 in
theorem t_R_leave {l : Launch} {h : Nat} (mi : TMi) (ml : TMl) (z : Nat) (a1 : Int32) {Q : Int32 → TMi → TMl → Nat → Prop} (H : CI l h m_R_whyLeave [.ref 119, .long a1.toInt64] (up mi 119 0 0) ml z (fun x1 mi1 ml1 z1 => ((x1 = 0 → CV l h m_R_keeps [.ref 119] mi1 ml1 z1 (fun mi3 ml3 z3 => (vp_in (29 + a1) 4113) ∧ CV l h m_R_notes [.ref 119] (up mi3 120 ((29 + a1).toNatClampNeg) (-1)) ml3 z3 (fun mi5 ml5 z5 => (vp_in a1 40) ∧ Q (mi5 128 a1.toNatClampNeg) mi5 ml5 z5))) ∧ (¬ x1 = 0 → Q ((-10) - x1) mi1 ml1 z1)))) : CI l (h + 1) m_R_leave [.ref 119, .int a1] mi ml z Q := by
  show Ev l (h + 1) m_R_leave 0 ([.ref 119, .int a1, .retAddr 0], [], st mi ml z) (qI Q)
  refine ev_aload_n (i := 0) rfl rfl (a_dec_at dc_R_leave 0 rfl) ?_
  refine ev_iconst (v := 0) rfl (a_dec_at dc_R_leave 1 rfl) ?_
  refine m_putI fl_R_1 rfl (fun _ _ _ h => by cases h; exact Or.inl rfl) sh119 (a_dec_at dc_R_leave 2 rfl) ?_
  refine ev_aload_n (i := 0) rfl rfl (a_dec_at dc_R_leave 3 rfl) ?_
  refine ev_iload_n (i := 1) rfl rfl (a_dec_at dc_R_leave 4 rfl) ?_
  refine ev_i2l (a_dec_at dc_R_leave 5 rfl) ?_
  refine cV1I cs_R_281 sh119 rfl (Nat.le_of_ble_eq_true rfl) (Nat.le_of_ble_eq_true rfl) (a_dec_at dc_R_leave 6 rfl) ?_
  refine CI.mono (fun x1 mi1 ml1 z1 H => ?_) H
  refine ev_istore_n (i := 2) rfl (by decide) rfl (a_dec_at dc_R_leave 7 rfl) ?_
  refine ev_iload_n (i := 2) rfl rfl (a_dec_at dc_R_leave 8 rfl) ?_
  refine ev_if_eq (tgt := 21) (a_dec_at dc_R_leave 9 rfl) (by decide) (fun b2 => ?_) (fun b2 => ?_)
  · have H := H.1 b2
    refine ev_aload_n (i := 0) rfl rfl (a_dec_at dc_R_leave 14 rfl) ?_
    refine cV0V cs_R_271 sh119 rfl (Nat.le_of_ble_eq_true rfl) (Nat.le_of_ble_eq_true rfl) (a_dec_at dc_R_leave 15 rfl) ?_
    refine CV.mono (fun mi3 ml3 z3 H => ?_) H
    refine ev_aload_n (i := 0) rfl rfl (a_dec_at dc_R_leave 16 rfl) ?_
    refine m_getR (y := 120) fl_R_13 rfl sh119 (mr_119_1 _) (by decide) (a_dec_at dc_R_leave 17 rfl) ?_
    refine ev_bipush (v := 29) rfl (a_dec_at dc_R_leave 18 rfl) ?_
    refine ev_iload_n (i := 1) rfl rfl (a_dec_at dc_R_leave 19 rfl) ?_
    refine ev_iadd (a_dec_at dc_R_leave 20 rfl) ?_
    refine ev_iconst (v := (-1)) rfl (a_dec_at dc_R_leave 21 rfl) ?_
    obtain ⟨c4, H⟩ := H
    refine w_iast (k := (29 + a1).toNatClampNeg) sh120 c4 rfl (a_dec_at dc_R_leave 22 rfl) ?_
    refine ev_aload_n (i := 0) rfl rfl (a_dec_at dc_R_leave 23 rfl) ?_
    refine cV0V cs_R_278 sh119 rfl (Nat.le_of_ble_eq_true rfl) (Nat.le_of_ble_eq_true rfl) (a_dec_at dc_R_leave 24 rfl) ?_
    refine CV.mono (fun mi5 ml5 z5 H => ?_) H
    refine ev_aload_n (i := 0) rfl rfl (a_dec_at dc_R_leave 25 rfl) ?_
    refine m_getR (y := 128) fl_R_42 rfl sh119 (mr_119_19 _) (by decide) (a_dec_at dc_R_leave 26 rfl) ?_
    refine ev_iload_n (i := 1) rfl rfl (a_dec_at dc_R_leave 27 rfl) ?_
    obtain ⟨c6, H⟩ := H
    refine w_iald (k := a1.toNatClampNeg) sh128 c6 rfl (a_dec_at dc_R_leave 28 rfl) ?_
    exact m_retI (a_dec_at dc_R_leave 29 rfl) rfl rfl H
  · have H := H.2 b2
    refine ev_bipush (v := (-10)) rfl (a_dec_at dc_R_leave 10 rfl) ?_
    refine ev_iload_n (i := 2) rfl rfl (a_dec_at dc_R_leave 11 rfl) ?_
    refine ev_isub (a_dec_at dc_R_leave 12 rfl) ?_
    exact m_retI (a_dec_at dc_R_leave 13 rfl) rfl rfl H
set_option maxRecDepth 20000 in
theorem t_R_whyLeave {l : Launch} {h : Nat} (mi : TMi) (ml : TMl) (z : Nat) (a1 : Int64) {Q : Int32 → TMi → TMl → Nat → Prop} (H : CI l h m_R_isBeck [.ref 119, .long a1] mi ml z (fun x1 mi1 ml1 z1 => ((¬ x1 = 0 → (vp_in (29 + a1.toInt32) 4113) ∧ ((¬ (mi1 120 ((29 + a1.toInt32).toNatClampNeg)) = (-1) → Q 0 mi1 ml1 z1) ∧ ((mi1 120 ((29 + a1.toInt32).toNatClampNeg)) = (-1) → Q 2 mi1 ml1 z1))) ∧ (x1 = 0 → Q 1 mi1 ml1 z1)))) : CI l (h + 1) m_R_whyLeave [.ref 119, .long a1] mi ml z Q := by
  show Ev l (h + 1) m_R_whyLeave 0 ([.ref 119, .long a1, .retAddr 0], [], st mi ml z) (qI Q)
  refine ev_aload_n (i := 0) rfl rfl (a_dec_at dc_R_whyLeave 0 rfl) ?_
  refine ev_lload_n (i := 1) rfl rfl (a_dec_at dc_R_whyLeave 1 rfl) ?_
  refine cV1I cs_R_233 sh119 rfl (Nat.le_of_ble_eq_true rfl) (Nat.le_of_ble_eq_true rfl) (a_dec_at dc_R_whyLeave 2 rfl) ?_
  refine CI.mono (fun x1 mi1 ml1 z1 H => ?_) H
  refine ev_if_ne (tgt := 12) (a_dec_at dc_R_whyLeave 3 rfl) (by decide) (fun b2 => ?_) (fun b2 => ?_)
  · have H := H.1 b2
    refine ev_aload_n (i := 0) rfl rfl (a_dec_at dc_R_whyLeave 6 rfl) ?_
    refine m_getR (y := 120) fl_R_13 rfl sh119 (mr_119_1 _) (by decide) (a_dec_at dc_R_whyLeave 7 rfl) ?_
    refine ev_bipush (v := 29) rfl (a_dec_at dc_R_whyLeave 8 rfl) ?_
    refine ev_lload_n (i := 1) rfl rfl (a_dec_at dc_R_whyLeave 9 rfl) ?_
    refine ev_l2i (a_dec_at dc_R_whyLeave 10 rfl) ?_
    refine ev_iadd (a_dec_at dc_R_whyLeave 11 rfl) ?_
    obtain ⟨c3, H⟩ := H
    refine w_iald (k := (29 + a1.toInt32).toNatClampNeg) sh120 c3 rfl (a_dec_at dc_R_whyLeave 12 rfl) ?_
    refine ev_iconst (v := (-1)) rfl (a_dec_at dc_R_whyLeave 13 rfl) ?_
    refine ev_icmp_ne (tgt := 30) (a_dec_at dc_R_whyLeave 14 rfl) (by decide) (fun b4 => ?_) (fun b4 => ?_)
    · have H := H.1 b4
      refine ev_iconst (v := 0) rfl (a_dec_at dc_R_whyLeave 17 rfl) ?_
      exact m_retI (a_dec_at dc_R_whyLeave 18 rfl) rfl rfl H
    · have H := H.2 b4
      refine ev_iconst (v := 2) rfl (a_dec_at dc_R_whyLeave 15 rfl) ?_
      refine ev_goto (tgt := 31) (a_dec_at dc_R_whyLeave 16 rfl) (by decide) ?_
      exact m_retI (a_dec_at dc_R_whyLeave 18 rfl) rfl rfl H
  · have H := H.2 b2
    refine ev_iconst (v := 1) rfl (a_dec_at dc_R_whyLeave 4 rfl) ?_
    refine ev_goto (tgt := 31) (a_dec_at dc_R_whyLeave 5 rfl) (by decide) ?_
    exact m_retI (a_dec_at dc_R_whyLeave 18 rfl) rfl rfl H
set_option maxRecDepth 20000 in
theorem t_R_send {l : Launch} {h : Nat} (mi : TMi) (ml : TMl) (z : Nat) (a1 : Int32) (a2 : Int32) (a3 : Int32) {Q : Int32 → TMi → TMl → Nat → Prop} (H : CI l h m_R_whySend [.ref 119, .long a1.toInt64, .long a2.toInt64, .long a3.toInt64] (up mi 119 0 0) ml z (fun x1 mi1 ml1 z1 => ((x1 = 0 → CV l h m_R_keeps [.ref 119] mi1 ml1 z1 (fun mi3 ml3 z3 => CI l h m_R_giftAt [.ref 119, .int a1, .int a2] mi3 ml3 z3 (fun x4 mi4 ml4 z4 => (vp_in x4 4113) ∧ (vp_in x4 4113) ∧ CV l h m_R_notes [.ref 119] (up mi4 120 x4.toNatClampNeg ((mi4 120 x4.toNatClampNeg) + a3)) ml4 z4 (fun mi7 ml7 z7 => CI l h m_R_giftAt [.ref 119, .int a1, .int a2] mi7 ml7 z7 (fun x8 mi8 ml8 z8 => (vp_in x8 4113) ∧ Q (mi8 120 x8.toNatClampNeg) mi8 ml8 z8))))) ∧ (¬ x1 = 0 → Q ((-10) - x1) mi1 ml1 z1)))) : CI l (h + 1) m_R_send [.ref 119, .int a1, .int a2, .int a3] mi ml z Q := by
  show Ev l (h + 1) m_R_send 0 ([.ref 119, .int a1, .int a2, .int a3, .retAddr 0], [], st mi ml z) (qI Q)
  refine ev_aload_n (i := 0) rfl rfl (a_dec_at dc_R_send 0 rfl) ?_
  refine ev_iconst (v := 0) rfl (a_dec_at dc_R_send 1 rfl) ?_
  refine m_putI fl_R_1 rfl (fun _ _ _ h => by cases h; exact Or.inl rfl) sh119 (a_dec_at dc_R_send 2 rfl) ?_
  refine ev_aload_n (i := 0) rfl rfl (a_dec_at dc_R_send 3 rfl) ?_
  refine ev_iload_n (i := 1) rfl rfl (a_dec_at dc_R_send 4 rfl) ?_
  refine ev_i2l (a_dec_at dc_R_send 5 rfl) ?_
  refine ev_iload_n (i := 2) rfl rfl (a_dec_at dc_R_send 6 rfl) ?_
  refine ev_i2l (a_dec_at dc_R_send 7 rfl) ?_
  refine ev_iload_n (i := 3) rfl rfl (a_dec_at dc_R_send 8 rfl) ?_
  refine ev_i2l (a_dec_at dc_R_send 9 rfl) ?_
  refine cV3I cs_R_285 sh119 rfl (Nat.le_of_ble_eq_true rfl) (Nat.le_of_ble_eq_true rfl) (a_dec_at dc_R_send 10 rfl) ?_
  refine CI.mono (fun x1 mi1 ml1 z1 H => ?_) H
  refine ev_istore (by decide) rfl (a_dec_at dc_R_send 11 rfl) ?_
  refine ev_iload rfl (a_dec_at dc_R_send 12 rfl) ?_
  refine ev_if_eq (tgt := 28) (a_dec_at dc_R_send 13 rfl) (by decide) (fun b2 => ?_) (fun b2 => ?_)
  · have H := H.1 b2
    refine ev_aload_n (i := 0) rfl rfl (a_dec_at dc_R_send 18 rfl) ?_
    refine cV0V cs_R_271 sh119 rfl (Nat.le_of_ble_eq_true rfl) (Nat.le_of_ble_eq_true rfl) (a_dec_at dc_R_send 19 rfl) ?_
    refine CV.mono (fun mi3 ml3 z3 H => ?_) H
    refine ev_aload_n (i := 0) rfl rfl (a_dec_at dc_R_send 20 rfl) ?_
    refine m_getR (y := 120) fl_R_13 rfl sh119 (mr_119_1 _) (by decide) (a_dec_at dc_R_send 21 rfl) ?_
    refine ev_aload_n (i := 0) rfl rfl (a_dec_at dc_R_send 22 rfl) ?_
    refine ev_iload_n (i := 1) rfl rfl (a_dec_at dc_R_send 23 rfl) ?_
    refine ev_iload_n (i := 2) rfl rfl (a_dec_at dc_R_send 24 rfl) ?_
    refine cV2I cs_R_211 sh119 rfl (Nat.le_of_ble_eq_true rfl) (Nat.le_of_ble_eq_true rfl) (a_dec_at dc_R_send 25 rfl) ?_
    refine CI.mono (fun x4 mi4 ml4 z4 H => ?_) H
    refine ev_dup2 rfl rfl (a_dec_at dc_R_send 26 rfl) ?_
    obtain ⟨c5, H⟩ := H
    refine w_iald (k := x4.toNatClampNeg) sh120 c5 rfl (a_dec_at dc_R_send 27 rfl) ?_
    refine ev_iload_n (i := 3) rfl rfl (a_dec_at dc_R_send 28 rfl) ?_
    refine ev_iadd (a_dec_at dc_R_send 29 rfl) ?_
    obtain ⟨c6, H⟩ := H
    refine w_iast (k := x4.toNatClampNeg) sh120 c6 rfl (a_dec_at dc_R_send 30 rfl) ?_
    refine ev_aload_n (i := 0) rfl rfl (a_dec_at dc_R_send 31 rfl) ?_
    refine cV0V cs_R_278 sh119 rfl (Nat.le_of_ble_eq_true rfl) (Nat.le_of_ble_eq_true rfl) (a_dec_at dc_R_send 32 rfl) ?_
    refine CV.mono (fun mi7 ml7 z7 H => ?_) H
    refine ev_aload_n (i := 0) rfl rfl (a_dec_at dc_R_send 33 rfl) ?_
    refine m_getR (y := 120) fl_R_13 rfl sh119 (mr_119_1 _) (by decide) (a_dec_at dc_R_send 34 rfl) ?_
    refine ev_aload_n (i := 0) rfl rfl (a_dec_at dc_R_send 35 rfl) ?_
    refine ev_iload_n (i := 1) rfl rfl (a_dec_at dc_R_send 36 rfl) ?_
    refine ev_iload_n (i := 2) rfl rfl (a_dec_at dc_R_send 37 rfl) ?_
    refine cV2I cs_R_211 sh119 rfl (Nat.le_of_ble_eq_true rfl) (Nat.le_of_ble_eq_true rfl) (a_dec_at dc_R_send 38 rfl) ?_
    refine CI.mono (fun x8 mi8 ml8 z8 H => ?_) H
    obtain ⟨c9, H⟩ := H
    refine w_iald (k := x8.toNatClampNeg) sh120 c9 rfl (a_dec_at dc_R_send 39 rfl) ?_
    exact m_retI (a_dec_at dc_R_send 40 rfl) rfl rfl H
  · have H := H.2 b2
    refine ev_bipush (v := (-10)) rfl (a_dec_at dc_R_send 14 rfl) ?_
    refine ev_iload rfl (a_dec_at dc_R_send 15 rfl) ?_
    refine ev_isub (a_dec_at dc_R_send 16 rfl) ?_
    exact m_retI (a_dec_at dc_R_send 17 rfl) rfl rfl H
set_option maxRecDepth 20000 in
theorem t_R_whySend {l : Launch} {h : Nat} (mi : TMi) (ml : TMl) (z : Nat) (a1 : Int64) (a2 : Int64) (a3 : Int64) {Q : Int32 → TMi → TMl → Nat → Prop} (H : CI l h m_R_isRiver [.ref 119, .long a1] mi ml z (fun x1 mi1 ml1 z1 => ((x1 = 0 → Q 1 mi1 ml1 z1) ∧ (¬ x1 = 0 → CI l h m_R_isBeck [.ref 119, .long a2] mi1 ml1 z1 (fun x3 mi3 ml3 z3 => ((x3 = 0 → Q 1 mi3 ml3 z3) ∧ (¬ x3 = 0 → CI l h m_R_within [.long a3, .long 1, .long 9] mi3 ml3 z3 (fun x5 mi5 ml5 z5 => ((¬ x5 = 0 → CI l h m_R_giftAt [.ref 119, .int a1.toInt32, .int a2.toInt32] mi5 ml5 z5 (fun x7 mi7 ml7 z7 => (vp_in x7 4113) ∧ (((lg_cmp (((mi7 120 x7.toNatClampNeg).toInt64) + a3) 9) ≤ 0 → Q 0 mi7 ml7 z7) ∧ (¬ (lg_cmp (((mi7 120 x7.toNatClampNeg).toInt64) + a3) 9) ≤ 0 → Q 2 mi7 ml7 z7)))) ∧ (x5 = 0 → Q 1 mi5 ml5 z5)))))))))) : CI l (h + 1) m_R_whySend [.ref 119, .long a1, .long a2, .long a3] mi ml z Q := by
  show Ev l (h + 1) m_R_whySend 0 ([.ref 119, .long a1, .retAddr 0, .long a2, .retAddr 0, .long a3, .retAddr 0], [], st mi ml z) (qI Q)
  refine ev_aload_n (i := 0) rfl rfl (a_dec_at dc_R_whySend 0 rfl) ?_
  refine ev_lload_n (i := 1) rfl rfl (a_dec_at dc_R_whySend 1 rfl) ?_
  refine cV1I cs_R_243 sh119 rfl (Nat.le_of_ble_eq_true rfl) (Nat.le_of_ble_eq_true rfl) (a_dec_at dc_R_whySend 2 rfl) ?_
  refine CI.mono (fun x1 mi1 ml1 z1 H => ?_) H
  refine ev_if_eq (tgt := 28) (a_dec_at dc_R_whySend 3 rfl) (by decide) (fun b2 => ?_) (fun b2 => ?_)
  · have H := H.1 b2
    refine ev_iconst (v := 1) rfl (a_dec_at dc_R_whySend 13 rfl) ?_
    exact m_retI (a_dec_at dc_R_whySend 14 rfl) rfl rfl H
  · have H := H.2 b2
    refine ev_aload_n (i := 0) rfl rfl (a_dec_at dc_R_whySend 4 rfl) ?_
    refine ev_lload_n (i := 3) rfl rfl (a_dec_at dc_R_whySend 5 rfl) ?_
    refine cV1I cs_R_233 sh119 rfl (Nat.le_of_ble_eq_true rfl) (Nat.le_of_ble_eq_true rfl) (a_dec_at dc_R_whySend 6 rfl) ?_
    refine CI.mono (fun x3 mi3 ml3 z3 H => ?_) H
    refine ev_if_eq (tgt := 28) (a_dec_at dc_R_whySend 7 rfl) (by decide) (fun b4 => ?_) (fun b4 => ?_)
    · have H := H.1 b4
      refine ev_iconst (v := 1) rfl (a_dec_at dc_R_whySend 13 rfl) ?_
      exact m_retI (a_dec_at dc_R_whySend 14 rfl) rfl rfl H
    · have H := H.2 b4
      refine ev_lload rfl (a_dec_at dc_R_whySend 8 rfl) ?_
      refine ev_lconst (v := 1) rfl (a_dec_at dc_R_whySend 9 rfl) ?_
      refine ev_ldc2 kc_R_259 (a_dec_at dc_R_whySend 10 rfl) ?_
      refine cS3I cs_R_139 rfl (Nat.le_of_ble_eq_true rfl) (Nat.le_of_ble_eq_true rfl) (a_dec_at dc_R_whySend 11 rfl) ?_
      refine CI.mono (fun x5 mi5 ml5 z5 H => ?_) H
      refine ev_if_ne (tgt := 30) (a_dec_at dc_R_whySend 12 rfl) (by decide) (fun b6 => ?_) (fun b6 => ?_)
      · have H := H.1 b6
        refine ev_aload_n (i := 0) rfl rfl (a_dec_at dc_R_whySend 15 rfl) ?_
        refine m_getR (y := 120) fl_R_13 rfl sh119 (mr_119_1 _) (by decide) (a_dec_at dc_R_whySend 16 rfl) ?_
        refine ev_aload_n (i := 0) rfl rfl (a_dec_at dc_R_whySend 17 rfl) ?_
        refine ev_lload_n (i := 1) rfl rfl (a_dec_at dc_R_whySend 18 rfl) ?_
        refine ev_l2i (a_dec_at dc_R_whySend 19 rfl) ?_
        refine ev_lload_n (i := 3) rfl rfl (a_dec_at dc_R_whySend 20 rfl) ?_
        refine ev_l2i (a_dec_at dc_R_whySend 21 rfl) ?_
        refine cV2I cs_R_211 sh119 rfl (Nat.le_of_ble_eq_true rfl) (Nat.le_of_ble_eq_true rfl) (a_dec_at dc_R_whySend 22 rfl) ?_
        refine CI.mono (fun x7 mi7 ml7 z7 H => ?_) H
        obtain ⟨c8, H⟩ := H
        refine w_iald (k := x7.toNatClampNeg) sh120 c8 rfl (a_dec_at dc_R_whySend 23 rfl) ?_
        refine ev_i2l (a_dec_at dc_R_whySend 24 rfl) ?_
        refine ev_lload rfl (a_dec_at dc_R_whySend 25 rfl) ?_
        refine ev_ladd (a_dec_at dc_R_whySend 26 rfl) ?_
        refine ev_ldc2 kc_R_259 (a_dec_at dc_R_whySend 27 rfl) ?_
        refine ev_lcmp (a_dec_at dc_R_whySend 28 rfl) ?_
        refine ev_if_le (tgt := 58) (a_dec_at dc_R_whySend 29 rfl) (by decide) (fun b9 => ?_) (fun b9 => ?_)
        · have H := H.1 b9
          refine ev_iconst (v := 0) rfl (a_dec_at dc_R_whySend 32 rfl) ?_
          exact m_retI (a_dec_at dc_R_whySend 33 rfl) rfl rfl H
        · have H := H.2 b9
          refine ev_iconst (v := 2) rfl (a_dec_at dc_R_whySend 30 rfl) ?_
          refine ev_goto (tgt := 59) (a_dec_at dc_R_whySend 31 rfl) (by decide) ?_
          exact m_retI (a_dec_at dc_R_whySend 33 rfl) rfl rfl H
      · have H := H.2 b6
        refine ev_iconst (v := 1) rfl (a_dec_at dc_R_whySend 13 rfl) ?_
        exact m_retI (a_dec_at dc_R_whySend 14 rfl) rfl rfl H
set_option maxRecDepth 20000 in
theorem t_R_rain {l : Launch} {h : Nat} (mi : TMi) (ml : TMl) (z : Nat) (a1 : Int32) (a2 : Int32) {Q : Int32 → TMi → TMl → Nat → Prop} (H : CI l h m_R_isBeck [.ref 119, .long a1.toInt64] (up mi 119 0 0) ml z (fun x1 mi1 ml1 z1 => ((x1 = 0 → Q (-11) mi1 ml1 z1) ∧ (¬ x1 = 0 → CI l h m_R_within [.long a2.toInt64, .long 0, .long 9] mi1 ml1 z1 (fun x3 mi3 ml3 z3 => ((¬ x3 = 0 → CV l h m_R_keeps [.ref 119] mi3 ml3 z3 (fun mi5 ml5 z5 => (vp_in (35 + a1) 4113) ∧ CV l h m_R_notes [.ref 119] (up mi5 120 ((35 + a1).toNatClampNeg) a2) ml5 z5 (fun mi7 ml7 z7 => (vp_in (6 + a1) 40) ∧ Q (mi7 128 ((6 + a1).toNatClampNeg)) mi7 ml7 z7))) ∧ (x3 = 0 → Q (-11) mi3 ml3 z3))))))) : CI l (h + 1) m_R_rain [.ref 119, .int a1, .int a2] mi ml z Q := by
  show Ev l (h + 1) m_R_rain 0 ([.ref 119, .int a1, .int a2], [], st mi ml z) (qI Q)
  refine ev_aload_n (i := 0) rfl rfl (a_dec_at dc_R_rain 0 rfl) ?_
  refine ev_iconst (v := 0) rfl (a_dec_at dc_R_rain 1 rfl) ?_
  refine m_putI fl_R_1 rfl (fun _ _ _ h => by cases h; exact Or.inl rfl) sh119 (a_dec_at dc_R_rain 2 rfl) ?_
  refine ev_aload_n (i := 0) rfl rfl (a_dec_at dc_R_rain 3 rfl) ?_
  refine ev_iload_n (i := 1) rfl rfl (a_dec_at dc_R_rain 4 rfl) ?_
  refine ev_i2l (a_dec_at dc_R_rain 5 rfl) ?_
  refine cV1I cs_R_233 sh119 rfl (Nat.le_of_ble_eq_true rfl) (Nat.le_of_ble_eq_true rfl) (a_dec_at dc_R_rain 6 rfl) ?_
  refine CI.mono (fun x1 mi1 ml1 z1 H => ?_) H
  refine ev_if_eq (tgt := 26) (a_dec_at dc_R_rain 7 rfl) (by decide) (fun b2 => ?_) (fun b2 => ?_)
  · have H := H.1 b2
    refine ev_bipush (v := (-11)) rfl (a_dec_at dc_R_rain 14 rfl) ?_
    exact m_retI (a_dec_at dc_R_rain 15 rfl) rfl rfl H
  · have H := H.2 b2
    refine ev_iload_n (i := 2) rfl rfl (a_dec_at dc_R_rain 8 rfl) ?_
    refine ev_i2l (a_dec_at dc_R_rain 9 rfl) ?_
    refine ev_lconst (v := 0) rfl (a_dec_at dc_R_rain 10 rfl) ?_
    refine ev_ldc2 kc_R_259 (a_dec_at dc_R_rain 11 rfl) ?_
    refine cS3I cs_R_139 rfl (Nat.le_of_ble_eq_true rfl) (Nat.le_of_ble_eq_true rfl) (a_dec_at dc_R_rain 12 rfl) ?_
    refine CI.mono (fun x3 mi3 ml3 z3 H => ?_) H
    refine ev_if_ne (tgt := 29) (a_dec_at dc_R_rain 13 rfl) (by decide) (fun b4 => ?_) (fun b4 => ?_)
    · have H := H.1 b4
      refine ev_aload_n (i := 0) rfl rfl (a_dec_at dc_R_rain 16 rfl) ?_
      refine cV0V cs_R_271 sh119 rfl (Nat.le_of_ble_eq_true rfl) (Nat.le_of_ble_eq_true rfl) (a_dec_at dc_R_rain 17 rfl) ?_
      refine CV.mono (fun mi5 ml5 z5 H => ?_) H
      refine ev_aload_n (i := 0) rfl rfl (a_dec_at dc_R_rain 18 rfl) ?_
      refine m_getR (y := 120) fl_R_13 rfl sh119 (mr_119_1 _) (by decide) (a_dec_at dc_R_rain 19 rfl) ?_
      refine ev_bipush (v := 35) rfl (a_dec_at dc_R_rain 20 rfl) ?_
      refine ev_iload_n (i := 1) rfl rfl (a_dec_at dc_R_rain 21 rfl) ?_
      refine ev_iadd (a_dec_at dc_R_rain 22 rfl) ?_
      refine ev_iload_n (i := 2) rfl rfl (a_dec_at dc_R_rain 23 rfl) ?_
      obtain ⟨c6, H⟩ := H
      refine w_iast (k := (35 + a1).toNatClampNeg) sh120 c6 rfl (a_dec_at dc_R_rain 24 rfl) ?_
      refine ev_aload_n (i := 0) rfl rfl (a_dec_at dc_R_rain 25 rfl) ?_
      refine cV0V cs_R_278 sh119 rfl (Nat.le_of_ble_eq_true rfl) (Nat.le_of_ble_eq_true rfl) (a_dec_at dc_R_rain 26 rfl) ?_
      refine CV.mono (fun mi7 ml7 z7 H => ?_) H
      refine ev_aload_n (i := 0) rfl rfl (a_dec_at dc_R_rain 27 rfl) ?_
      refine m_getR (y := 128) fl_R_42 rfl sh119 (mr_119_19 _) (by decide) (a_dec_at dc_R_rain 28 rfl) ?_
      refine ev_bipush (v := 6) rfl (a_dec_at dc_R_rain 29 rfl) ?_
      refine ev_iload_n (i := 1) rfl rfl (a_dec_at dc_R_rain 30 rfl) ?_
      refine ev_iadd (a_dec_at dc_R_rain 31 rfl) ?_
      obtain ⟨c8, H⟩ := H
      refine w_iald (k := (6 + a1).toNatClampNeg) sh128 c8 rfl (a_dec_at dc_R_rain 32 rfl) ?_
      exact m_retI (a_dec_at dc_R_rain 33 rfl) rfl rfl H
    · have H := H.2 b4
      refine ev_bipush (v := (-11)) rfl (a_dec_at dc_R_rain 14 rfl) ?_
      exact m_retI (a_dec_at dc_R_rain 15 rfl) rfl rfl H
set_option maxRecDepth 20000 in
theorem t_R_room {l : Launch} {h : Nat} (mi : TMi) (ml : TMl) (z : Nat) (a1 : Int32) (a2 : Int32) {Q : Int32 → TMi → TMl → Nat → Prop} (H : CI l h m_R_isRiver [.ref 119, .long a1.toInt64] (up mi 119 0 0) ml z (fun x1 mi1 ml1 z1 => ((x1 = 0 → Q (-11) mi1 ml1 z1) ∧ (¬ x1 = 0 → CI l h m_R_within [.long a2.toInt64, .long 0, .long 6] mi1 ml1 z1 (fun x3 mi3 ml3 z3 => ((¬ x3 = 0 → CV l h m_R_keeps [.ref 119] mi3 ml3 z3 (fun mi5 ml5 z5 => (vp_in (41 + a1) 4113) ∧ CI l h m_R_pushes [.ref 119, .int a1] (up mi5 120 ((41 + a1).toNatClampNeg) a2) ml5 z5 (fun x7 mi7 ml7 z7 => CV l h m_R_notes [.ref 119] mi7 ml7 z7 (fun mi8 ml8 z8 => Q x7 mi8 ml8 z8)))) ∧ (x3 = 0 → Q (-11) mi3 ml3 z3))))))) : CI l (h + 1) m_R_room [.ref 119, .int a1, .int a2] mi ml z Q := by
  show Ev l (h + 1) m_R_room 0 ([.ref 119, .int a1, .int a2, .retAddr 0], [], st mi ml z) (qI Q)
  refine ev_aload_n (i := 0) rfl rfl (a_dec_at dc_R_room 0 rfl) ?_
  refine ev_iconst (v := 0) rfl (a_dec_at dc_R_room 1 rfl) ?_
  refine m_putI fl_R_1 rfl (fun _ _ _ h => by cases h; exact Or.inl rfl) sh119 (a_dec_at dc_R_room 2 rfl) ?_
  refine ev_aload_n (i := 0) rfl rfl (a_dec_at dc_R_room 3 rfl) ?_
  refine ev_iload_n (i := 1) rfl rfl (a_dec_at dc_R_room 4 rfl) ?_
  refine ev_i2l (a_dec_at dc_R_room 5 rfl) ?_
  refine cV1I cs_R_243 sh119 rfl (Nat.le_of_ble_eq_true rfl) (Nat.le_of_ble_eq_true rfl) (a_dec_at dc_R_room 6 rfl) ?_
  refine CI.mono (fun x1 mi1 ml1 z1 H => ?_) H
  refine ev_if_eq (tgt := 26) (a_dec_at dc_R_room 7 rfl) (by decide) (fun b2 => ?_) (fun b2 => ?_)
  · have H := H.1 b2
    refine ev_bipush (v := (-11)) rfl (a_dec_at dc_R_room 14 rfl) ?_
    exact m_retI (a_dec_at dc_R_room 15 rfl) rfl rfl H
  · have H := H.2 b2
    refine ev_iload_n (i := 2) rfl rfl (a_dec_at dc_R_room 8 rfl) ?_
    refine ev_i2l (a_dec_at dc_R_room 9 rfl) ?_
    refine ev_lconst (v := 0) rfl (a_dec_at dc_R_room 10 rfl) ?_
    refine ev_ldc2 kc_R_289 (a_dec_at dc_R_room 11 rfl) ?_
    refine cS3I cs_R_139 rfl (Nat.le_of_ble_eq_true rfl) (Nat.le_of_ble_eq_true rfl) (a_dec_at dc_R_room 12 rfl) ?_
    refine CI.mono (fun x3 mi3 ml3 z3 H => ?_) H
    refine ev_if_ne (tgt := 29) (a_dec_at dc_R_room 13 rfl) (by decide) (fun b4 => ?_) (fun b4 => ?_)
    · have H := H.1 b4
      refine ev_aload_n (i := 0) rfl rfl (a_dec_at dc_R_room 16 rfl) ?_
      refine cV0V cs_R_271 sh119 rfl (Nat.le_of_ble_eq_true rfl) (Nat.le_of_ble_eq_true rfl) (a_dec_at dc_R_room 17 rfl) ?_
      refine CV.mono (fun mi5 ml5 z5 H => ?_) H
      refine ev_aload_n (i := 0) rfl rfl (a_dec_at dc_R_room 18 rfl) ?_
      refine m_getR (y := 120) fl_R_13 rfl sh119 (mr_119_1 _) (by decide) (a_dec_at dc_R_room 19 rfl) ?_
      refine ev_bipush (v := 41) rfl (a_dec_at dc_R_room 20 rfl) ?_
      refine ev_iload_n (i := 1) rfl rfl (a_dec_at dc_R_room 21 rfl) ?_
      refine ev_iadd (a_dec_at dc_R_room 22 rfl) ?_
      refine ev_iload_n (i := 2) rfl rfl (a_dec_at dc_R_room 23 rfl) ?_
      obtain ⟨c6, H⟩ := H
      refine w_iast (k := (41 + a1).toNatClampNeg) sh120 c6 rfl (a_dec_at dc_R_room 24 rfl) ?_
      refine ev_aload_n (i := 0) rfl rfl (a_dec_at dc_R_room 25 rfl) ?_
      refine ev_iload_n (i := 1) rfl rfl (a_dec_at dc_R_room 26 rfl) ?_
      refine cV1I cs_R_264 sh119 rfl (Nat.le_of_ble_eq_true rfl) (Nat.le_of_ble_eq_true rfl) (a_dec_at dc_R_room 27 rfl) ?_
      refine CI.mono (fun x7 mi7 ml7 z7 H => ?_) H
      refine ev_istore_n (i := 3) rfl (by decide) rfl (a_dec_at dc_R_room 28 rfl) ?_
      refine ev_aload_n (i := 0) rfl rfl (a_dec_at dc_R_room 29 rfl) ?_
      refine cV0V cs_R_278 sh119 rfl (Nat.le_of_ble_eq_true rfl) (Nat.le_of_ble_eq_true rfl) (a_dec_at dc_R_room 30 rfl) ?_
      refine CV.mono (fun mi8 ml8 z8 H => ?_) H
      refine ev_iload_n (i := 3) rfl rfl (a_dec_at dc_R_room 31 rfl) ?_
      exact m_retI (a_dec_at dc_R_room 32 rfl) rfl rfl H
    · have H := H.2 b4
      refine ev_bipush (v := (-11)) rfl (a_dec_at dc_R_room 14 rfl) ?_
      exact m_retI (a_dec_at dc_R_room 15 rfl) rfl rfl H
set_option maxRecDepth 20000 in
theorem t_R_undo {l : Launch} {h : Nat} (mi : TMi) (ml : TMl) (z : Nat) (a1 : Int32) {Q : Int32 → TMi → TMl → Nat → Prop} (H : CI l h m_R_within [.long a1.toInt64, .long 1, .long 10] (up mi 119 0 0) ml z (fun x1 mi1 ml1 z1 => ((x1 = 0 → Q (-3) mi1 ml1 z1) ∧ (¬ x1 = 0 → ((a1 ≤ (mi1 120 69) → Ev l (h + 1) m_R_undo 44 ([.ref 119, .retAddr 0, .int 0], [], st (up mi1 120 69 ((mi1 120 69) - a1)) ml1 z1) (qI Q)) ∧ (¬ a1 ≤ (mi1 120 69) → Q (-3) mi1 ml1 z1)))))) : CI l (h + 1) m_R_undo [.ref 119, .int a1] mi ml z Q := by
  show Ev l (h + 1) m_R_undo 0 ([.ref 119, .int a1, .retAddr 0], [], st mi ml z) (qI Q)
  refine ev_aload_n (i := 0) rfl rfl (a_dec_at dc_R_undo 0 rfl) ?_
  refine ev_iconst (v := 0) rfl (a_dec_at dc_R_undo 1 rfl) ?_
  refine m_putI fl_R_1 rfl (fun _ _ _ h => by cases h; exact Or.inl rfl) sh119 (a_dec_at dc_R_undo 2 rfl) ?_
  refine ev_iload_n (i := 1) rfl rfl (a_dec_at dc_R_undo 3 rfl) ?_
  refine ev_i2l (a_dec_at dc_R_undo 4 rfl) ?_
  refine ev_lconst (v := 1) rfl (a_dec_at dc_R_undo 5 rfl) ?_
  refine ev_ldc2 kc_R_291 (a_dec_at dc_R_undo 6 rfl) ?_
  refine cS3I cs_R_139 rfl (Nat.le_of_ble_eq_true rfl) (Nat.le_of_ble_eq_true rfl) (a_dec_at dc_R_undo 7 rfl) ?_
  refine CI.mono (fun x1 mi1 ml1 z1 H => ?_) H
  refine ev_if_eq (tgt := 28) (a_dec_at dc_R_undo 8 rfl) (by decide) (fun b2 => ?_) (fun b2 => ?_)
  · have H := H.1 b2
    refine ev_bipush (v := (-3)) rfl (a_dec_at dc_R_undo 15 rfl) ?_
    exact m_retI (a_dec_at dc_R_undo 16 rfl) rfl rfl H
  · have H := H.2 b2
    refine ev_iload_n (i := 1) rfl rfl (a_dec_at dc_R_undo 9 rfl) ?_
    refine ev_aload_n (i := 0) rfl rfl (a_dec_at dc_R_undo 10 rfl) ?_
    refine m_getR (y := 120) fl_R_13 rfl sh119 (mr_119_1 _) (by decide) (a_dec_at dc_R_undo 11 rfl) ?_
    refine ev_bipush (v := 69) rfl (a_dec_at dc_R_undo 12 rfl) ?_
    refine w_iald (k := 69) sh120 (by unfold vp_in; decide) (by decide) (a_dec_at dc_R_undo 13 rfl) ?_
    refine ev_icmp_le (tgt := 31) (a_dec_at dc_R_undo 14 rfl) (by decide) (fun b3 => ?_) (fun b3 => ?_)
    · have H := H.1 b3
      refine ev_aload_n (i := 0) rfl rfl (a_dec_at dc_R_undo 17 rfl) ?_
      refine m_getR (y := 120) fl_R_13 rfl sh119 (mr_119_1 _) (by decide) (a_dec_at dc_R_undo 18 rfl) ?_
      refine ev_bipush (v := 69) rfl (a_dec_at dc_R_undo 19 rfl) ?_
      refine ev_dup2 rfl rfl (a_dec_at dc_R_undo 20 rfl) ?_
      refine w_iald (k := 69) sh120 (by unfold vp_in; decide) (by decide) (a_dec_at dc_R_undo 21 rfl) ?_
      refine ev_iload_n (i := 1) rfl rfl (a_dec_at dc_R_undo 22 rfl) ?_
      refine ev_isub (a_dec_at dc_R_undo 23 rfl) ?_
      refine w_iast (k := 69) sh120 (by unfold vp_in; decide) (by decide) (a_dec_at dc_R_undo 24 rfl) ?_
      refine ev_iconst (v := 0) rfl (a_dec_at dc_R_undo 25 rfl) ?_
      refine ev_istore_n (i := 2) rfl (by decide) rfl (a_dec_at dc_R_undo 26 rfl) ?_
      exact Ev.drop (L' := [.ref 119, .retAddr 0, .int 0]) (And.intro rfl (And.intro rfl trivial)) H
    · have H := H.2 b3
      refine ev_bipush (v := (-3)) rfl (a_dec_at dc_R_undo 15 rfl) ?_
      exact m_retI (a_dec_at dc_R_undo 16 rfl) rfl rfl H
set_option maxRecDepth 20000 in
theorem t_R_undo_44 {l : Launch} {h : Nat} (mi : TMi) (ml : TMl) (z : Nat) (v2 : Int32) {Q : Int32 → TMi → TMl → Nat → Prop} (H : ((40 ≤ v2 → Q (mi 120 69) mi ml z) ∧ (¬ 40 ≤ v2 → (vp_in ((70 + (40 * (mi 120 69))) + v2) 4113) ∧ (vp_in (29 + v2) 4113) ∧ Ev l (h + 1) m_R_undo 44 ([.ref 119, .retAddr 0, .int (v2 + 1)], [], st (up mi 120 ((29 + v2).toNatClampNeg) (mi 120 (((70 + (40 * (mi 120 69))) + v2).toNatClampNeg))) ml z) (qI Q)))) : Ev l (h + 1) m_R_undo 44 ([.ref 119, .retAddr 0, .int v2], [], st mi ml z) (qI Q) := by
  refine ev_iload_n (i := 2) rfl rfl (a_dec_at dc_R_undo 27 rfl) ?_
  refine ev_bipush (v := 40) rfl (a_dec_at dc_R_undo 28 rfl) ?_
  refine ev_icmp_ge (tgt := 85) (a_dec_at dc_R_undo 29 rfl) (by decide) (fun b1 => ?_) (fun b1 => ?_)
  · have H := H.1 b1
    refine ev_aload_n (i := 0) rfl rfl (a_dec_at dc_R_undo 51 rfl) ?_
    refine m_getR (y := 120) fl_R_13 rfl sh119 (mr_119_1 _) (by decide) (a_dec_at dc_R_undo 52 rfl) ?_
    refine ev_bipush (v := 69) rfl (a_dec_at dc_R_undo 53 rfl) ?_
    refine w_iald (k := 69) sh120 (by unfold vp_in; decide) (by decide) (a_dec_at dc_R_undo 54 rfl) ?_
    exact m_retI (a_dec_at dc_R_undo 55 rfl) rfl rfl H
  · have H := H.2 b1
    refine ev_aload_n (i := 0) rfl rfl (a_dec_at dc_R_undo 30 rfl) ?_
    refine m_getR (y := 120) fl_R_13 rfl sh119 (mr_119_1 _) (by decide) (a_dec_at dc_R_undo 31 rfl) ?_
    refine ev_bipush (v := 29) rfl (a_dec_at dc_R_undo 32 rfl) ?_
    refine ev_iload_n (i := 2) rfl rfl (a_dec_at dc_R_undo 33 rfl) ?_
    refine ev_iadd (a_dec_at dc_R_undo 34 rfl) ?_
    refine ev_aload_n (i := 0) rfl rfl (a_dec_at dc_R_undo 35 rfl) ?_
    refine m_getR (y := 120) fl_R_13 rfl sh119 (mr_119_1 _) (by decide) (a_dec_at dc_R_undo 36 rfl) ?_
    refine ev_bipush (v := 70) rfl (a_dec_at dc_R_undo 37 rfl) ?_
    refine ev_bipush (v := 40) rfl (a_dec_at dc_R_undo 38 rfl) ?_
    refine ev_aload_n (i := 0) rfl rfl (a_dec_at dc_R_undo 39 rfl) ?_
    refine m_getR (y := 120) fl_R_13 rfl sh119 (mr_119_1 _) (by decide) (a_dec_at dc_R_undo 40 rfl) ?_
    refine ev_bipush (v := 69) rfl (a_dec_at dc_R_undo 41 rfl) ?_
    refine w_iald (k := 69) sh120 (by unfold vp_in; decide) (by decide) (a_dec_at dc_R_undo 42 rfl) ?_
    refine ev_imul (a_dec_at dc_R_undo 43 rfl) ?_
    refine ev_iadd (a_dec_at dc_R_undo 44 rfl) ?_
    refine ev_iload_n (i := 2) rfl rfl (a_dec_at dc_R_undo 45 rfl) ?_
    refine ev_iadd (a_dec_at dc_R_undo 46 rfl) ?_
    obtain ⟨c2, H⟩ := H
    refine w_iald (k := ((70 + (40 * (mi 120 69))) + v2).toNatClampNeg) sh120 c2 rfl (a_dec_at dc_R_undo 47 rfl) ?_
    obtain ⟨c3, H⟩ := H
    refine w_iast (k := (29 + v2).toNatClampNeg) sh120 c3 rfl (a_dec_at dc_R_undo 48 rfl) ?_
    refine ev_iinc (v := 1) rfl rfl (by decide) rfl (a_dec_at dc_R_undo 49 rfl) ?_
    refine ev_goto (tgt := 44) (a_dec_at dc_R_undo 50 rfl) (by decide) ?_
    exact Ev.drop (L' := [.ref 119, .retAddr 0, .int (v2 + 1)]) (And.intro rfl (And.intro rfl trivial)) H
set_option maxRecDepth 20000 in
theorem t_R_judge {l : Launch} {h : Nat} (mi : TMi) (ml : TMl) (z : Nat) (a1 : Int32) (a2 : Int32) {Q : Int32 → TMi → TMl → Nat → Prop} (H : CI l h m_R_within [.long a2.toInt64, .long 0, .long 3] (up mi 119 0 0) ml z (fun x1 mi1 ml1 z1 => ((¬ x1 = 0 → CI l h m_R_noTray [.ref 119, .int a1] mi1 ml1 z1 (fun x3 mi3 ml3 z3 => ((x3 = 0 → CV l h m_R_keeps [.ref 119] mi3 ml3 z3 (fun mi5 ml5 z5 => CI l h m_R_tells [.ref 119, .int a1] mi5 ml5 z5 (fun x6 mi6 ml6 z6 => CI l h m_R_becksIn [.ref 119, .int (-1)] mi6 ml6 z6 (fun x7 mi7 ml7 z7 => CI l h m_R_floodSet [.ref 119] mi7 ml7 z7 (fun x8 mi8 ml8 z8 => CV l h m_R_isAgain [.ref 119] mi8 ml8 z8 (fun mi9 ml9 z9 => ((¬ a2 = 0 → ((¬ a2 = 1 → ((¬ a2 = 2 → Q x8 mi9 ml9 z9) ∧ (a2 = 2 → Q x7 mi9 ml9 z9))) ∧ (a2 = 1 → Q (mi9 119 21) mi9 ml9 z9))) ∧ (a2 = 0 → ((¬ (mi9 119 21) = 0 → Q x6 mi9 ml9 z9) ∧ ((mi9 119 21) = 0 → Q (-1) mi9 ml9 z9)))))))))) ∧ (¬ x3 = 0 → Q x3 mi3 ml3 z3)))) ∧ (x1 = 0 → Q (-2) mi1 ml1 z1)))) : CI l (h + 1) m_R_judge [.ref 119, .int a1, .int a2] mi ml z Q := by
  show Ev l (h + 1) m_R_judge 0 ([.ref 119, .int a1, .int a2, .retAddr 0, .retAddr 0, .retAddr 0, .retAddr 0], [], st mi ml z) (qI Q)
  refine ev_aload_n (i := 0) rfl rfl (a_dec_at dc_R_judge 0 rfl) ?_
  refine ev_iconst (v := 0) rfl (a_dec_at dc_R_judge 1 rfl) ?_
  refine m_putI fl_R_1 rfl (fun _ _ _ h => by cases h; exact Or.inl rfl) sh119 (a_dec_at dc_R_judge 2 rfl) ?_
  refine ev_iload_n (i := 2) rfl rfl (a_dec_at dc_R_judge 3 rfl) ?_
  refine ev_i2l (a_dec_at dc_R_judge 4 rfl) ?_
  refine ev_lconst (v := 0) rfl (a_dec_at dc_R_judge 5 rfl) ?_
  refine ev_ldc2 kc_R_320 (a_dec_at dc_R_judge 6 rfl) ?_
  refine cS3I cs_R_139 rfl (Nat.le_of_ble_eq_true rfl) (Nat.le_of_ble_eq_true rfl) (a_dec_at dc_R_judge 7 rfl) ?_
  refine CI.mono (fun x1 mi1 ml1 z1 H => ?_) H
  refine ev_if_ne (tgt := 20) (a_dec_at dc_R_judge 8 rfl) (by decide) (fun b2 => ?_) (fun b2 => ?_)
  · have H := H.1 b2
    refine ev_aload_n (i := 0) rfl rfl (a_dec_at dc_R_judge 11 rfl) ?_
    refine ev_iload_n (i := 1) rfl rfl (a_dec_at dc_R_judge 12 rfl) ?_
    refine cV1I cs_R_322 sh119 rfl (Nat.le_of_ble_eq_true rfl) (Nat.le_of_ble_eq_true rfl) (a_dec_at dc_R_judge 13 rfl) ?_
    refine CI.mono (fun x3 mi3 ml3 z3 H => ?_) H
    refine ev_istore_n (i := 3) rfl (by decide) rfl (a_dec_at dc_R_judge 14 rfl) ?_
    refine ev_iload_n (i := 3) rfl rfl (a_dec_at dc_R_judge 15 rfl) ?_
    refine ev_if_eq (tgt := 32) (a_dec_at dc_R_judge 16 rfl) (by decide) (fun b4 => ?_) (fun b4 => ?_)
    · have H := H.1 b4
      refine ev_aload_n (i := 0) rfl rfl (a_dec_at dc_R_judge 19 rfl) ?_
      refine cV0V cs_R_271 sh119 rfl (Nat.le_of_ble_eq_true rfl) (Nat.le_of_ble_eq_true rfl) (a_dec_at dc_R_judge 20 rfl) ?_
      refine CV.mono (fun mi5 ml5 z5 H => ?_) H
      refine ev_aload_n (i := 0) rfl rfl (a_dec_at dc_R_judge 21 rfl) ?_
      refine ev_iload_n (i := 1) rfl rfl (a_dec_at dc_R_judge 22 rfl) ?_
      refine cV1I cs_R_325 sh119 rfl (Nat.le_of_ble_eq_true rfl) (Nat.le_of_ble_eq_true rfl) (a_dec_at dc_R_judge 23 rfl) ?_
      refine CI.mono (fun x6 mi6 ml6 z6 H => ?_) H
      refine ev_istore (by decide) rfl (a_dec_at dc_R_judge 24 rfl) ?_
      refine ev_aload_n (i := 0) rfl rfl (a_dec_at dc_R_judge 25 rfl) ?_
      refine ev_iconst (v := (-1)) rfl (a_dec_at dc_R_judge 26 rfl) ?_
      refine cV1I cs_R_246 sh119 rfl (Nat.le_of_ble_eq_true rfl) (Nat.le_of_ble_eq_true rfl) (a_dec_at dc_R_judge 27 rfl) ?_
      refine CI.mono (fun x7 mi7 ml7 z7 H => ?_) H
      refine ev_istore (by decide) rfl (a_dec_at dc_R_judge 28 rfl) ?_
      refine ev_aload_n (i := 0) rfl rfl (a_dec_at dc_R_judge 29 rfl) ?_
      refine cV0I cs_R_328 sh119 rfl (Nat.le_of_ble_eq_true rfl) (Nat.le_of_ble_eq_true rfl) (a_dec_at dc_R_judge 30 rfl) ?_
      refine CI.mono (fun x8 mi8 ml8 z8 H => ?_) H
      refine ev_istore (by decide) rfl (a_dec_at dc_R_judge 31 rfl) ?_
      refine ev_aload_n (i := 0) rfl rfl (a_dec_at dc_R_judge 32 rfl) ?_
      refine cV0V cs_R_331 sh119 rfl (Nat.le_of_ble_eq_true rfl) (Nat.le_of_ble_eq_true rfl) (a_dec_at dc_R_judge 33 rfl) ?_
      refine CV.mono (fun mi9 ml9 z9 H => ?_) H
      refine ev_iload_n (i := 2) rfl rfl (a_dec_at dc_R_judge 34 rfl) ?_
      refine ev_if_ne (tgt := 80) (a_dec_at dc_R_judge 35 rfl) (by decide) (fun b10 => ?_) (fun b10 => ?_)
      · have H := H.1 b10
        refine ev_iload_n (i := 2) rfl rfl (a_dec_at dc_R_judge 43 rfl) ?_
        refine ev_iconst (v := 1) rfl (a_dec_at dc_R_judge 44 rfl) ?_
        refine ev_icmp_ne (tgt := 92) (a_dec_at dc_R_judge 45 rfl) (by decide) (fun b11 => ?_) (fun b11 => ?_)
        · have H := H.1 b11
          refine ev_iload_n (i := 2) rfl rfl (a_dec_at dc_R_judge 49 rfl) ?_
          refine ev_iconst (v := 2) rfl (a_dec_at dc_R_judge 50 rfl) ?_
          refine ev_icmp_ne (tgt := 102) (a_dec_at dc_R_judge 51 rfl) (by decide) (fun b12 => ?_) (fun b12 => ?_)
          · have H := H.1 b12
            refine ev_iload rfl (a_dec_at dc_R_judge 54 rfl) ?_
            exact m_retI (a_dec_at dc_R_judge 55 rfl) rfl rfl H
          · have H := H.2 b12
            refine ev_iload rfl (a_dec_at dc_R_judge 52 rfl) ?_
            refine ev_goto (tgt := 104) (a_dec_at dc_R_judge 53 rfl) (by decide) ?_
            exact m_retI (a_dec_at dc_R_judge 55 rfl) rfl rfl H
        · have H := H.2 b11
          refine ev_aload_n (i := 0) rfl rfl (a_dec_at dc_R_judge 46 rfl) ?_
          refine m_getI fl_R_311 rfl sh119 (a_dec_at dc_R_judge 47 rfl) ?_
          refine ev_goto (tgt := 104) (a_dec_at dc_R_judge 48 rfl) (by decide) ?_
          exact m_retI (a_dec_at dc_R_judge 55 rfl) rfl rfl H
      · have H := H.2 b10
        refine ev_aload_n (i := 0) rfl rfl (a_dec_at dc_R_judge 36 rfl) ?_
        refine m_getI fl_R_311 rfl sh119 (a_dec_at dc_R_judge 37 rfl) ?_
        refine ev_if_ne (tgt := 75) (a_dec_at dc_R_judge 38 rfl) (by decide) (fun b13 => ?_) (fun b13 => ?_)
        · have H := H.1 b13
          refine ev_iload rfl (a_dec_at dc_R_judge 41 rfl) ?_
          refine ev_goto (tgt := 104) (a_dec_at dc_R_judge 42 rfl) (by decide) ?_
          exact m_retI (a_dec_at dc_R_judge 55 rfl) rfl rfl H
        · have H := H.2 b13
          refine ev_iconst (v := (-1)) rfl (a_dec_at dc_R_judge 39 rfl) ?_
          refine ev_goto (tgt := 104) (a_dec_at dc_R_judge 40 rfl) (by decide) ?_
          exact m_retI (a_dec_at dc_R_judge 55 rfl) rfl rfl H
    · have H := H.2 b4
      refine ev_iload_n (i := 3) rfl rfl (a_dec_at dc_R_judge 17 rfl) ?_
      exact m_retI (a_dec_at dc_R_judge 18 rfl) rfl rfl H
  · have H := H.2 b2
    refine ev_bipush (v := (-2)) rfl (a_dec_at dc_R_judge 9 rfl) ?_
    exact m_retI (a_dec_at dc_R_judge 10 rfl) rfl rfl H
set_option maxRecDepth 20000 in
theorem t_R_noTray {l : Launch} {h : Nat} (mi : TMi) (ml : TMl) (z : Nat) (a1 : Int32) {Q : Int32 → TMi → TMl → Nat → Prop} (H : CI l h m_R_within [.long a1.toInt64, .long 0, .long 3] mi ml z (fun x1 mi1 ml1 z1 => ((¬ x1 = 0 → (vp_in a1 4) ∧ ((¬ (mi1 134 a1.toNatClampNeg) = (-1) → Q 0 mi1 ml1 z1) ∧ ((mi1 134 a1.toNatClampNeg) = (-1) → Q (-6) mi1 ml1 z1))) ∧ (x1 = 0 → Q (-2) mi1 ml1 z1)))) : CI l (h + 1) m_R_noTray [.ref 119, .int a1] mi ml z Q := by
  show Ev l (h + 1) m_R_noTray 0 ([.ref 119, .int a1], [], st mi ml z) (qI Q)
  refine ev_iload_n (i := 1) rfl rfl (a_dec_at dc_R_noTray 0 rfl) ?_
  refine ev_i2l (a_dec_at dc_R_noTray 1 rfl) ?_
  refine ev_lconst (v := 0) rfl (a_dec_at dc_R_noTray 2 rfl) ?_
  refine ev_ldc2 kc_R_320 (a_dec_at dc_R_noTray 3 rfl) ?_
  refine cS3I cs_R_139 rfl (Nat.le_of_ble_eq_true rfl) (Nat.le_of_ble_eq_true rfl) (a_dec_at dc_R_noTray 4 rfl) ?_
  refine CI.mono (fun x1 mi1 ml1 z1 H => ?_) H
  refine ev_if_ne (tgt := 17) (a_dec_at dc_R_noTray 5 rfl) (by decide) (fun b2 => ?_) (fun b2 => ?_)
  · have H := H.1 b2
    refine ev_aload_n (i := 0) rfl rfl (a_dec_at dc_R_noTray 8 rfl) ?_
    refine m_getR (y := 134) fl_R_63 rfl sh119 (mr_119_32 _) (by decide) (a_dec_at dc_R_noTray 9 rfl) ?_
    refine ev_iload_n (i := 1) rfl rfl (a_dec_at dc_R_noTray 10 rfl) ?_
    obtain ⟨c3, H⟩ := H
    refine w_iald (k := a1.toNatClampNeg) sh134 c3 rfl (a_dec_at dc_R_noTray 11 rfl) ?_
    refine ev_iconst (v := (-1)) rfl (a_dec_at dc_R_noTray 12 rfl) ?_
    refine ev_icmp_ne (tgt := 32) (a_dec_at dc_R_noTray 13 rfl) (by decide) (fun b4 => ?_) (fun b4 => ?_)
    · have H := H.1 b4
      refine ev_iconst (v := 0) rfl (a_dec_at dc_R_noTray 16 rfl) ?_
      exact m_retI (a_dec_at dc_R_noTray 17 rfl) rfl rfl H
    · have H := H.2 b4
      refine ev_bipush (v := (-6)) rfl (a_dec_at dc_R_noTray 14 rfl) ?_
      refine ev_goto (tgt := 33) (a_dec_at dc_R_noTray 15 rfl) (by decide) ?_
      exact m_retI (a_dec_at dc_R_noTray 17 rfl) rfl rfl H
  · have H := H.2 b2
    refine ev_bipush (v := (-2)) rfl (a_dec_at dc_R_noTray 6 rfl) ?_
    refine ev_goto (tgt := 33) (a_dec_at dc_R_noTray 7 rfl) (by decide) ?_
    exact m_retI (a_dec_at dc_R_noTray 17 rfl) rfl rfl H
set_option maxRecDepth 20000 in
theorem t_R_tells {l : Launch} {h : Nat} (mi : TMi) (ml : TMl) (z : Nat) (a1 : Int32) {Q : Int32 → TMi → TMl → Nat → Prop} (H : Ev l (h + 1) m_R_tells 7 ([.ref 119, .int a1, .int 0], [], st (up mi 119 21 0) ml z) (qI Q)) : CI l (h + 1) m_R_tells [.ref 119, .int a1] mi ml z Q := by
  show Ev l (h + 1) m_R_tells 0 ([.ref 119, .int a1, .retAddr 0], [], st mi ml z) (qI Q)
  refine ev_aload_n (i := 0) rfl rfl (a_dec_at dc_R_tells 0 rfl) ?_
  refine ev_iconst (v := 0) rfl (a_dec_at dc_R_tells 1 rfl) ?_
  refine m_putI fl_R_311 rfl (fun _ _ _ h => by cases h; exact Or.inl rfl) sh119 (a_dec_at dc_R_tells 2 rfl) ?_
  refine ev_iconst (v := 0) rfl (a_dec_at dc_R_tells 3 rfl) ?_
  refine ev_istore_n (i := 2) rfl (by decide) rfl (a_dec_at dc_R_tells 4 rfl) ?_
  exact Ev.drop (L' := [.ref 119, .int a1, .int 0]) (And.intro rfl (And.intro rfl (And.intro rfl trivial))) H
set_option maxRecDepth 20000 in
theorem t_R_tells_7 {l : Launch} {h : Nat} (mi : TMi) (ml : TMl) (z : Nat) (v1 : Int32) (v2 : Int32) {Q : Int32 → TMi → TMl → Nat → Prop} (H : (vp_in v1 4) ∧ (((mi 135 v1.toNatClampNeg) ≤ v2 → (vp_in v1 4) ∧ Q (mi 135 v1.toNatClampNeg) mi ml z) ∧ (¬ (mi 135 v1.toNatClampNeg) ≤ v2 → (vp_in ((40 * v1) + v2) 160) ∧ CI l h m_R_whyNot [.ref 119, .long (ml 136 (((40 * v1) + v2).toNatClampNeg))] mi ml z (fun x5 mi5 ml5 z5 => ((((up mi5 119 21 x5) 119 21) = 0 → (vp_in ((40 * v1) + v2) 160) ∧ CV l h m_R_does [.ref 119, .int ((ml5 136 (((40 * v1) + v2).toNatClampNeg)).toInt32)] (up mi5 119 21 x5) ml5 z5 (fun mi8 ml8 z8 => Ev l (h + 1) m_R_tells 7 ([.ref 119, .int v1, .int (v2 + 1)], [], st mi8 ml8 z8) (qI Q))) ∧ (¬ ((up mi5 119 21 x5) 119 21) = 0 → Q v2 (up mi5 119 21 x5) ml5 z5)))))) : Ev l (h + 1) m_R_tells 7 ([.ref 119, .int v1, .int v2], [], st mi ml z) (qI Q) := by
  refine ev_iload_n (i := 2) rfl rfl (a_dec_at dc_R_tells 5 rfl) ?_
  refine ev_aload_n (i := 0) rfl rfl (a_dec_at dc_R_tells 6 rfl) ?_
  refine m_getR (y := 135) fl_R_66 rfl sh119 (mr_119_33 _) (by decide) (a_dec_at dc_R_tells 7 rfl) ?_
  refine ev_iload_n (i := 1) rfl rfl (a_dec_at dc_R_tells 8 rfl) ?_
  obtain ⟨c1, H⟩ := H
  refine w_iald (k := v1.toNatClampNeg) sh135 c1 rfl (a_dec_at dc_R_tells 9 rfl) ?_
  refine ev_icmp_ge (tgt := 67) (a_dec_at dc_R_tells 10 rfl) (by decide) (fun b2 => ?_) (fun b2 => ?_)
  · have H := H.1 b2
    refine ev_aload_n (i := 0) rfl rfl (a_dec_at dc_R_tells 41 rfl) ?_
    refine m_getR (y := 135) fl_R_66 rfl sh119 (mr_119_33 _) (by decide) (a_dec_at dc_R_tells 42 rfl) ?_
    refine ev_iload_n (i := 1) rfl rfl (a_dec_at dc_R_tells 43 rfl) ?_
    obtain ⟨c3, H⟩ := H
    refine w_iald (k := v1.toNatClampNeg) sh135 c3 rfl (a_dec_at dc_R_tells 44 rfl) ?_
    exact m_retI (a_dec_at dc_R_tells 45 rfl) rfl rfl H
  · have H := H.2 b2
    refine ev_aload_n (i := 0) rfl rfl (a_dec_at dc_R_tells 11 rfl) ?_
    refine ev_aload_n (i := 0) rfl rfl (a_dec_at dc_R_tells 12 rfl) ?_
    refine ev_aload_n (i := 0) rfl rfl (a_dec_at dc_R_tells 13 rfl) ?_
    refine m_getR (y := 136) fl_R_69 rfl sh119 (mr_119_34 _) (by decide) (a_dec_at dc_R_tells 14 rfl) ?_
    refine ev_bipush (v := 40) rfl (a_dec_at dc_R_tells 15 rfl) ?_
    refine ev_iload_n (i := 1) rfl rfl (a_dec_at dc_R_tells 16 rfl) ?_
    refine ev_imul (a_dec_at dc_R_tells 17 rfl) ?_
    refine ev_iload_n (i := 2) rfl rfl (a_dec_at dc_R_tells 18 rfl) ?_
    refine ev_iadd (a_dec_at dc_R_tells 19 rfl) ?_
    obtain ⟨c4, H⟩ := H
    refine w_lald (k := ((40 * v1) + v2).toNatClampNeg) sh136 c4 rfl (a_dec_at dc_R_tells 20 rfl) ?_
    refine cV1I cs_R_314 sh119 rfl (Nat.le_of_ble_eq_true rfl) (Nat.le_of_ble_eq_true rfl) (a_dec_at dc_R_tells 21 rfl) ?_
    refine CI.mono (fun x5 mi5 ml5 z5 H => ?_) H
    refine m_putI fl_R_311 rfl (fun _ _ _ h => by cases h; exact Or.inl rfl) sh119 (a_dec_at dc_R_tells 22 rfl) ?_
    refine ev_aload_n (i := 0) rfl rfl (a_dec_at dc_R_tells 23 rfl) ?_
    refine m_getI fl_R_311 rfl sh119 (a_dec_at dc_R_tells 24 rfl) ?_
    refine ev_if_eq (tgt := 45) (a_dec_at dc_R_tells 25 rfl) (by decide) (fun b6 => ?_) (fun b6 => ?_)
    · have H := H.1 b6
      refine ev_aload_n (i := 0) rfl rfl (a_dec_at dc_R_tells 28 rfl) ?_
      refine ev_aload_n (i := 0) rfl rfl (a_dec_at dc_R_tells 29 rfl) ?_
      refine m_getR (y := 136) fl_R_69 rfl sh119 (mr_119_34 _) (by decide) (a_dec_at dc_R_tells 30 rfl) ?_
      refine ev_bipush (v := 40) rfl (a_dec_at dc_R_tells 31 rfl) ?_
      refine ev_iload_n (i := 1) rfl rfl (a_dec_at dc_R_tells 32 rfl) ?_
      refine ev_imul (a_dec_at dc_R_tells 33 rfl) ?_
      refine ev_iload_n (i := 2) rfl rfl (a_dec_at dc_R_tells 34 rfl) ?_
      refine ev_iadd (a_dec_at dc_R_tells 35 rfl) ?_
      obtain ⟨c7, H⟩ := H
      refine w_lald (k := ((40 * v1) + v2).toNatClampNeg) sh136 c7 rfl (a_dec_at dc_R_tells 36 rfl) ?_
      refine ev_l2i (a_dec_at dc_R_tells 37 rfl) ?_
      refine cV1V cs_R_317 sh119 rfl (Nat.le_of_ble_eq_true rfl) (Nat.le_of_ble_eq_true rfl) (a_dec_at dc_R_tells 38 rfl) ?_
      refine CV.mono (fun mi8 ml8 z8 H => ?_) H
      refine ev_iinc (v := 1) rfl rfl (by decide) rfl (a_dec_at dc_R_tells 39 rfl) ?_
      refine ev_goto (tgt := 7) (a_dec_at dc_R_tells 40 rfl) (by decide) ?_
      exact Ev.drop (L' := [.ref 119, .int v1, .int (v2 + 1)]) (And.intro rfl (And.intro rfl (And.intro rfl trivial))) H
    · have H := H.2 b6
      refine ev_iload_n (i := 2) rfl rfl (a_dec_at dc_R_tells 26 rfl) ?_
      exact m_retI (a_dec_at dc_R_tells 27 rfl) rfl rfl H
set_option maxRecDepth 20000 in
theorem t_R_whyNot {l : Launch} {h : Nat} (mi : TMi) (ml : TMl) (z : Nat) (a1 : Int64) {Q : Int32 → TMi → TMl → Nat → Prop} (H : CI l h m_R_within [.long a1, .long 0, .long 99] mi ml z (fun x1 mi1 ml1 z1 => ((x1 = 0 → CI l h m_R_within [.long a1, .long 100, .long 109] mi1 ml1 z1 (fun x3 mi3 ml3 z3 => ((x3 = 0 → CI l h m_R_within [.long a1, .long 200, .long 299] mi3 ml3 z3 (fun x5 mi5 ml5 z5 => ((x5 = 0 → CI l h m_R_within [.long a1, .long 300, .long 399] mi5 ml5 z5 (fun x7 mi7 ml7 z7 => ((x7 = 0 → CI l h m_R_within [.long a1, .long 400, .long 499] mi7 ml7 z7 (fun x9 mi9 ml9 z9 => ((x9 = 0 → Q 1 mi9 ml9 z9) ∧ (¬ x9 = 0 → CI l h m_R_isRiver [.ref 119, .long ((a_reml a1 100) / 10)] mi9 ml9 z9 (fun x11 mi11 ml11 z11 => ((x11 = 0 → Q 1 mi11 ml11 z11) ∧ (¬ x11 = 0 → ((0 < (lg_cmp (a_reml a1 10) 6) → Q 1 mi11 ml11 z11) ∧ (¬ 0 < (lg_cmp (a_reml a1 10) 6) → Q 0 mi11 ml11 z11))))))))) ∧ (¬ x7 = 0 → CI l h m_R_isBeck [.ref 119, .long ((a_reml a1 100) / 10)] mi7 ml7 z7 (fun x14 mi14 ml14 z14 => ((x14 = 0 → Q 1 mi14 ml14 z14) ∧ (¬ x14 = 0 → Q 0 mi14 ml14 z14))))))) ∧ (¬ x5 = 0 → CI l h m_R_whySend [.ref 119, .long ((a_reml a1 100) / 10), .long (a_reml a1 10), .long 1] mi5 ml5 z5 (fun x16 mi16 ml16 z16 => Q x16 mi16 ml16 z16))))) ∧ (¬ x3 = 0 → CI l h m_R_whyLeave [.ref 119, .long (a_reml a1 10)] mi3 ml3 z3 (fun x17 mi17 ml17 z17 => Q x17 mi17 ml17 z17))))) ∧ (¬ x1 = 0 → CI l h m_R_whyDeclare [.ref 119, .long ((a_reml a1 100) / 10), .long (a_reml a1 10)] mi1 ml1 z1 (fun x18 mi18 ml18 z18 => Q x18 mi18 ml18 z18))))) : CI l (h + 1) m_R_whyNot [.ref 119, .long a1] mi ml z Q := by
  show Ev l (h + 1) m_R_whyNot 0 ([.ref 119, .long a1, .retAddr 0, .retAddr 0, .retAddr 0, .retAddr 0, .retAddr 0], [], st mi ml z) (qI Q)
  refine ev_lload_n (i := 1) rfl rfl (a_dec_at dc_R_whyNot 0 rfl) ?_
  refine ev_ldc2 kc_R_293 (a_dec_at dc_R_whyNot 1 rfl) ?_
  refine ev_lrem (by decide) (a_dec_at dc_R_whyNot 2 rfl) ?_
  refine ev_ldc2 kc_R_291 (a_dec_at dc_R_whyNot 3 rfl) ?_
  refine ev_ldiv (by decide) (a_dec_at dc_R_whyNot 4 rfl) ?_
  refine ev_lstore_n (i := 3) rfl (by decide) rfl (a_dec_at dc_R_whyNot 5 rfl) ?_
  refine ev_lload_n (i := 1) rfl rfl (a_dec_at dc_R_whyNot 6 rfl) ?_
  refine ev_ldc2 kc_R_291 (a_dec_at dc_R_whyNot 7 rfl) ?_
  refine ev_lrem (by decide) (a_dec_at dc_R_whyNot 8 rfl) ?_
  refine ev_lstore (by decide) rfl (a_dec_at dc_R_whyNot 9 rfl) ?_
  refine ev_lload_n (i := 1) rfl rfl (a_dec_at dc_R_whyNot 10 rfl) ?_
  refine ev_lconst (v := 0) rfl (a_dec_at dc_R_whyNot 11 rfl) ?_
  refine ev_ldc2 kc_R_295 (a_dec_at dc_R_whyNot 12 rfl) ?_
  refine cS3I cs_R_139 rfl (Nat.le_of_ble_eq_true rfl) (Nat.le_of_ble_eq_true rfl) (a_dec_at dc_R_whyNot 13 rfl) ?_
  refine CI.mono (fun x1 mi1 ml1 z1 H => ?_) H
  refine ev_if_eq (tgt := 36) (a_dec_at dc_R_whyNot 14 rfl) (by decide) (fun b2 => ?_) (fun b2 => ?_)
  · have H := H.1 b2
    refine ev_lload_n (i := 1) rfl rfl (a_dec_at dc_R_whyNot 20 rfl) ?_
    refine ev_ldc2 kc_R_293 (a_dec_at dc_R_whyNot 21 rfl) ?_
    refine ev_ldc2 kc_R_297 (a_dec_at dc_R_whyNot 22 rfl) ?_
    refine cS3I cs_R_139 rfl (Nat.le_of_ble_eq_true rfl) (Nat.le_of_ble_eq_true rfl) (a_dec_at dc_R_whyNot 23 rfl) ?_
    refine CI.mono (fun x3 mi3 ml3 z3 H => ?_) H
    refine ev_if_eq (tgt := 56) (a_dec_at dc_R_whyNot 24 rfl) (by decide) (fun b4 => ?_) (fun b4 => ?_)
    · have H := H.1 b4
      refine ev_lload_n (i := 1) rfl rfl (a_dec_at dc_R_whyNot 29 rfl) ?_
      refine ev_ldc2 kc_R_299 (a_dec_at dc_R_whyNot 30 rfl) ?_
      refine ev_ldc2 kc_R_301 (a_dec_at dc_R_whyNot 31 rfl) ?_
      refine cS3I cs_R_139 rfl (Nat.le_of_ble_eq_true rfl) (Nat.le_of_ble_eq_true rfl) (a_dec_at dc_R_whyNot 32 rfl) ?_
      refine CI.mono (fun x5 mi5 ml5 z5 H => ?_) H
      refine ev_if_eq (tgt := 78) (a_dec_at dc_R_whyNot 33 rfl) (by decide) (fun b6 => ?_) (fun b6 => ?_)
      · have H := H.1 b6
        refine ev_lload_n (i := 1) rfl rfl (a_dec_at dc_R_whyNot 40 rfl) ?_
        refine ev_ldc2 kc_R_303 (a_dec_at dc_R_whyNot 41 rfl) ?_
        refine ev_ldc2 kc_R_305 (a_dec_at dc_R_whyNot 42 rfl) ?_
        refine cS3I cs_R_139 rfl (Nat.le_of_ble_eq_true rfl) (Nat.le_of_ble_eq_true rfl) (a_dec_at dc_R_whyNot 43 rfl) ?_
        refine CI.mono (fun x7 mi7 ml7 z7 H => ?_) H
        refine ev_if_eq (tgt := 105) (a_dec_at dc_R_whyNot 44 rfl) (by decide) (fun b8 => ?_) (fun b8 => ?_)
        · have H := H.1 b8
          refine ev_lload_n (i := 1) rfl rfl (a_dec_at dc_R_whyNot 53 rfl) ?_
          refine ev_ldc2 kc_R_307 (a_dec_at dc_R_whyNot 54 rfl) ?_
          refine ev_ldc2 kc_R_309 (a_dec_at dc_R_whyNot 55 rfl) ?_
          refine cS3I cs_R_139 rfl (Nat.le_of_ble_eq_true rfl) (Nat.le_of_ble_eq_true rfl) (a_dec_at dc_R_whyNot 56 rfl) ?_
          refine CI.mono (fun x9 mi9 ml9 z9 H => ?_) H
          refine ev_if_eq (tgt := 139) (a_dec_at dc_R_whyNot 57 rfl) (by decide) (fun b10 => ?_) (fun b10 => ?_)
          · have H := H.1 b10
            refine ev_iconst (v := 1) rfl (a_dec_at dc_R_whyNot 68 rfl) ?_
            exact m_retI (a_dec_at dc_R_whyNot 69 rfl) rfl rfl H
          · have H := H.2 b10
            refine ev_aload_n (i := 0) rfl rfl (a_dec_at dc_R_whyNot 58 rfl) ?_
            refine ev_lload_n (i := 3) rfl rfl (a_dec_at dc_R_whyNot 59 rfl) ?_
            refine cV1I cs_R_243 sh119 rfl (Nat.le_of_ble_eq_true rfl) (Nat.le_of_ble_eq_true rfl) (a_dec_at dc_R_whyNot 60 rfl) ?_
            refine CI.mono (fun x11 mi11 ml11 z11 H => ?_) H
            refine ev_if_eq (tgt := 139) (a_dec_at dc_R_whyNot 61 rfl) (by decide) (fun b12 => ?_) (fun b12 => ?_)
            · have H := H.1 b12
              refine ev_iconst (v := 1) rfl (a_dec_at dc_R_whyNot 68 rfl) ?_
              exact m_retI (a_dec_at dc_R_whyNot 69 rfl) rfl rfl H
            · have H := H.2 b12
              refine ev_lload rfl (a_dec_at dc_R_whyNot 62 rfl) ?_
              refine ev_ldc2 kc_R_289 (a_dec_at dc_R_whyNot 63 rfl) ?_
              refine ev_lcmp (a_dec_at dc_R_whyNot 64 rfl) ?_
              refine ev_if_gt (tgt := 139) (a_dec_at dc_R_whyNot 65 rfl) (by decide) (fun b13 => ?_) (fun b13 => ?_)
              · have H := H.1 b13
                refine ev_iconst (v := 1) rfl (a_dec_at dc_R_whyNot 68 rfl) ?_
                exact m_retI (a_dec_at dc_R_whyNot 69 rfl) rfl rfl H
              · have H := H.2 b13
                refine ev_iconst (v := 0) rfl (a_dec_at dc_R_whyNot 66 rfl) ?_
                refine ev_goto (tgt := 140) (a_dec_at dc_R_whyNot 67 rfl) (by decide) ?_
                exact m_retI (a_dec_at dc_R_whyNot 69 rfl) rfl rfl H
        · have H := H.2 b8
          refine ev_aload_n (i := 0) rfl rfl (a_dec_at dc_R_whyNot 45 rfl) ?_
          refine ev_lload_n (i := 3) rfl rfl (a_dec_at dc_R_whyNot 46 rfl) ?_
          refine cV1I cs_R_233 sh119 rfl (Nat.le_of_ble_eq_true rfl) (Nat.le_of_ble_eq_true rfl) (a_dec_at dc_R_whyNot 47 rfl) ?_
          refine CI.mono (fun x14 mi14 ml14 z14 H => ?_) H
          refine ev_if_eq (tgt := 103) (a_dec_at dc_R_whyNot 48 rfl) (by decide) (fun b15 => ?_) (fun b15 => ?_)
          · have H := H.1 b15
            refine ev_iconst (v := 1) rfl (a_dec_at dc_R_whyNot 51 rfl) ?_
            exact m_retI (a_dec_at dc_R_whyNot 52 rfl) rfl rfl H
          · have H := H.2 b15
            refine ev_iconst (v := 0) rfl (a_dec_at dc_R_whyNot 49 rfl) ?_
            refine ev_goto (tgt := 104) (a_dec_at dc_R_whyNot 50 rfl) (by decide) ?_
            exact m_retI (a_dec_at dc_R_whyNot 52 rfl) rfl rfl H
      · have H := H.2 b6
        refine ev_aload_n (i := 0) rfl rfl (a_dec_at dc_R_whyNot 34 rfl) ?_
        refine ev_lload_n (i := 3) rfl rfl (a_dec_at dc_R_whyNot 35 rfl) ?_
        refine ev_lload rfl (a_dec_at dc_R_whyNot 36 rfl) ?_
        refine ev_lconst (v := 1) rfl (a_dec_at dc_R_whyNot 37 rfl) ?_
        refine cV3I cs_R_285 sh119 rfl (Nat.le_of_ble_eq_true rfl) (Nat.le_of_ble_eq_true rfl) (a_dec_at dc_R_whyNot 38 rfl) ?_
        refine CI.mono (fun x16 mi16 ml16 z16 H => ?_) H
        exact m_retI (a_dec_at dc_R_whyNot 39 rfl) rfl rfl H
    · have H := H.2 b4
      refine ev_aload_n (i := 0) rfl rfl (a_dec_at dc_R_whyNot 25 rfl) ?_
      refine ev_lload rfl (a_dec_at dc_R_whyNot 26 rfl) ?_
      refine cV1I cs_R_281 sh119 rfl (Nat.le_of_ble_eq_true rfl) (Nat.le_of_ble_eq_true rfl) (a_dec_at dc_R_whyNot 27 rfl) ?_
      refine CI.mono (fun x17 mi17 ml17 z17 H => ?_) H
      exact m_retI (a_dec_at dc_R_whyNot 28 rfl) rfl rfl H
  · have H := H.2 b2
    refine ev_aload_n (i := 0) rfl rfl (a_dec_at dc_R_whyNot 15 rfl) ?_
    refine ev_lload_n (i := 3) rfl rfl (a_dec_at dc_R_whyNot 16 rfl) ?_
    refine ev_lload rfl (a_dec_at dc_R_whyNot 17 rfl) ?_
    refine cV2I cs_R_267 sh119 rfl (Nat.le_of_ble_eq_true rfl) (Nat.le_of_ble_eq_true rfl) (a_dec_at dc_R_whyNot 18 rfl) ?_
    refine CI.mono (fun x18 mi18 ml18 z18 H => ?_) H
    exact m_retI (a_dec_at dc_R_whyNot 19 rfl) rfl rfl H
set_option maxRecDepth 20000 in
theorem t_R_does {l : Launch} {h : Nat} (mi : TMi) (ml : TMl) (z : Nat) (a1 : Int32) {Q : TMi → TMl → Nat → Prop} (H : ((100 ≤ a1 → ((200 ≤ a1 → ((300 ≤ a1 → ((400 ≤ a1 → (vp_in (41 + ((a_rem a1 100) / 10)) 4113) ∧ CI l h m_R_pushes [.ref 119, .int ((a_rem a1 100) / 10)] (up mi 120 ((41 + ((a_rem a1 100) / 10)).toNatClampNeg) (a_rem a1 10)) ml z (fun x6 mi6 ml6 z6 => Q mi6 ml6 z6)) ∧ (¬ 400 ≤ a1 → (vp_in (35 + ((a_rem a1 100) / 10)) 4113) ∧ Q (up mi 120 ((35 + ((a_rem a1 100) / 10)).toNatClampNeg) (a_rem a1 10)) ml z))) ∧ (¬ 300 ≤ a1 → CI l h m_R_giftAt [.ref 119, .int ((a_rem a1 100) / 10), .int (a_rem a1 10)] mi ml z (fun x8 mi8 ml8 z8 => (vp_in x8 4113) ∧ (vp_in x8 4113) ∧ Q (up mi8 120 x8.toNatClampNeg ((mi8 120 x8.toNatClampNeg) + 1)) ml8 z8)))) ∧ (¬ 200 ≤ a1 → (vp_in (29 + (a_rem a1 10)) 4113) ∧ Q (up mi 120 ((29 + (a_rem a1 10)).toNatClampNeg) (-1)) ml z))) ∧ (¬ 100 ≤ a1 → CV l h m_R_declares [.ref 119, .int ((a_rem a1 100) / 10), .int (a_rem a1 10)] mi ml z (fun mi12 ml12 z12 => Q mi12 ml12 z12)))) : CV l (h + 1) m_R_does [.ref 119, .int a1] mi ml z Q := by
  show Ev l (h + 1) m_R_does 0 ([.ref 119, .int a1, .retAddr 0, .retAddr 0], [], st mi ml z) (qV Q)
  refine ev_iload_n (i := 1) rfl rfl (a_dec_at dc_R_does 0 rfl) ?_
  refine ev_bipush (v := 100) rfl (a_dec_at dc_R_does 1 rfl) ?_
  refine ev_irem (by decide) (a_dec_at dc_R_does 2 rfl) ?_
  refine ev_bipush (v := 10) rfl (a_dec_at dc_R_does 3 rfl) ?_
  refine ev_idiv (by decide) (a_dec_at dc_R_does 4 rfl) ?_
  refine ev_istore_n (i := 2) rfl (by decide) rfl (a_dec_at dc_R_does 5 rfl) ?_
  refine ev_iload_n (i := 1) rfl rfl (a_dec_at dc_R_does 6 rfl) ?_
  refine ev_bipush (v := 10) rfl (a_dec_at dc_R_does 7 rfl) ?_
  refine ev_irem (by decide) (a_dec_at dc_R_does 8 rfl) ?_
  refine ev_istore_n (i := 3) rfl (by decide) rfl (a_dec_at dc_R_does 9 rfl) ?_
  refine ev_iload_n (i := 1) rfl rfl (a_dec_at dc_R_does 10 rfl) ?_
  refine ev_bipush (v := 100) rfl (a_dec_at dc_R_does 11 rfl) ?_
  refine ev_icmp_ge (tgt := 28) (a_dec_at dc_R_does 12 rfl) (by decide) (fun b1 => ?_) (fun b1 => ?_)
  · have H := H.1 b1
    refine ev_iload_n (i := 1) rfl rfl (a_dec_at dc_R_does 18 rfl) ?_
    refine ev_sipush (v := 200) rfl (a_dec_at dc_R_does 19 rfl) ?_
    refine ev_icmp_ge (tgt := 48) (a_dec_at dc_R_does 20 rfl) (by decide) (fun b2 => ?_) (fun b2 => ?_)
    · have H := H.1 b2
      refine ev_iload_n (i := 1) rfl rfl (a_dec_at dc_R_does 29 rfl) ?_
      refine ev_sipush (v := 300) rfl (a_dec_at dc_R_does 30 rfl) ?_
      refine ev_icmp_ge (tgt := 73) (a_dec_at dc_R_does 31 rfl) (by decide) (fun b3 => ?_) (fun b3 => ?_)
      · have H := H.1 b3
        refine ev_iload_n (i := 1) rfl rfl (a_dec_at dc_R_does 44 rfl) ?_
        refine ev_sipush (v := 400) rfl (a_dec_at dc_R_does 45 rfl) ?_
        refine ev_icmp_ge (tgt := 93) (a_dec_at dc_R_does 46 rfl) (by decide) (fun b4 => ?_) (fun b4 => ?_)
        · have H := H.1 b4
          refine ev_aload_n (i := 0) rfl rfl (a_dec_at dc_R_does 55 rfl) ?_
          refine m_getR (y := 120) fl_R_13 rfl sh119 (mr_119_1 _) (by decide) (a_dec_at dc_R_does 56 rfl) ?_
          refine ev_bipush (v := 41) rfl (a_dec_at dc_R_does 57 rfl) ?_
          refine ev_iload_n (i := 2) rfl rfl (a_dec_at dc_R_does 58 rfl) ?_
          refine ev_iadd (a_dec_at dc_R_does 59 rfl) ?_
          refine ev_iload_n (i := 3) rfl rfl (a_dec_at dc_R_does 60 rfl) ?_
          obtain ⟨c5, H⟩ := H
          refine w_iast (k := (41 + ((a_rem a1 100) / 10)).toNatClampNeg) sh120 c5 rfl (a_dec_at dc_R_does 61 rfl) ?_
          refine ev_aload_n (i := 0) rfl rfl (a_dec_at dc_R_does 62 rfl) ?_
          refine ev_iload_n (i := 2) rfl rfl (a_dec_at dc_R_does 63 rfl) ?_
          refine cV1I cs_R_264 sh119 rfl (Nat.le_of_ble_eq_true rfl) (Nat.le_of_ble_eq_true rfl) (a_dec_at dc_R_does 64 rfl) ?_
          refine CI.mono (fun x6 mi6 ml6 z6 H => ?_) H
          refine ev_pop rfl (a_dec_at dc_R_does 65 rfl) ?_
          exact m_retV (a_dec_at dc_R_does 66 rfl) rfl H
        · have H := H.2 b4
          refine ev_aload_n (i := 0) rfl rfl (a_dec_at dc_R_does 47 rfl) ?_
          refine m_getR (y := 120) fl_R_13 rfl sh119 (mr_119_1 _) (by decide) (a_dec_at dc_R_does 48 rfl) ?_
          refine ev_bipush (v := 35) rfl (a_dec_at dc_R_does 49 rfl) ?_
          refine ev_iload_n (i := 2) rfl rfl (a_dec_at dc_R_does 50 rfl) ?_
          refine ev_iadd (a_dec_at dc_R_does 51 rfl) ?_
          refine ev_iload_n (i := 3) rfl rfl (a_dec_at dc_R_does 52 rfl) ?_
          obtain ⟨c7, H⟩ := H
          refine w_iast (k := (35 + ((a_rem a1 100) / 10)).toNatClampNeg) sh120 c7 rfl (a_dec_at dc_R_does 53 rfl) ?_
          refine ev_goto (tgt := 109) (a_dec_at dc_R_does 54 rfl) (by decide) ?_
          exact m_retV (a_dec_at dc_R_does 66 rfl) rfl H
      · have H := H.2 b3
        refine ev_aload_n (i := 0) rfl rfl (a_dec_at dc_R_does 32 rfl) ?_
        refine m_getR (y := 120) fl_R_13 rfl sh119 (mr_119_1 _) (by decide) (a_dec_at dc_R_does 33 rfl) ?_
        refine ev_aload_n (i := 0) rfl rfl (a_dec_at dc_R_does 34 rfl) ?_
        refine ev_iload_n (i := 2) rfl rfl (a_dec_at dc_R_does 35 rfl) ?_
        refine ev_iload_n (i := 3) rfl rfl (a_dec_at dc_R_does 36 rfl) ?_
        refine cV2I cs_R_211 sh119 rfl (Nat.le_of_ble_eq_true rfl) (Nat.le_of_ble_eq_true rfl) (a_dec_at dc_R_does 37 rfl) ?_
        refine CI.mono (fun x8 mi8 ml8 z8 H => ?_) H
        refine ev_dup2 rfl rfl (a_dec_at dc_R_does 38 rfl) ?_
        obtain ⟨c9, H⟩ := H
        refine w_iald (k := x8.toNatClampNeg) sh120 c9 rfl (a_dec_at dc_R_does 39 rfl) ?_
        refine ev_iconst (v := 1) rfl (a_dec_at dc_R_does 40 rfl) ?_
        refine ev_iadd (a_dec_at dc_R_does 41 rfl) ?_
        obtain ⟨c10, H⟩ := H
        refine w_iast (k := x8.toNatClampNeg) sh120 c10 rfl (a_dec_at dc_R_does 42 rfl) ?_
        refine ev_goto (tgt := 109) (a_dec_at dc_R_does 43 rfl) (by decide) ?_
        exact m_retV (a_dec_at dc_R_does 66 rfl) rfl H
    · have H := H.2 b2
      refine ev_aload_n (i := 0) rfl rfl (a_dec_at dc_R_does 21 rfl) ?_
      refine m_getR (y := 120) fl_R_13 rfl sh119 (mr_119_1 _) (by decide) (a_dec_at dc_R_does 22 rfl) ?_
      refine ev_bipush (v := 29) rfl (a_dec_at dc_R_does 23 rfl) ?_
      refine ev_iload_n (i := 3) rfl rfl (a_dec_at dc_R_does 24 rfl) ?_
      refine ev_iadd (a_dec_at dc_R_does 25 rfl) ?_
      refine ev_iconst (v := (-1)) rfl (a_dec_at dc_R_does 26 rfl) ?_
      obtain ⟨c11, H⟩ := H
      refine w_iast (k := (29 + (a_rem a1 10)).toNatClampNeg) sh120 c11 rfl (a_dec_at dc_R_does 27 rfl) ?_
      refine ev_goto (tgt := 109) (a_dec_at dc_R_does 28 rfl) (by decide) ?_
      exact m_retV (a_dec_at dc_R_does 66 rfl) rfl H
  · have H := H.2 b1
    refine ev_aload_n (i := 0) rfl rfl (a_dec_at dc_R_does 13 rfl) ?_
    refine ev_iload_n (i := 2) rfl rfl (a_dec_at dc_R_does 14 rfl) ?_
    refine ev_iload_n (i := 3) rfl rfl (a_dec_at dc_R_does 15 rfl) ?_
    refine cV2V cs_R_274 sh119 rfl (Nat.le_of_ble_eq_true rfl) (Nat.le_of_ble_eq_true rfl) (a_dec_at dc_R_does 16 rfl) ?_
    refine CV.mono (fun mi12 ml12 z12 H => ?_) H
    refine ev_goto (tgt := 109) (a_dec_at dc_R_does 17 rfl) (by decide) ?_
    exact m_retV (a_dec_at dc_R_does 66 rfl) rfl H
set_option maxRecDepth 20000 in
theorem t_R_floodSet {l : Launch} {h : Nat} (mi : TMi) (ml : TMl) (z : Nat) {Q : Int32 → TMi → TMl → Nat → Prop} (H : Ev l (h + 1) m_R_floodSet 4 ([.ref 119, .int 0, .int 0], [], st mi ml z) (qI Q)) : CI l (h + 1) m_R_floodSet [.ref 119] mi ml z Q := by
  show Ev l (h + 1) m_R_floodSet 0 ([.ref 119, .retAddr 0, .retAddr 0], [], st mi ml z) (qI Q)
  refine ev_iconst (v := 0) rfl (a_dec_at dc_R_floodSet 0 rfl) ?_
  refine ev_istore_n (i := 1) rfl (by decide) rfl (a_dec_at dc_R_floodSet 1 rfl) ?_
  refine ev_iconst (v := 0) rfl (a_dec_at dc_R_floodSet 2 rfl) ?_
  refine ev_istore_n (i := 2) rfl (by decide) rfl (a_dec_at dc_R_floodSet 3 rfl) ?_
  exact Ev.drop (L' := [.ref 119, .int 0, .int 0]) (And.intro rfl (And.intro rfl (And.intro rfl trivial))) H
set_option maxRecDepth 20000 in
theorem t_R_floodSet_4 {l : Launch} {h : Nat} (mi : TMi) (ml : TMl) (z : Nat) (v1 : Int32) (v2 : Int32) {Q : Int32 → TMi → TMl → Nat → Prop} (H : (((mi 120 2) ≤ v2 → Q v1 mi ml z) ∧ (¬ (mi 120 2) ≤ v2 → CI l h m_R_becksIn [.ref 119, .int v2] mi ml z (fun x2 mi2 ml2 z2 => CI l h m_R_flowOf [.ref 119, .int x2] mi2 ml2 z2 (fun x3 mi3 ml3 z3 => (vp_in (25 + v2) 4113) ∧ ((x3 ≤ (mi3 120 ((25 + v2).toNatClampNeg)) → Ev l (h + 1) m_R_floodSet 4 ([.ref 119, .int (v1 ||| 0), .int (v2 + 1)], [], st mi3 ml3 z3) (qI Q)) ∧ (¬ x3 ≤ (mi3 120 ((25 + v2).toNatClampNeg)) → Ev l (h + 1) m_R_floodSet 4 ([.ref 119, .int (v1 ||| ((1 : Int32) <<< (v2 &&& 31))), .int (v2 + 1)], [], st mi3 ml3 z3) (qI Q)))))))) : Ev l (h + 1) m_R_floodSet 4 ([.ref 119, .int v1, .int v2], [], st mi ml z) (qI Q) := by
  refine ev_iload_n (i := 2) rfl rfl (a_dec_at dc_R_floodSet 4 rfl) ?_
  refine ev_aload_n (i := 0) rfl rfl (a_dec_at dc_R_floodSet 5 rfl) ?_
  refine m_getR (y := 120) fl_R_13 rfl sh119 (mr_119_1 _) (by decide) (a_dec_at dc_R_floodSet 6 rfl) ?_
  refine ev_iconst (v := 2) rfl (a_dec_at dc_R_floodSet 7 rfl) ?_
  refine w_iald (k := 2) sh120 (by unfold vp_in; decide) (by decide) (a_dec_at dc_R_floodSet 8 rfl) ?_
  refine ev_icmp_ge (tgt := 51) (a_dec_at dc_R_floodSet 9 rfl) (by decide) (fun b1 => ?_) (fun b1 => ?_)
  · have H := H.1 b1
    refine ev_iload_n (i := 1) rfl rfl (a_dec_at dc_R_floodSet 32 rfl) ?_
    exact m_retI (a_dec_at dc_R_floodSet 33 rfl) rfl rfl H
  · have H := H.2 b1
    refine ev_iload_n (i := 1) rfl rfl (a_dec_at dc_R_floodSet 10 rfl) ?_
    refine ev_aload_n (i := 0) rfl rfl (a_dec_at dc_R_floodSet 11 rfl) ?_
    refine ev_aload_n (i := 0) rfl rfl (a_dec_at dc_R_floodSet 12 rfl) ?_
    refine ev_iload_n (i := 2) rfl rfl (a_dec_at dc_R_floodSet 13 rfl) ?_
    refine cV1I cs_R_246 sh119 rfl (Nat.le_of_ble_eq_true rfl) (Nat.le_of_ble_eq_true rfl) (a_dec_at dc_R_floodSet 14 rfl) ?_
    refine CI.mono (fun x2 mi2 ml2 z2 H => ?_) H
    refine cV1I cs_R_249 sh119 rfl (Nat.le_of_ble_eq_true rfl) (Nat.le_of_ble_eq_true rfl) (a_dec_at dc_R_floodSet 15 rfl) ?_
    refine CI.mono (fun x3 mi3 ml3 z3 H => ?_) H
    refine ev_aload_n (i := 0) rfl rfl (a_dec_at dc_R_floodSet 16 rfl) ?_
    refine m_getR (y := 120) fl_R_13 rfl sh119 (mr_119_1 _) (by decide) (a_dec_at dc_R_floodSet 17 rfl) ?_
    refine ev_bipush (v := 25) rfl (a_dec_at dc_R_floodSet 18 rfl) ?_
    refine ev_iload_n (i := 2) rfl rfl (a_dec_at dc_R_floodSet 19 rfl) ?_
    refine ev_iadd (a_dec_at dc_R_floodSet 20 rfl) ?_
    obtain ⟨c4, H⟩ := H
    refine w_iald (k := (25 + v2).toNatClampNeg) sh120 c4 rfl (a_dec_at dc_R_floodSet 21 rfl) ?_
    refine ev_icmp_le (tgt := 42) (a_dec_at dc_R_floodSet 22 rfl) (by decide) (fun b5 => ?_) (fun b5 => ?_)
    · have H := H.1 b5
      refine ev_iconst (v := 0) rfl (a_dec_at dc_R_floodSet 27 rfl) ?_
      refine ev_ior (a_dec_at dc_R_floodSet 28 rfl) ?_
      refine ev_istore_n (i := 1) rfl (by decide) rfl (a_dec_at dc_R_floodSet 29 rfl) ?_
      refine ev_iinc (v := 1) rfl rfl (by decide) rfl (a_dec_at dc_R_floodSet 30 rfl) ?_
      refine ev_goto (tgt := 4) (a_dec_at dc_R_floodSet 31 rfl) (by decide) ?_
      exact Ev.drop (L' := [.ref 119, .int (v1 ||| 0), .int (v2 + 1)]) (And.intro rfl (And.intro rfl (And.intro rfl trivial))) H
    · have H := H.2 b5
      refine ev_iconst (v := 1) rfl (a_dec_at dc_R_floodSet 23 rfl) ?_
      refine ev_iload_n (i := 2) rfl rfl (a_dec_at dc_R_floodSet 24 rfl) ?_
      refine ev_ishl (a_dec_at dc_R_floodSet 25 rfl) ?_
      refine ev_goto (tgt := 43) (a_dec_at dc_R_floodSet 26 rfl) (by decide) ?_
      refine ev_ior (a_dec_at dc_R_floodSet 28 rfl) ?_
      refine ev_istore_n (i := 1) rfl (by decide) rfl (a_dec_at dc_R_floodSet 29 rfl) ?_
      refine ev_iinc (v := 1) rfl rfl (by decide) rfl (a_dec_at dc_R_floodSet 30 rfl) ?_
      refine ev_goto (tgt := 4) (a_dec_at dc_R_floodSet 31 rfl) (by decide) ?_
      exact Ev.drop (L' := [.ref 119, .int (v1 ||| ((1 : Int32) <<< (v2 &&& 31))), .int (v2 + 1)]) (And.intro rfl (And.intro rfl (And.intro rfl trivial))) H
set_option maxRecDepth 20000 in
theorem t_R_isAgain {l : Launch} {h : Nat} (mi : TMi) (ml : TMl) (z : Nat) {Q : TMi → TMl → Nat → Prop} (H : Ev l (h + 1) m_R_isAgain 2 ([.ref 119, .int 0], [], st mi ml z) (qV Q)) : CV l (h + 1) m_R_isAgain [.ref 119] mi ml z Q := by
  show Ev l (h + 1) m_R_isAgain 0 ([.ref 119, .retAddr 0], [], st mi ml z) (qV Q)
  refine ev_iconst (v := 0) rfl (a_dec_at dc_R_isAgain 0 rfl) ?_
  refine ev_istore_n (i := 1) rfl (by decide) rfl (a_dec_at dc_R_isAgain 1 rfl) ?_
  exact Ev.drop (L' := [.ref 119, .int 0]) (And.intro rfl (And.intro rfl trivial)) H
set_option maxRecDepth 20000 in
theorem t_R_isAgain_2 {l : Launch} {h : Nat} (mi : TMi) (ml : TMl) (z : Nat) (v1 : Int32) {Q : TMi → TMl → Nat → Prop} (H : ((40 ≤ v1 → Q mi ml z) ∧ (¬ 40 ≤ v1 → (vp_in v1 40) ∧ (vp_in (29 + v1) 4113) ∧ Ev l (h + 1) m_R_isAgain 2 ([.ref 119, .int (v1 + 1)], [], st (up mi 120 ((29 + v1).toNatClampNeg) (mi 128 v1.toNatClampNeg)) ml z) (qV Q)))) : Ev l (h + 1) m_R_isAgain 2 ([.ref 119, .int v1], [], st mi ml z) (qV Q) := by
  refine ev_iload_n (i := 1) rfl rfl (a_dec_at dc_R_isAgain 2 rfl) ?_
  refine ev_bipush (v := 40) rfl (a_dec_at dc_R_isAgain 3 rfl) ?_
  refine ev_icmp_ge (tgt := 29) (a_dec_at dc_R_isAgain 4 rfl) (by decide) (fun b1 => ?_) (fun b1 => ?_)
  · have H := H.1 b1
    exact m_retV (a_dec_at dc_R_isAgain 17 rfl) rfl H
  · have H := H.2 b1
    refine ev_aload_n (i := 0) rfl rfl (a_dec_at dc_R_isAgain 5 rfl) ?_
    refine m_getR (y := 120) fl_R_13 rfl sh119 (mr_119_1 _) (by decide) (a_dec_at dc_R_isAgain 6 rfl) ?_
    refine ev_bipush (v := 29) rfl (a_dec_at dc_R_isAgain 7 rfl) ?_
    refine ev_iload_n (i := 1) rfl rfl (a_dec_at dc_R_isAgain 8 rfl) ?_
    refine ev_iadd (a_dec_at dc_R_isAgain 9 rfl) ?_
    refine ev_aload_n (i := 0) rfl rfl (a_dec_at dc_R_isAgain 10 rfl) ?_
    refine m_getR (y := 128) fl_R_42 rfl sh119 (mr_119_19 _) (by decide) (a_dec_at dc_R_isAgain 11 rfl) ?_
    refine ev_iload_n (i := 1) rfl rfl (a_dec_at dc_R_isAgain 12 rfl) ?_
    obtain ⟨c2, H⟩ := H
    refine w_iald (k := v1.toNatClampNeg) sh128 c2 rfl (a_dec_at dc_R_isAgain 13 rfl) ?_
    obtain ⟨c3, H⟩ := H
    refine w_iast (k := (29 + v1).toNatClampNeg) sh120 c3 rfl (a_dec_at dc_R_isAgain 14 rfl) ?_
    refine ev_iinc (v := 1) rfl rfl (by decide) rfl (a_dec_at dc_R_isAgain 15 rfl) ?_
    refine ev_goto (tgt := 2) (a_dec_at dc_R_isAgain 16 rfl) (by decide) ?_
    exact Ev.drop (L' := [.ref 119, .int (v1 + 1)]) (And.intro rfl (And.intro rfl trivial)) H
set_option maxRecDepth 20000 in
theorem t_R_perform {l : Launch} {h : Nat} (mi : TMi) (ml : TMl) (z : Nat) (a1 : Int32) {Q : Int32 → TMi → TMl → Nat → Prop} (H : CI l h m_R_noTray [.ref 119, .int a1] (up mi 119 0 0) ml z (fun x1 mi1 ml1 z1 => ((x1 = 0 → CV l h m_R_keeps [.ref 119] mi1 ml1 z1 (fun mi3 ml3 z3 => CI l h m_R_tells [.ref 119, .int a1] mi3 ml3 z3 (fun x4 mi4 ml4 z4 => ((x4 ≤ 0 → Q x4 mi4 ml4 z4) ∧ (¬ x4 ≤ 0 → CV l h m_R_notes [.ref 119] mi4 ml4 z4 (fun mi6 ml6 z6 => Q x4 mi6 ml6 z6)))))) ∧ (¬ x1 = 0 → Q x1 mi1 ml1 z1)))) : CI l (h + 1) m_R_perform [.ref 119, .int a1] mi ml z Q := by
  show Ev l (h + 1) m_R_perform 0 ([.ref 119, .int a1, .retAddr 0, .retAddr 0], [], st mi ml z) (qI Q)
  refine ev_aload_n (i := 0) rfl rfl (a_dec_at dc_R_perform 0 rfl) ?_
  refine ev_iconst (v := 0) rfl (a_dec_at dc_R_perform 1 rfl) ?_
  refine m_putI fl_R_1 rfl (fun _ _ _ h => by cases h; exact Or.inl rfl) sh119 (a_dec_at dc_R_perform 2 rfl) ?_
  refine ev_aload_n (i := 0) rfl rfl (a_dec_at dc_R_perform 3 rfl) ?_
  refine ev_iload_n (i := 1) rfl rfl (a_dec_at dc_R_perform 4 rfl) ?_
  refine cV1I cs_R_322 sh119 rfl (Nat.le_of_ble_eq_true rfl) (Nat.le_of_ble_eq_true rfl) (a_dec_at dc_R_perform 5 rfl) ?_
  refine CI.mono (fun x1 mi1 ml1 z1 H => ?_) H
  refine ev_istore_n (i := 2) rfl (by decide) rfl (a_dec_at dc_R_perform 6 rfl) ?_
  refine ev_iload_n (i := 2) rfl rfl (a_dec_at dc_R_perform 7 rfl) ?_
  refine ev_if_eq (tgt := 17) (a_dec_at dc_R_perform 8 rfl) (by decide) (fun b2 => ?_) (fun b2 => ?_)
  · have H := H.1 b2
    refine ev_aload_n (i := 0) rfl rfl (a_dec_at dc_R_perform 11 rfl) ?_
    refine cV0V cs_R_271 sh119 rfl (Nat.le_of_ble_eq_true rfl) (Nat.le_of_ble_eq_true rfl) (a_dec_at dc_R_perform 12 rfl) ?_
    refine CV.mono (fun mi3 ml3 z3 H => ?_) H
    refine ev_aload_n (i := 0) rfl rfl (a_dec_at dc_R_perform 13 rfl) ?_
    refine ev_iload_n (i := 1) rfl rfl (a_dec_at dc_R_perform 14 rfl) ?_
    refine cV1I cs_R_325 sh119 rfl (Nat.le_of_ble_eq_true rfl) (Nat.le_of_ble_eq_true rfl) (a_dec_at dc_R_perform 15 rfl) ?_
    refine CI.mono (fun x4 mi4 ml4 z4 H => ?_) H
    refine ev_istore_n (i := 3) rfl (by decide) rfl (a_dec_at dc_R_perform 16 rfl) ?_
    refine ev_iload_n (i := 3) rfl rfl (a_dec_at dc_R_perform 17 rfl) ?_
    refine ev_if_le (tgt := 35) (a_dec_at dc_R_perform 18 rfl) (by decide) (fun b5 => ?_) (fun b5 => ?_)
    · have H := H.1 b5
      refine ev_iload_n (i := 3) rfl rfl (a_dec_at dc_R_perform 21 rfl) ?_
      exact m_retI (a_dec_at dc_R_perform 22 rfl) rfl rfl H
    · have H := H.2 b5
      refine ev_aload_n (i := 0) rfl rfl (a_dec_at dc_R_perform 19 rfl) ?_
      refine cV0V cs_R_278 sh119 rfl (Nat.le_of_ble_eq_true rfl) (Nat.le_of_ble_eq_true rfl) (a_dec_at dc_R_perform 20 rfl) ?_
      refine CV.mono (fun mi6 ml6 z6 H => ?_) H
      refine ev_iload_n (i := 3) rfl rfl (a_dec_at dc_R_perform 21 rfl) ?_
      exact m_retI (a_dec_at dc_R_perform 22 rfl) rfl rfl H
  · have H := H.2 b2
    refine ev_iload_n (i := 2) rfl rfl (a_dec_at dc_R_perform 9 rfl) ?_
    exact m_retI (a_dec_at dc_R_perform 10 rfl) rfl rfl H
set_option maxRecDepth 20000 in
theorem t_R_year {l : Launch} {h : Nat} (mi : TMi) (ml : TMl) (z : Nat) (a1 : Int32) (a2 : Int32) {Q : Int32 → TMi → TMl → Nat → Prop} (H : CI l h m_R_within [.long a2.toInt64, .long 1, .long 40] (up mi 119 0 0) ml z (fun x1 mi1 ml1 z1 => ((¬ x1 = 0 → CV l h m_R_keeps [.ref 119] mi1 ml1 z1 (fun mi3 ml3 z3 => Ev l (h + 1) m_R_year 34 ([.ref 119, .retAddr 0, .int a2, .int 0, .int 0, .retAddr 0], [], st (up mi3 119 22 a1) ml3 z3) (qI Q))) ∧ (x1 = 0 → Q (-3) mi1 ml1 z1)))) : CI l (h + 1) m_R_year [.ref 119, .int a1, .int a2] mi ml z Q := by
  show Ev l (h + 1) m_R_year 0 ([.ref 119, .int a1, .int a2, .retAddr 0, .retAddr 0, .retAddr 0], [], st mi ml z) (qI Q)
  refine ev_aload_n (i := 0) rfl rfl (a_dec_at dc_R_year 0 rfl) ?_
  refine ev_iconst (v := 0) rfl (a_dec_at dc_R_year 1 rfl) ?_
  refine m_putI fl_R_1 rfl (fun _ _ _ h => by cases h; exact Or.inl rfl) sh119 (a_dec_at dc_R_year 2 rfl) ?_
  refine ev_iload_n (i := 2) rfl rfl (a_dec_at dc_R_year 3 rfl) ?_
  refine ev_i2l (a_dec_at dc_R_year 4 rfl) ?_
  refine ev_lconst (v := 1) rfl (a_dec_at dc_R_year 5 rfl) ?_
  refine ev_ldc2 kc_R_341 (a_dec_at dc_R_year 6 rfl) ?_
  refine cS3I cs_R_139 rfl (Nat.le_of_ble_eq_true rfl) (Nat.le_of_ble_eq_true rfl) (a_dec_at dc_R_year 7 rfl) ?_
  refine CI.mono (fun x1 mi1 ml1 z1 H => ?_) H
  refine ev_if_ne (tgt := 20) (a_dec_at dc_R_year 8 rfl) (by decide) (fun b2 => ?_) (fun b2 => ?_)
  · have H := H.1 b2
    refine ev_aload_n (i := 0) rfl rfl (a_dec_at dc_R_year 11 rfl) ?_
    refine cV0V cs_R_271 sh119 rfl (Nat.le_of_ble_eq_true rfl) (Nat.le_of_ble_eq_true rfl) (a_dec_at dc_R_year 12 rfl) ?_
    refine CV.mono (fun mi3 ml3 z3 H => ?_) H
    refine ev_aload_n (i := 0) rfl rfl (a_dec_at dc_R_year 13 rfl) ?_
    refine ev_iload_n (i := 1) rfl rfl (a_dec_at dc_R_year 14 rfl) ?_
    refine m_putI fl_R_335 rfl (fun _ _ _ h => by cases h; exact Or.inl rfl) sh119 (a_dec_at dc_R_year 15 rfl) ?_
    refine ev_iconst (v := 0) rfl (a_dec_at dc_R_year 16 rfl) ?_
    refine ev_istore_n (i := 3) rfl (by decide) rfl (a_dec_at dc_R_year 17 rfl) ?_
    refine ev_iconst (v := 0) rfl (a_dec_at dc_R_year 18 rfl) ?_
    refine ev_istore (by decide) rfl (a_dec_at dc_R_year 19 rfl) ?_
    exact Ev.drop (L' := [.ref 119, .retAddr 0, .int a2, .int 0, .int 0, .retAddr 0]) (And.intro rfl (And.intro rfl (And.intro rfl (And.intro rfl trivial)))) H
  · have H := H.2 b2
    refine ev_bipush (v := (-3)) rfl (a_dec_at dc_R_year 9 rfl) ?_
    exact m_retI (a_dec_at dc_R_year 10 rfl) rfl rfl H
set_option maxRecDepth 20000 in
theorem t_R_year_34 {l : Launch} {h : Nat} (mi : TMi) (ml : TMl) (z : Nat) (v2 : Int32) (v3 : Int32) (v4 : Int32) {Q : Int32 → TMi → TMl → Nat → Prop} (H : ((v2 ≤ v4 → ((v3 ≤ 0 → Q v3 mi ml z) ∧ (¬ v3 ≤ 0 → CV l h m_R_notes [.ref 119] mi ml z (fun mi3 ml3 z3 => Q v3 mi3 ml3 z3)))) ∧ (¬ v2 ≤ v4 → CI l h m_R_drawn [.ref 119] mi ml z (fun x4 mi4 ml4 z4 => CI l h m_R_whyNot [.ref 119, .long x4.toInt64] mi4 ml4 z4 (fun x5 mi5 ml5 z5 => ((x5 = 0 → CV l h m_R_does [.ref 119, .int x4] mi5 ml5 z5 (fun mi7 ml7 z7 => Ev l (h + 1) m_R_year 34 ([.ref 119, .retAddr 0, .int v2, .int (v3 + 1), .int (v4 + 1), .retAddr 0], [], st mi7 ml7 z7) (qI Q))) ∧ (¬ x5 = 0 → Ev l (h + 1) m_R_year 34 ([.ref 119, .retAddr 0, .int v2, .int v3, .int (v4 + 1), .retAddr 0], [], st mi5 ml5 z5) (qI Q)))))))) : Ev l (h + 1) m_R_year 34 ([.ref 119, .retAddr 0, .int v2, .int v3, .int v4, .retAddr 0], [], st mi ml z) (qI Q) := by
  refine ev_iload rfl (a_dec_at dc_R_year 20 rfl) ?_
  refine ev_iload_n (i := 2) rfl rfl (a_dec_at dc_R_year 21 rfl) ?_
  refine ev_icmp_ge (tgt := 74) (a_dec_at dc_R_year 22 rfl) (by decide) (fun b1 => ?_) (fun b1 => ?_)
  · have H := H.1 b1
    refine ev_iload_n (i := 3) rfl rfl (a_dec_at dc_R_year 38 rfl) ?_
    refine ev_if_le (tgt := 82) (a_dec_at dc_R_year 39 rfl) (by decide) (fun b2 => ?_) (fun b2 => ?_)
    · have H := H.1 b2
      refine ev_iload_n (i := 3) rfl rfl (a_dec_at dc_R_year 42 rfl) ?_
      exact m_retI (a_dec_at dc_R_year 43 rfl) rfl rfl H
    · have H := H.2 b2
      refine ev_aload_n (i := 0) rfl rfl (a_dec_at dc_R_year 40 rfl) ?_
      refine cV0V cs_R_278 sh119 rfl (Nat.le_of_ble_eq_true rfl) (Nat.le_of_ble_eq_true rfl) (a_dec_at dc_R_year 41 rfl) ?_
      refine CV.mono (fun mi3 ml3 z3 H => ?_) H
      refine ev_iload_n (i := 3) rfl rfl (a_dec_at dc_R_year 42 rfl) ?_
      exact m_retI (a_dec_at dc_R_year 43 rfl) rfl rfl H
  · have H := H.2 b1
    refine ev_aload_n (i := 0) rfl rfl (a_dec_at dc_R_year 23 rfl) ?_
    refine cV0I cs_R_343 sh119 rfl (Nat.le_of_ble_eq_true rfl) (Nat.le_of_ble_eq_true rfl) (a_dec_at dc_R_year 24 rfl) ?_
    refine CI.mono (fun x4 mi4 ml4 z4 H => ?_) H
    refine ev_istore (by decide) rfl (a_dec_at dc_R_year 25 rfl) ?_
    refine ev_aload_n (i := 0) rfl rfl (a_dec_at dc_R_year 26 rfl) ?_
    refine ev_iload rfl (a_dec_at dc_R_year 27 rfl) ?_
    refine ev_i2l (a_dec_at dc_R_year 28 rfl) ?_
    refine cV1I cs_R_314 sh119 rfl (Nat.le_of_ble_eq_true rfl) (Nat.le_of_ble_eq_true rfl) (a_dec_at dc_R_year 29 rfl) ?_
    refine CI.mono (fun x5 mi5 ml5 z5 H => ?_) H
    refine ev_if_eq (tgt := 59) (a_dec_at dc_R_year 30 rfl) (by decide) (fun b6 => ?_) (fun b6 => ?_)
    · have H := H.1 b6
      refine ev_aload_n (i := 0) rfl rfl (a_dec_at dc_R_year 32 rfl) ?_
      refine ev_iload rfl (a_dec_at dc_R_year 33 rfl) ?_
      refine cV1V cs_R_317 sh119 rfl (Nat.le_of_ble_eq_true rfl) (Nat.le_of_ble_eq_true rfl) (a_dec_at dc_R_year 34 rfl) ?_
      refine CV.mono (fun mi7 ml7 z7 H => ?_) H
      refine ev_iinc (v := 1) rfl rfl (by decide) rfl (a_dec_at dc_R_year 35 rfl) ?_
      refine ev_iinc (v := 1) rfl rfl (by decide) rfl (a_dec_at dc_R_year 36 rfl) ?_
      refine ev_goto (tgt := 34) (a_dec_at dc_R_year 37 rfl) (by decide) ?_
      exact Ev.drop (L' := [.ref 119, .retAddr 0, .int v2, .int (v3 + 1), .int (v4 + 1), .retAddr 0]) (And.intro rfl (And.intro rfl (And.intro rfl (And.intro rfl trivial)))) H
    · have H := H.2 b6
      refine ev_goto (tgt := 68) (a_dec_at dc_R_year 31 rfl) (by decide) ?_
      refine ev_iinc (v := 1) rfl rfl (by decide) rfl (a_dec_at dc_R_year 36 rfl) ?_
      refine ev_goto (tgt := 34) (a_dec_at dc_R_year 37 rfl) (by decide) ?_
      exact Ev.drop (L' := [.ref 119, .retAddr 0, .int v2, .int v3, .int (v4 + 1), .retAddr 0]) (And.intro rfl (And.intro rfl (And.intro rfl (And.intro rfl trivial)))) H
set_option maxRecDepth 20000 in
theorem t_R_drawn {l : Launch} {h : Nat} (mi : TMi) (ml : TMl) (z : Nat) {Q : Int32 → TMi → TMl → Nat → Prop} (H : CI l h m_R_draw [.ref 119, .int 6] mi ml z (fun x1 mi1 ml1 z1 => ((¬ x1 = 4 → CI l h m_R_draw [.ref 119, .int 6] mi1 ml1 z1 (fun x3 mi3 ml3 z3 => ((3 ≤ x1 → ((¬ x1 = 3 → CI l h m_R_draw [.ref 119, .int 10] mi3 ml3 z3 (fun x6 mi6 ml6 z6 => Q ((300 + (10 * x3)) + x6) mi6 ml6 z6)) ∧ (x1 = 3 → Q (100 + x3) mi3 ml3 z3))) ∧ (¬ 3 ≤ x1 → CI l h m_R_draw [.ref 119, .int 4] mi3 ml3 z3 (fun x7 mi7 ml7 z7 => Q ((10 * x3) + x7) mi7 ml7 z7))))) ∧ (x1 = 4 → CI l h m_R_draw [.ref 119, .int 4] mi1 ml1 z1 (fun x8 mi8 ml8 z8 => CI l h m_R_draw [.ref 119, .int 6] mi8 ml8 z8 (fun x9 mi9 ml9 z9 => Q ((200 + (10 * x8)) + x9) mi9 ml9 z9)))))) : CI l (h + 1) m_R_drawn [.ref 119] mi ml z Q := by
  show Ev l (h + 1) m_R_drawn 0 ([.ref 119, .retAddr 0, .retAddr 0], [], st mi ml z) (qI Q)
  refine ev_aload_n (i := 0) rfl rfl (a_dec_at dc_R_drawn 0 rfl) ?_
  refine ev_bipush (v := 6) rfl (a_dec_at dc_R_drawn 1 rfl) ?_
  refine cV1I cs_R_338 sh119 rfl (Nat.le_of_ble_eq_true rfl) (Nat.le_of_ble_eq_true rfl) (a_dec_at dc_R_drawn 2 rfl) ?_
  refine CI.mono (fun x1 mi1 ml1 z1 H => ?_) H
  refine ev_istore_n (i := 1) rfl (by decide) rfl (a_dec_at dc_R_drawn 3 rfl) ?_
  refine ev_iload_n (i := 1) rfl rfl (a_dec_at dc_R_drawn 4 rfl) ?_
  refine ev_iconst (v := 4) rfl (a_dec_at dc_R_drawn 5 rfl) ?_
  refine ev_icmp_ne (tgt := 34) (a_dec_at dc_R_drawn 6 rfl) (by decide) (fun b2 => ?_) (fun b2 => ?_)
  · have H := H.1 b2
    refine ev_aload_n (i := 0) rfl rfl (a_dec_at dc_R_drawn 21 rfl) ?_
    refine ev_bipush (v := 6) rfl (a_dec_at dc_R_drawn 22 rfl) ?_
    refine cV1I cs_R_338 sh119 rfl (Nat.le_of_ble_eq_true rfl) (Nat.le_of_ble_eq_true rfl) (a_dec_at dc_R_drawn 23 rfl) ?_
    refine CI.mono (fun x3 mi3 ml3 z3 H => ?_) H
    refine ev_istore_n (i := 2) rfl (by decide) rfl (a_dec_at dc_R_drawn 24 rfl) ?_
    refine ev_iload_n (i := 1) rfl rfl (a_dec_at dc_R_drawn 25 rfl) ?_
    refine ev_iconst (v := 3) rfl (a_dec_at dc_R_drawn 26 rfl) ?_
    refine ev_icmp_ge (tgt := 59) (a_dec_at dc_R_drawn 27 rfl) (by decide) (fun b4 => ?_) (fun b4 => ?_)
    · have H := H.1 b4
      refine ev_iload_n (i := 1) rfl rfl (a_dec_at dc_R_drawn 36 rfl) ?_
      refine ev_iconst (v := 3) rfl (a_dec_at dc_R_drawn 37 rfl) ?_
      refine ev_icmp_ne (tgt := 71) (a_dec_at dc_R_drawn 38 rfl) (by decide) (fun b5 => ?_) (fun b5 => ?_)
      · have H := H.1 b5
        refine ev_sipush (v := 300) rfl (a_dec_at dc_R_drawn 43 rfl) ?_
        refine ev_bipush (v := 10) rfl (a_dec_at dc_R_drawn 44 rfl) ?_
        refine ev_iload_n (i := 2) rfl rfl (a_dec_at dc_R_drawn 45 rfl) ?_
        refine ev_imul (a_dec_at dc_R_drawn 46 rfl) ?_
        refine ev_iadd (a_dec_at dc_R_drawn 47 rfl) ?_
        refine ev_aload_n (i := 0) rfl rfl (a_dec_at dc_R_drawn 48 rfl) ?_
        refine ev_bipush (v := 10) rfl (a_dec_at dc_R_drawn 49 rfl) ?_
        refine cV1I cs_R_338 sh119 rfl (Nat.le_of_ble_eq_true rfl) (Nat.le_of_ble_eq_true rfl) (a_dec_at dc_R_drawn 50 rfl) ?_
        refine CI.mono (fun x6 mi6 ml6 z6 H => ?_) H
        refine ev_iadd (a_dec_at dc_R_drawn 51 rfl) ?_
        exact m_retI (a_dec_at dc_R_drawn 52 rfl) rfl rfl H
      · have H := H.2 b5
        refine ev_bipush (v := 100) rfl (a_dec_at dc_R_drawn 39 rfl) ?_
        refine ev_iload_n (i := 2) rfl rfl (a_dec_at dc_R_drawn 40 rfl) ?_
        refine ev_iadd (a_dec_at dc_R_drawn 41 rfl) ?_
        refine ev_goto (tgt := 86) (a_dec_at dc_R_drawn 42 rfl) (by decide) ?_
        exact m_retI (a_dec_at dc_R_drawn 52 rfl) rfl rfl H
    · have H := H.2 b4
      refine ev_bipush (v := 10) rfl (a_dec_at dc_R_drawn 28 rfl) ?_
      refine ev_iload_n (i := 2) rfl rfl (a_dec_at dc_R_drawn 29 rfl) ?_
      refine ev_imul (a_dec_at dc_R_drawn 30 rfl) ?_
      refine ev_aload_n (i := 0) rfl rfl (a_dec_at dc_R_drawn 31 rfl) ?_
      refine ev_iconst (v := 4) rfl (a_dec_at dc_R_drawn 32 rfl) ?_
      refine cV1I cs_R_338 sh119 rfl (Nat.le_of_ble_eq_true rfl) (Nat.le_of_ble_eq_true rfl) (a_dec_at dc_R_drawn 33 rfl) ?_
      refine CI.mono (fun x7 mi7 ml7 z7 H => ?_) H
      refine ev_iadd (a_dec_at dc_R_drawn 34 rfl) ?_
      refine ev_goto (tgt := 86) (a_dec_at dc_R_drawn 35 rfl) (by decide) ?_
      exact m_retI (a_dec_at dc_R_drawn 52 rfl) rfl rfl H
  · have H := H.2 b2
    refine ev_aload_n (i := 0) rfl rfl (a_dec_at dc_R_drawn 7 rfl) ?_
    refine ev_iconst (v := 4) rfl (a_dec_at dc_R_drawn 8 rfl) ?_
    refine cV1I cs_R_338 sh119 rfl (Nat.le_of_ble_eq_true rfl) (Nat.le_of_ble_eq_true rfl) (a_dec_at dc_R_drawn 9 rfl) ?_
    refine CI.mono (fun x8 mi8 ml8 z8 H => ?_) H
    refine ev_istore_n (i := 2) rfl (by decide) rfl (a_dec_at dc_R_drawn 10 rfl) ?_
    refine ev_sipush (v := 200) rfl (a_dec_at dc_R_drawn 11 rfl) ?_
    refine ev_bipush (v := 10) rfl (a_dec_at dc_R_drawn 12 rfl) ?_
    refine ev_iload_n (i := 2) rfl rfl (a_dec_at dc_R_drawn 13 rfl) ?_
    refine ev_imul (a_dec_at dc_R_drawn 14 rfl) ?_
    refine ev_iadd (a_dec_at dc_R_drawn 15 rfl) ?_
    refine ev_aload_n (i := 0) rfl rfl (a_dec_at dc_R_drawn 16 rfl) ?_
    refine ev_bipush (v := 6) rfl (a_dec_at dc_R_drawn 17 rfl) ?_
    refine cV1I cs_R_338 sh119 rfl (Nat.le_of_ble_eq_true rfl) (Nat.le_of_ble_eq_true rfl) (a_dec_at dc_R_drawn 18 rfl) ?_
    refine CI.mono (fun x9 mi9 ml9 z9 H => ?_) H
    refine ev_iadd (a_dec_at dc_R_drawn 19 rfl) ?_
    exact m_retI (a_dec_at dc_R_drawn 20 rfl) rfl rfl H
set_option maxRecDepth 20000 in
theorem t_R_draw {l : Launch} {h : Nat} (mi : TMi) (ml : TMl) (z : Nat) (a1 : Int32) {Q : Int32 → TMi → TMl → Nat → Prop} (H : (¬ a1 = 0) ∧ Q (a_rem (a_ushr ((up mi 119 22 ((1103515245 * (mi 119 22)) + 12345)) 119 22) 16) a1) (up mi 119 22 ((1103515245 * (mi 119 22)) + 12345)) ml z) : CI l (h + 1) m_R_draw [.ref 119, .int a1] mi ml z Q := by
  show Ev l (h + 1) m_R_draw 0 ([.ref 119, .int a1], [], st mi ml z) (qI Q)
  refine ev_aload_n (i := 0) rfl rfl (a_dec_at dc_R_draw 0 rfl) ?_
  refine ev_ldcw kc_R_334 (a_dec_at dc_R_draw 1 rfl) ?_
  refine ev_aload_n (i := 0) rfl rfl (a_dec_at dc_R_draw 2 rfl) ?_
  refine m_getI fl_R_335 rfl sh119 (a_dec_at dc_R_draw 3 rfl) ?_
  refine ev_imul (a_dec_at dc_R_draw 4 rfl) ?_
  refine ev_sipush (v := 12345) rfl (a_dec_at dc_R_draw 5 rfl) ?_
  refine ev_iadd (a_dec_at dc_R_draw 6 rfl) ?_
  refine m_putI fl_R_335 rfl (fun _ _ _ h => by cases h; exact Or.inl rfl) sh119 (a_dec_at dc_R_draw 7 rfl) ?_
  refine ev_aload_n (i := 0) rfl rfl (a_dec_at dc_R_draw 8 rfl) ?_
  refine m_getI fl_R_335 rfl sh119 (a_dec_at dc_R_draw 9 rfl) ?_
  refine ev_bipush (v := 16) rfl (a_dec_at dc_R_draw 10 rfl) ?_
  refine ev_iushr (a_dec_at dc_R_draw 11 rfl) ?_
  refine ev_iload_n (i := 1) rfl rfl (a_dec_at dc_R_draw 12 rfl) ?_
  obtain ⟨c1, H⟩ := H
  refine ev_irem c1 (a_dec_at dc_R_draw 13 rfl) ?_
  exact m_retI (a_dec_at dc_R_draw 14 rfl) rfl rfl H
set_option maxRecDepth 20000 in
theorem t_R_holds {l : Launch} {h : Nat} (mi : TMi) (ml : TMl) (z : Nat) {Q : Int32 → TMi → TMl → Nat → Prop} (H : CV l h m_R_laysNow [.ref 119] (up mi 119 0 0) ml z (fun mi1 ml1 z1 => CI l h m_R_isHeld [.ref 119] mi1 ml1 z1 (fun x2 mi2 ml2 z2 => ((x2 = 0 → Q 0 mi2 ml2 z2) ∧ (¬ x2 = 0 → Q 1 mi2 ml2 z2))))) : CI l (h + 1) m_R_holds [.ref 119] mi ml z Q := by
  show Ev l (h + 1) m_R_holds 0 ([.ref 119], [], st mi ml z) (qI Q)
  refine ev_aload_n (i := 0) rfl rfl (a_dec_at dc_R_holds 0 rfl) ?_
  refine ev_iconst (v := 0) rfl (a_dec_at dc_R_holds 1 rfl) ?_
  refine m_putI fl_R_1 rfl (fun _ _ _ h => by cases h; exact Or.inl rfl) sh119 (a_dec_at dc_R_holds 2 rfl) ?_
  refine ev_aload_n (i := 0) rfl rfl (a_dec_at dc_R_holds 3 rfl) ?_
  refine cV0V cs_R_359 sh119 rfl (Nat.le_of_ble_eq_true rfl) (Nat.le_of_ble_eq_true rfl) (a_dec_at dc_R_holds 4 rfl) ?_
  refine CV.mono (fun mi1 ml1 z1 H => ?_) H
  refine ev_aload_n (i := 0) rfl rfl (a_dec_at dc_R_holds 5 rfl) ?_
  refine cV0I cs_R_362 sh119 rfl (Nat.le_of_ble_eq_true rfl) (Nat.le_of_ble_eq_true rfl) (a_dec_at dc_R_holds 6 rfl) ?_
  refine CI.mono (fun x2 mi2 ml2 z2 H => ?_) H
  refine ev_if_eq (tgt := 20) (a_dec_at dc_R_holds 7 rfl) (by decide) (fun b3 => ?_) (fun b3 => ?_)
  · have H := H.1 b3
    refine ev_iconst (v := 0) rfl (a_dec_at dc_R_holds 10 rfl) ?_
    exact m_retI (a_dec_at dc_R_holds 11 rfl) rfl rfl H
  · have H := H.2 b3
    refine ev_iconst (v := 1) rfl (a_dec_at dc_R_holds 8 rfl) ?_
    refine ev_goto (tgt := 21) (a_dec_at dc_R_holds 9 rfl) (by decide) ?_
    exact m_retI (a_dec_at dc_R_holds 11 rfl) rfl rfl H
set_option maxRecDepth 20000 in
theorem t_R_laysNow {l : Launch} {h : Nat} (mi : TMi) (ml : TMl) (z : Nat) {Q : TMi → TMl → Nat → Prop} (H : CV l h m_R_laysLikes [.ref 119] mi ml z (fun mi1 ml1 z1 => Ev l (h + 1) m_R_laysNow 6 ([.ref 119, .int 0], [], st mi1 ml1 z1) (qV Q))) : CV l (h + 1) m_R_laysNow [.ref 119] mi ml z Q := by
  show Ev l (h + 1) m_R_laysNow 0 ([.ref 119, .retAddr 0], [], st mi ml z) (qV Q)
  refine ev_aload_n (i := 0) rfl rfl (a_dec_at dc_R_laysNow 0 rfl) ?_
  refine cV0V cs_R_237 sh119 rfl (Nat.le_of_ble_eq_true rfl) (Nat.le_of_ble_eq_true rfl) (a_dec_at dc_R_laysNow 1 rfl) ?_
  refine CV.mono (fun mi1 ml1 z1 H => ?_) H
  refine ev_iconst (v := 0) rfl (a_dec_at dc_R_laysNow 2 rfl) ?_
  refine ev_istore_n (i := 1) rfl (by decide) rfl (a_dec_at dc_R_laysNow 3 rfl) ?_
  exact Ev.drop (L' := [.ref 119, .int 0]) (And.intro rfl (And.intro rfl trivial)) H
set_option maxRecDepth 20000 in
theorem t_R_laysNow_6 {l : Launch} {h : Nat} (mi : TMi) (ml : TMl) (z : Nat) (v1 : Int32) {Q : TMi → TMl → Nat → Prop} (H : ((6 ≤ v1 → Q mi ml z) ∧ (¬ 6 ≤ v1 → (vp_in (29 + v1) 4113) ∧ (vp_in v1 6) ∧ Ev l (h + 1) m_R_laysNow 6 ([.ref 119, .int (v1 + 1)], [], st (up mi 129 v1.toNatClampNeg (mi 120 ((29 + v1).toNatClampNeg))) ml z) (qV Q)))) : Ev l (h + 1) m_R_laysNow 6 ([.ref 119, .int v1], [], st mi ml z) (qV Q) := by
  refine ev_iload_n (i := 1) rfl rfl (a_dec_at dc_R_laysNow 4 rfl) ?_
  refine ev_bipush (v := 6) rfl (a_dec_at dc_R_laysNow 5 rfl) ?_
  refine ev_icmp_ge (tgt := 33) (a_dec_at dc_R_laysNow 6 rfl) (by decide) (fun b1 => ?_) (fun b1 => ?_)
  · have H := H.1 b1
    exact m_retV (a_dec_at dc_R_laysNow 19 rfl) rfl H
  · have H := H.2 b1
    refine ev_aload_n (i := 0) rfl rfl (a_dec_at dc_R_laysNow 7 rfl) ?_
    refine m_getR (y := 129) fl_R_45 rfl sh119 (mr_119_23 _) (by decide) (a_dec_at dc_R_laysNow 8 rfl) ?_
    refine ev_iload_n (i := 1) rfl rfl (a_dec_at dc_R_laysNow 9 rfl) ?_
    refine ev_aload_n (i := 0) rfl rfl (a_dec_at dc_R_laysNow 10 rfl) ?_
    refine m_getR (y := 120) fl_R_13 rfl sh119 (mr_119_1 _) (by decide) (a_dec_at dc_R_laysNow 11 rfl) ?_
    refine ev_bipush (v := 29) rfl (a_dec_at dc_R_laysNow 12 rfl) ?_
    refine ev_iload_n (i := 1) rfl rfl (a_dec_at dc_R_laysNow 13 rfl) ?_
    refine ev_iadd (a_dec_at dc_R_laysNow 14 rfl) ?_
    obtain ⟨c2, H⟩ := H
    refine w_iald (k := (29 + v1).toNatClampNeg) sh120 c2 rfl (a_dec_at dc_R_laysNow 15 rfl) ?_
    obtain ⟨c3, H⟩ := H
    refine w_iast (k := v1.toNatClampNeg) sh129 c3 rfl (a_dec_at dc_R_laysNow 16 rfl) ?_
    refine ev_iinc (v := 1) rfl rfl (by decide) rfl (a_dec_at dc_R_laysNow 17 rfl) ?_
    refine ev_goto (tgt := 6) (a_dec_at dc_R_laysNow 18 rfl) (by decide) ?_
    exact Ev.drop (L' := [.ref 119, .int (v1 + 1)]) (And.intro rfl (And.intro rfl trivial)) H
set_option maxRecDepth 20000 in
theorem t_R_isHeld {l : Launch} {h : Nat} (mi : TMi) (ml : TMl) (z : Nat) {Q : Int32 → TMi → TMl → Nat → Prop} (H : CI l h m_R_isWanted [.ref 119] mi ml z (fun x1 mi1 ml1 z1 => ((¬ x1 = 0 → Ev l (h + 1) m_R_isHeld 11 ([.ref 119, .int 0, .retAddr 0], [], st mi1 ml1 z1) (qI Q)) ∧ (x1 = 0 → Q 0 mi1 ml1 z1)))) : CI l (h + 1) m_R_isHeld [.ref 119] mi ml z Q := by
  show Ev l (h + 1) m_R_isHeld 0 ([.ref 119, .retAddr 0, .retAddr 0], [], st mi ml z) (qI Q)
  refine ev_aload_n (i := 0) rfl rfl (a_dec_at dc_R_isHeld 0 rfl) ?_
  refine cV0I cs_R_352 sh119 rfl (Nat.le_of_ble_eq_true rfl) (Nat.le_of_ble_eq_true rfl) (a_dec_at dc_R_isHeld 1 rfl) ?_
  refine CI.mono (fun x1 mi1 ml1 z1 H => ?_) H
  refine ev_if_ne (tgt := 9) (a_dec_at dc_R_isHeld 2 rfl) (by decide) (fun b2 => ?_) (fun b2 => ?_)
  · have H := H.1 b2
    refine ev_iconst (v := 0) rfl (a_dec_at dc_R_isHeld 5 rfl) ?_
    refine ev_istore_n (i := 1) rfl (by decide) rfl (a_dec_at dc_R_isHeld 6 rfl) ?_
    exact Ev.drop (L' := [.ref 119, .int 0, .retAddr 0]) (And.intro rfl (And.intro rfl trivial)) H
  · have H := H.2 b2
    refine ev_iconst (v := 0) rfl (a_dec_at dc_R_isHeld 3 rfl) ?_
    exact m_retI (a_dec_at dc_R_isHeld 4 rfl) rfl rfl H
set_option maxRecDepth 20000 in
theorem t_R_isHeld_11 {l : Launch} {h : Nat} (mi : TMi) (ml : TMl) (z : Nat) (v1 : Int32) {Q : Int32 → TMi → TMl → Nat → Prop} (H : (((mi 120 1) ≤ v1 → Q 1 mi ml z) ∧ (¬ (mi 120 1) ≤ v1 → Ev l (h + 1) m_R_isHeld 23 ([.ref 119, .int v1, .int 0], [], st mi ml z) (qI Q)))) : Ev l (h + 1) m_R_isHeld 11 ([.ref 119, .int v1, .retAddr 0], [], st mi ml z) (qI Q) := by
  refine ev_iload_n (i := 1) rfl rfl (a_dec_at dc_R_isHeld 7 rfl) ?_
  refine ev_aload_n (i := 0) rfl rfl (a_dec_at dc_R_isHeld 8 rfl) ?_
  refine m_getR (y := 120) fl_R_13 rfl sh119 (mr_119_1 _) (by decide) (a_dec_at dc_R_isHeld 9 rfl) ?_
  refine ev_iconst (v := 1) rfl (a_dec_at dc_R_isHeld 10 rfl) ?_
  refine w_iald (k := 1) sh120 (by unfold vp_in; decide) (by decide) (a_dec_at dc_R_isHeld 11 rfl) ?_
  refine ev_icmp_ge (tgt := 56) (a_dec_at dc_R_isHeld 12 rfl) (by decide) (fun b1 => ?_) (fun b1 => ?_)
  · have H := H.1 b1
    refine ev_iconst (v := 1) rfl (a_dec_at dc_R_isHeld 32 rfl) ?_
    exact m_retI (a_dec_at dc_R_isHeld 33 rfl) rfl rfl H
  · have H := H.2 b1
    refine ev_iconst (v := 0) rfl (a_dec_at dc_R_isHeld 13 rfl) ?_
    refine ev_istore_n (i := 2) rfl (by decide) rfl (a_dec_at dc_R_isHeld 14 rfl) ?_
    exact Ev.drop (L' := [.ref 119, .int v1, .int 0]) (And.intro rfl (And.intro rfl (And.intro rfl trivial))) H
set_option maxRecDepth 20000 in
theorem t_R_isHeld_23 {l : Launch} {h : Nat} (mi : TMi) (ml : TMl) (z : Nat) (v1 : Int32) (v2 : Int32) {Q : Int32 → TMi → TMl → Nat → Prop} (H : (((mi 120 2) ≤ v2 → Ev l (h + 1) m_R_isHeld 11 ([.ref 119, .int (v1 + 1), .retAddr 0], [], st mi ml z) (qI Q)) ∧ (¬ (mi 120 2) ≤ v2 → CI l h m_R_breaksIt [.ref 119, .int v1, .int v2] mi ml z (fun x2 mi2 ml2 z2 => ((x2 = 0 → Ev l (h + 1) m_R_isHeld 23 ([.ref 119, .int v1, .int (v2 + 1)], [], st mi2 ml2 z2) (qI Q)) ∧ (¬ x2 = 0 → Q 0 mi2 ml2 z2)))))) : Ev l (h + 1) m_R_isHeld 23 ([.ref 119, .int v1, .int v2], [], st mi ml z) (qI Q) := by
  refine ev_iload_n (i := 2) rfl rfl (a_dec_at dc_R_isHeld 15 rfl) ?_
  refine ev_aload_n (i := 0) rfl rfl (a_dec_at dc_R_isHeld 16 rfl) ?_
  refine m_getR (y := 120) fl_R_13 rfl sh119 (mr_119_1 _) (by decide) (a_dec_at dc_R_isHeld 17 rfl) ?_
  refine ev_iconst (v := 2) rfl (a_dec_at dc_R_isHeld 18 rfl) ?_
  refine w_iald (k := 2) sh120 (by unfold vp_in; decide) (by decide) (a_dec_at dc_R_isHeld 19 rfl) ?_
  refine ev_icmp_ge (tgt := 50) (a_dec_at dc_R_isHeld 20 rfl) (by decide) (fun b1 => ?_) (fun b1 => ?_)
  · have H := H.1 b1
    refine ev_iinc (v := 1) rfl rfl (by decide) rfl (a_dec_at dc_R_isHeld 30 rfl) ?_
    refine ev_goto (tgt := 11) (a_dec_at dc_R_isHeld 31 rfl) (by decide) ?_
    exact Ev.drop (L' := [.ref 119, .int (v1 + 1), .retAddr 0]) (And.intro rfl (And.intro rfl trivial)) H
  · have H := H.2 b1
    refine ev_aload_n (i := 0) rfl rfl (a_dec_at dc_R_isHeld 21 rfl) ?_
    refine ev_iload_n (i := 1) rfl rfl (a_dec_at dc_R_isHeld 22 rfl) ?_
    refine ev_iload_n (i := 2) rfl rfl (a_dec_at dc_R_isHeld 23 rfl) ?_
    refine cV2I cs_R_356 sh119 rfl (Nat.le_of_ble_eq_true rfl) (Nat.le_of_ble_eq_true rfl) (a_dec_at dc_R_isHeld 24 rfl) ?_
    refine CI.mono (fun x2 mi2 ml2 z2 H => ?_) H
    refine ev_if_eq (tgt := 44) (a_dec_at dc_R_isHeld 25 rfl) (by decide) (fun b3 => ?_) (fun b3 => ?_)
    · have H := H.1 b3
      refine ev_iinc (v := 1) rfl rfl (by decide) rfl (a_dec_at dc_R_isHeld 28 rfl) ?_
      refine ev_goto (tgt := 23) (a_dec_at dc_R_isHeld 29 rfl) (by decide) ?_
      exact Ev.drop (L' := [.ref 119, .int v1, .int (v2 + 1)]) (And.intro rfl (And.intro rfl (And.intro rfl trivial))) H
    · have H := H.2 b3
      refine ev_iconst (v := 0) rfl (a_dec_at dc_R_isHeld 26 rfl) ?_
      exact m_retI (a_dec_at dc_R_isHeld 27 rfl) rfl rfl H
set_option maxRecDepth 20000 in
theorem t_R_isWanted {l : Launch} {h : Nat} (mi : TMi) (ml : TMl) (z : Nat) {Q : Int32 → TMi → TMl → Nat → Prop} (H : Ev l (h + 1) m_R_isWanted 2 ([.ref 119, .int 0], [], st mi ml z) (qI Q)) : CI l (h + 1) m_R_isWanted [.ref 119] mi ml z Q := by
  show Ev l (h + 1) m_R_isWanted 0 ([.ref 119, .retAddr 0], [], st mi ml z) (qI Q)
  refine ev_iconst (v := 0) rfl (a_dec_at dc_R_isWanted 0 rfl) ?_
  refine ev_istore_n (i := 1) rfl (by decide) rfl (a_dec_at dc_R_isWanted 1 rfl) ?_
  exact Ev.drop (L' := [.ref 119, .int 0]) (And.intro rfl (And.intro rfl trivial)) H
set_option maxRecDepth 20000 in
theorem t_R_isWanted_2 {l : Launch} {h : Nat} (mi : TMi) (ml : TMl) (z : Nat) (v1 : Int32) {Q : Int32 → TMi → TMl → Nat → Prop} (H : (((mi 120 1) ≤ v1 → Q 1 mi ml z) ∧ (¬ (mi 120 1) ≤ v1 → (vp_in v1 6) ∧ (((mi 129 v1.toNatClampNeg) = (-1) → Ev l (h + 1) m_R_isWanted 2 ([.ref 119, .int (v1 + 1)], [], st mi ml z) (qI Q)) ∧ (¬ (mi 129 v1.toNatClampNeg) = (-1) → (vp_in v1 6) ∧ CI l h m_R_wouldBoth [.ref 119, .int v1, .int (mi 129 v1.toNatClampNeg)] mi ml z (fun x5 mi5 ml5 z5 => ((¬ x5 = 0 → Ev l (h + 1) m_R_isWanted 2 ([.ref 119, .int (v1 + 1)], [], st mi5 ml5 z5) (qI Q)) ∧ (x5 = 0 → Q 0 mi5 ml5 z5)))))))) : Ev l (h + 1) m_R_isWanted 2 ([.ref 119, .int v1], [], st mi ml z) (qI Q) := by
  refine ev_iload_n (i := 1) rfl rfl (a_dec_at dc_R_isWanted 2 rfl) ?_
  refine ev_aload_n (i := 0) rfl rfl (a_dec_at dc_R_isWanted 3 rfl) ?_
  refine m_getR (y := 120) fl_R_13 rfl sh119 (mr_119_1 _) (by decide) (a_dec_at dc_R_isWanted 4 rfl) ?_
  refine ev_iconst (v := 1) rfl (a_dec_at dc_R_isWanted 5 rfl) ?_
  refine w_iald (k := 1) sh120 (by unfold vp_in; decide) (by decide) (a_dec_at dc_R_isWanted 6 rfl) ?_
  refine ev_icmp_ge (tgt := 44) (a_dec_at dc_R_isWanted 7 rfl) (by decide) (fun b1 => ?_) (fun b1 => ?_)
  · have H := H.1 b1
    refine ev_iconst (v := 1) rfl (a_dec_at dc_R_isWanted 26 rfl) ?_
    exact m_retI (a_dec_at dc_R_isWanted 27 rfl) rfl rfl H
  · have H := H.2 b1
    refine ev_aload_n (i := 0) rfl rfl (a_dec_at dc_R_isWanted 8 rfl) ?_
    refine m_getR (y := 129) fl_R_45 rfl sh119 (mr_119_23 _) (by decide) (a_dec_at dc_R_isWanted 9 rfl) ?_
    refine ev_iload_n (i := 1) rfl rfl (a_dec_at dc_R_isWanted 10 rfl) ?_
    obtain ⟨c2, H⟩ := H
    refine w_iald (k := v1.toNatClampNeg) sh129 c2 rfl (a_dec_at dc_R_isWanted 11 rfl) ?_
    refine ev_iconst (v := (-1)) rfl (a_dec_at dc_R_isWanted 12 rfl) ?_
    refine ev_icmp_eq (tgt := 38) (a_dec_at dc_R_isWanted 13 rfl) (by decide) (fun b3 => ?_) (fun b3 => ?_)
    · have H := H.1 b3
      refine ev_iinc (v := 1) rfl rfl (by decide) rfl (a_dec_at dc_R_isWanted 24 rfl) ?_
      refine ev_goto (tgt := 2) (a_dec_at dc_R_isWanted 25 rfl) (by decide) ?_
      exact Ev.drop (L' := [.ref 119, .int (v1 + 1)]) (And.intro rfl (And.intro rfl trivial)) H
    · have H := H.2 b3
      refine ev_aload_n (i := 0) rfl rfl (a_dec_at dc_R_isWanted 14 rfl) ?_
      refine ev_iload_n (i := 1) rfl rfl (a_dec_at dc_R_isWanted 15 rfl) ?_
      refine ev_aload_n (i := 0) rfl rfl (a_dec_at dc_R_isWanted 16 rfl) ?_
      refine m_getR (y := 129) fl_R_45 rfl sh119 (mr_119_23 _) (by decide) (a_dec_at dc_R_isWanted 17 rfl) ?_
      refine ev_iload_n (i := 1) rfl rfl (a_dec_at dc_R_isWanted 18 rfl) ?_
      obtain ⟨c4, H⟩ := H
      refine w_iald (k := v1.toNatClampNeg) sh129 c4 rfl (a_dec_at dc_R_isWanted 19 rfl) ?_
      refine cV2I cs_R_229 sh119 rfl (Nat.le_of_ble_eq_true rfl) (Nat.le_of_ble_eq_true rfl) (a_dec_at dc_R_isWanted 20 rfl) ?_
      refine CI.mono (fun x5 mi5 ml5 z5 H => ?_) H
      refine ev_if_ne (tgt := 38) (a_dec_at dc_R_isWanted 21 rfl) (by decide) (fun b6 => ?_) (fun b6 => ?_)
      · have H := H.1 b6
        refine ev_iinc (v := 1) rfl rfl (by decide) rfl (a_dec_at dc_R_isWanted 24 rfl) ?_
        refine ev_goto (tgt := 2) (a_dec_at dc_R_isWanted 25 rfl) (by decide) ?_
        exact Ev.drop (L' := [.ref 119, .int (v1 + 1)]) (And.intro rfl (And.intro rfl trivial)) H
      · have H := H.2 b6
        refine ev_iconst (v := 0) rfl (a_dec_at dc_R_isWanted 22 rfl) ?_
        exact m_retI (a_dec_at dc_R_isWanted 23 rfl) rfl rfl H
set_option maxRecDepth 20000 in
theorem t_R_breaksIt {l : Launch} {h : Nat} (mi : TMi) (ml : TMl) (z : Nat) (a1 : Int32) (a2 : Int32) {Q : Int32 → TMi → TMl → Nat → Prop} (H : (vp_in a1 6) ∧ (((mi 129 a1.toNatClampNeg) = a2 → Q 0 mi ml z) ∧ (¬ (mi 129 a1.toNatClampNeg) = a2 → CI l h m_R_wouldBoth [.ref 119, .int a1, .int a2] mi ml z (fun x3 mi3 ml3 z3 => ((x3 = 0 → Q 0 mi3 ml3 z3) ∧ (¬ x3 = 0 → (vp_in a1 6) ∧ (((mi3 129 a1.toNatClampNeg) = (-1) → CI l h m_R_becksBy [.ref 119, .int a2] mi3 ml3 z3 (fun x7 mi7 ml7 z7 => CI l h m_R_bitsOf [.int x7] mi7 ml7 z7 (fun x8 mi8 ml8 z8 => (vp_in (41 + a2) 4113) ∧ ((x8 < (mi8 120 ((41 + a2).toNatClampNeg)) → Q 1 mi8 ml8 z8) ∧ (¬ x8 < (mi8 120 ((41 + a2).toNatClampNeg)) → ((x7 = 0 → Q 0 mi8 ml8 z8) ∧ (¬ x7 = 0 → CI l h m_R_leastOf [.ref 119, .int a2, .int x7] mi8 ml8 z8 (fun x12 mi12 ml12 z12 => CI l h m_R_takesMore [.ref 119, .int a2, .int a1, .int x12] mi12 ml12 z12 (fun x13 mi13 ml13 z13 => ((x13 = 0 → Q 0 mi13 ml13 z13) ∧ (¬ x13 = 0 → Q 1 mi13 ml13 z13))))))))))) ∧ (¬ (mi3 129 a1.toNatClampNeg) = (-1) → (vp_in a1 6) ∧ CI l h m_R_likesMore [.ref 119, .int a1, .int a2, .int (mi3 129 a1.toNatClampNeg)] mi3 ml3 z3 (fun x16 mi16 ml16 z16 => ((¬ x16 = 0 → CI l h m_R_becksBy [.ref 119, .int a2] mi16 ml16 z16 (fun x18 mi18 ml18 z18 => CI l h m_R_bitsOf [.int x18] mi18 ml18 z18 (fun x19 mi19 ml19 z19 => (vp_in (41 + a2) 4113) ∧ ((x19 < (mi19 120 ((41 + a2).toNatClampNeg)) → Q 1 mi19 ml19 z19) ∧ (¬ x19 < (mi19 120 ((41 + a2).toNatClampNeg)) → ((x18 = 0 → Q 0 mi19 ml19 z19) ∧ (¬ x18 = 0 → CI l h m_R_leastOf [.ref 119, .int a2, .int x18] mi19 ml19 z19 (fun x23 mi23 ml23 z23 => CI l h m_R_takesMore [.ref 119, .int a2, .int a1, .int x23] mi23 ml23 z23 (fun x24 mi24 ml24 z24 => ((x24 = 0 → Q 0 mi24 ml24 z24) ∧ (¬ x24 = 0 → Q 1 mi24 ml24 z24))))))))))) ∧ (x16 = 0 → Q 0 mi16 ml16 z16))))))))))) : CI l (h + 1) m_R_breaksIt [.ref 119, .int a1, .int a2] mi ml z Q := by
  show Ev l (h + 1) m_R_breaksIt 0 ([.ref 119, .int a1, .int a2, .retAddr 0], [], st mi ml z) (qI Q)
  refine ev_aload_n (i := 0) rfl rfl (a_dec_at dc_R_breaksIt 0 rfl) ?_
  refine m_getR (y := 129) fl_R_45 rfl sh119 (mr_119_23 _) (by decide) (a_dec_at dc_R_breaksIt 1 rfl) ?_
  refine ev_iload_n (i := 1) rfl rfl (a_dec_at dc_R_breaksIt 2 rfl) ?_
  obtain ⟨c1, H⟩ := H
  refine w_iald (k := a1.toNatClampNeg) sh129 c1 rfl (a_dec_at dc_R_breaksIt 3 rfl) ?_
  refine ev_iload_n (i := 2) rfl rfl (a_dec_at dc_R_breaksIt 4 rfl) ?_
  refine ev_icmp_eq (tgt := 44) (a_dec_at dc_R_breaksIt 5 rfl) (by decide) (fun b2 => ?_) (fun b2 => ?_)
  · have H := H.1 b2
    refine ev_iconst (v := 0) rfl (a_dec_at dc_R_breaksIt 26 rfl) ?_
    exact m_retI (a_dec_at dc_R_breaksIt 27 rfl) rfl rfl H
  · have H := H.2 b2
    refine ev_aload_n (i := 0) rfl rfl (a_dec_at dc_R_breaksIt 6 rfl) ?_
    refine ev_iload_n (i := 1) rfl rfl (a_dec_at dc_R_breaksIt 7 rfl) ?_
    refine ev_iload_n (i := 2) rfl rfl (a_dec_at dc_R_breaksIt 8 rfl) ?_
    refine cV2I cs_R_229 sh119 rfl (Nat.le_of_ble_eq_true rfl) (Nat.le_of_ble_eq_true rfl) (a_dec_at dc_R_breaksIt 9 rfl) ?_
    refine CI.mono (fun x3 mi3 ml3 z3 H => ?_) H
    refine ev_if_eq (tgt := 44) (a_dec_at dc_R_breaksIt 10 rfl) (by decide) (fun b4 => ?_) (fun b4 => ?_)
    · have H := H.1 b4
      refine ev_iconst (v := 0) rfl (a_dec_at dc_R_breaksIt 26 rfl) ?_
      exact m_retI (a_dec_at dc_R_breaksIt 27 rfl) rfl rfl H
    · have H := H.2 b4
      refine ev_aload_n (i := 0) rfl rfl (a_dec_at dc_R_breaksIt 11 rfl) ?_
      refine m_getR (y := 129) fl_R_45 rfl sh119 (mr_119_23 _) (by decide) (a_dec_at dc_R_breaksIt 12 rfl) ?_
      refine ev_iload_n (i := 1) rfl rfl (a_dec_at dc_R_breaksIt 13 rfl) ?_
      obtain ⟨c5, H⟩ := H
      refine w_iald (k := a1.toNatClampNeg) sh129 c5 rfl (a_dec_at dc_R_breaksIt 14 rfl) ?_
      refine ev_iconst (v := (-1)) rfl (a_dec_at dc_R_breaksIt 15 rfl) ?_
      refine ev_icmp_eq (tgt := 46) (a_dec_at dc_R_breaksIt 16 rfl) (by decide) (fun b6 => ?_) (fun b6 => ?_)
      · have H := H.1 b6
        refine ev_aload_n (i := 0) rfl rfl (a_dec_at dc_R_breaksIt 28 rfl) ?_
        refine ev_iload_n (i := 2) rfl rfl (a_dec_at dc_R_breaksIt 29 rfl) ?_
        refine cV1I cs_R_349 sh119 rfl (Nat.le_of_ble_eq_true rfl) (Nat.le_of_ble_eq_true rfl) (a_dec_at dc_R_breaksIt 30 rfl) ?_
        refine CI.mono (fun x7 mi7 ml7 z7 H => ?_) H
        refine ev_istore_n (i := 3) rfl (by decide) rfl (a_dec_at dc_R_breaksIt 31 rfl) ?_
        refine ev_iload_n (i := 3) rfl rfl (a_dec_at dc_R_breaksIt 32 rfl) ?_
        refine cS1I cs_R_256 rfl (Nat.le_of_ble_eq_true rfl) (Nat.le_of_ble_eq_true rfl) (a_dec_at dc_R_breaksIt 33 rfl) ?_
        refine CI.mono (fun x8 mi8 ml8 z8 H => ?_) H
        refine ev_aload_n (i := 0) rfl rfl (a_dec_at dc_R_breaksIt 34 rfl) ?_
        refine m_getR (y := 120) fl_R_13 rfl sh119 (mr_119_1 _) (by decide) (a_dec_at dc_R_breaksIt 35 rfl) ?_
        refine ev_bipush (v := 41) rfl (a_dec_at dc_R_breaksIt 36 rfl) ?_
        refine ev_iload_n (i := 2) rfl rfl (a_dec_at dc_R_breaksIt 37 rfl) ?_
        refine ev_iadd (a_dec_at dc_R_breaksIt 38 rfl) ?_
        obtain ⟨c9, H⟩ := H
        refine w_iald (k := (41 + a2).toNatClampNeg) sh120 c9 rfl (a_dec_at dc_R_breaksIt 39 rfl) ?_
        refine ev_icmp_lt (tgt := 87) (a_dec_at dc_R_breaksIt 40 rfl) (by decide) (fun b10 => ?_) (fun b10 => ?_)
        · have H := H.1 b10
          refine ev_iconst (v := 1) rfl (a_dec_at dc_R_breaksIt 52 rfl) ?_
          refine ev_goto (tgt := 92) (a_dec_at dc_R_breaksIt 53 rfl) (by decide) ?_
          exact m_retI (a_dec_at dc_R_breaksIt 55 rfl) rfl rfl H
        · have H := H.2 b10
          refine ev_iload_n (i := 3) rfl rfl (a_dec_at dc_R_breaksIt 41 rfl) ?_
          refine ev_if_eq (tgt := 91) (a_dec_at dc_R_breaksIt 42 rfl) (by decide) (fun b11 => ?_) (fun b11 => ?_)
          · have H := H.1 b11
            refine ev_iconst (v := 0) rfl (a_dec_at dc_R_breaksIt 54 rfl) ?_
            exact m_retI (a_dec_at dc_R_breaksIt 55 rfl) rfl rfl H
          · have H := H.2 b11
            refine ev_aload_n (i := 0) rfl rfl (a_dec_at dc_R_breaksIt 43 rfl) ?_
            refine ev_iload_n (i := 2) rfl rfl (a_dec_at dc_R_breaksIt 44 rfl) ?_
            refine ev_iload_n (i := 1) rfl rfl (a_dec_at dc_R_breaksIt 45 rfl) ?_
            refine ev_aload_n (i := 0) rfl rfl (a_dec_at dc_R_breaksIt 46 rfl) ?_
            refine ev_iload_n (i := 2) rfl rfl (a_dec_at dc_R_breaksIt 47 rfl) ?_
            refine ev_iload_n (i := 3) rfl rfl (a_dec_at dc_R_breaksIt 48 rfl) ?_
            refine cV2I cs_R_252 sh119 rfl (Nat.le_of_ble_eq_true rfl) (Nat.le_of_ble_eq_true rfl) (a_dec_at dc_R_breaksIt 49 rfl) ?_
            refine CI.mono (fun x12 mi12 ml12 z12 H => ?_) H
            refine cV3I cs_R_225 sh119 rfl (Nat.le_of_ble_eq_true rfl) (Nat.le_of_ble_eq_true rfl) (a_dec_at dc_R_breaksIt 50 rfl) ?_
            refine CI.mono (fun x13 mi13 ml13 z13 H => ?_) H
            refine ev_if_eq (tgt := 91) (a_dec_at dc_R_breaksIt 51 rfl) (by decide) (fun b14 => ?_) (fun b14 => ?_)
            · have H := H.1 b14
              refine ev_iconst (v := 0) rfl (a_dec_at dc_R_breaksIt 54 rfl) ?_
              exact m_retI (a_dec_at dc_R_breaksIt 55 rfl) rfl rfl H
            · have H := H.2 b14
              refine ev_iconst (v := 1) rfl (a_dec_at dc_R_breaksIt 52 rfl) ?_
              refine ev_goto (tgt := 92) (a_dec_at dc_R_breaksIt 53 rfl) (by decide) ?_
              exact m_retI (a_dec_at dc_R_breaksIt 55 rfl) rfl rfl H
      · have H := H.2 b6
        refine ev_aload_n (i := 0) rfl rfl (a_dec_at dc_R_breaksIt 17 rfl) ?_
        refine ev_iload_n (i := 1) rfl rfl (a_dec_at dc_R_breaksIt 18 rfl) ?_
        refine ev_iload_n (i := 2) rfl rfl (a_dec_at dc_R_breaksIt 19 rfl) ?_
        refine ev_aload_n (i := 0) rfl rfl (a_dec_at dc_R_breaksIt 20 rfl) ?_
        refine m_getR (y := 129) fl_R_45 rfl sh119 (mr_119_23 _) (by decide) (a_dec_at dc_R_breaksIt 21 rfl) ?_
        refine ev_iload_n (i := 1) rfl rfl (a_dec_at dc_R_breaksIt 22 rfl) ?_
        obtain ⟨c15, H⟩ := H
        refine w_iald (k := a1.toNatClampNeg) sh129 c15 rfl (a_dec_at dc_R_breaksIt 23 rfl) ?_
        refine cV3I cs_R_346 sh119 rfl (Nat.le_of_ble_eq_true rfl) (Nat.le_of_ble_eq_true rfl) (a_dec_at dc_R_breaksIt 24 rfl) ?_
        refine CI.mono (fun x16 mi16 ml16 z16 H => ?_) H
        refine ev_if_ne (tgt := 46) (a_dec_at dc_R_breaksIt 25 rfl) (by decide) (fun b17 => ?_) (fun b17 => ?_)
        · have H := H.1 b17
          refine ev_aload_n (i := 0) rfl rfl (a_dec_at dc_R_breaksIt 28 rfl) ?_
          refine ev_iload_n (i := 2) rfl rfl (a_dec_at dc_R_breaksIt 29 rfl) ?_
          refine cV1I cs_R_349 sh119 rfl (Nat.le_of_ble_eq_true rfl) (Nat.le_of_ble_eq_true rfl) (a_dec_at dc_R_breaksIt 30 rfl) ?_
          refine CI.mono (fun x18 mi18 ml18 z18 H => ?_) H
          refine ev_istore_n (i := 3) rfl (by decide) rfl (a_dec_at dc_R_breaksIt 31 rfl) ?_
          refine ev_iload_n (i := 3) rfl rfl (a_dec_at dc_R_breaksIt 32 rfl) ?_
          refine cS1I cs_R_256 rfl (Nat.le_of_ble_eq_true rfl) (Nat.le_of_ble_eq_true rfl) (a_dec_at dc_R_breaksIt 33 rfl) ?_
          refine CI.mono (fun x19 mi19 ml19 z19 H => ?_) H
          refine ev_aload_n (i := 0) rfl rfl (a_dec_at dc_R_breaksIt 34 rfl) ?_
          refine m_getR (y := 120) fl_R_13 rfl sh119 (mr_119_1 _) (by decide) (a_dec_at dc_R_breaksIt 35 rfl) ?_
          refine ev_bipush (v := 41) rfl (a_dec_at dc_R_breaksIt 36 rfl) ?_
          refine ev_iload_n (i := 2) rfl rfl (a_dec_at dc_R_breaksIt 37 rfl) ?_
          refine ev_iadd (a_dec_at dc_R_breaksIt 38 rfl) ?_
          obtain ⟨c20, H⟩ := H
          refine w_iald (k := (41 + a2).toNatClampNeg) sh120 c20 rfl (a_dec_at dc_R_breaksIt 39 rfl) ?_
          refine ev_icmp_lt (tgt := 87) (a_dec_at dc_R_breaksIt 40 rfl) (by decide) (fun b21 => ?_) (fun b21 => ?_)
          · have H := H.1 b21
            refine ev_iconst (v := 1) rfl (a_dec_at dc_R_breaksIt 52 rfl) ?_
            refine ev_goto (tgt := 92) (a_dec_at dc_R_breaksIt 53 rfl) (by decide) ?_
            exact m_retI (a_dec_at dc_R_breaksIt 55 rfl) rfl rfl H
          · have H := H.2 b21
            refine ev_iload_n (i := 3) rfl rfl (a_dec_at dc_R_breaksIt 41 rfl) ?_
            refine ev_if_eq (tgt := 91) (a_dec_at dc_R_breaksIt 42 rfl) (by decide) (fun b22 => ?_) (fun b22 => ?_)
            · have H := H.1 b22
              refine ev_iconst (v := 0) rfl (a_dec_at dc_R_breaksIt 54 rfl) ?_
              exact m_retI (a_dec_at dc_R_breaksIt 55 rfl) rfl rfl H
            · have H := H.2 b22
              refine ev_aload_n (i := 0) rfl rfl (a_dec_at dc_R_breaksIt 43 rfl) ?_
              refine ev_iload_n (i := 2) rfl rfl (a_dec_at dc_R_breaksIt 44 rfl) ?_
              refine ev_iload_n (i := 1) rfl rfl (a_dec_at dc_R_breaksIt 45 rfl) ?_
              refine ev_aload_n (i := 0) rfl rfl (a_dec_at dc_R_breaksIt 46 rfl) ?_
              refine ev_iload_n (i := 2) rfl rfl (a_dec_at dc_R_breaksIt 47 rfl) ?_
              refine ev_iload_n (i := 3) rfl rfl (a_dec_at dc_R_breaksIt 48 rfl) ?_
              refine cV2I cs_R_252 sh119 rfl (Nat.le_of_ble_eq_true rfl) (Nat.le_of_ble_eq_true rfl) (a_dec_at dc_R_breaksIt 49 rfl) ?_
              refine CI.mono (fun x23 mi23 ml23 z23 H => ?_) H
              refine cV3I cs_R_225 sh119 rfl (Nat.le_of_ble_eq_true rfl) (Nat.le_of_ble_eq_true rfl) (a_dec_at dc_R_breaksIt 50 rfl) ?_
              refine CI.mono (fun x24 mi24 ml24 z24 H => ?_) H
              refine ev_if_eq (tgt := 91) (a_dec_at dc_R_breaksIt 51 rfl) (by decide) (fun b25 => ?_) (fun b25 => ?_)
              · have H := H.1 b25
                refine ev_iconst (v := 0) rfl (a_dec_at dc_R_breaksIt 54 rfl) ?_
                exact m_retI (a_dec_at dc_R_breaksIt 55 rfl) rfl rfl H
              · have H := H.2 b25
                refine ev_iconst (v := 1) rfl (a_dec_at dc_R_breaksIt 52 rfl) ?_
                refine ev_goto (tgt := 92) (a_dec_at dc_R_breaksIt 53 rfl) (by decide) ?_
                exact m_retI (a_dec_at dc_R_breaksIt 55 rfl) rfl rfl H
        · have H := H.2 b17
          refine ev_iconst (v := 0) rfl (a_dec_at dc_R_breaksIt 26 rfl) ?_
          exact m_retI (a_dec_at dc_R_breaksIt 27 rfl) rfl rfl H
set_option maxRecDepth 20000 in
theorem t_R_likesMore {l : Launch} {h : Nat} (mi : TMi) (ml : TMl) (z : Nat) (a1 : Int32) (a2 : Int32) (a3 : Int32) {Q : Int32 → TMi → TMl → Nat → Prop} (H : (vp_in ((4 * a1) + a2) 24) ∧ (vp_in ((4 * a1) + a3) 24) ∧ ((0 < ((mi 126 (((4 * a1) + a2).toNatClampNeg)) - (mi 126 (((4 * a1) + a3).toNatClampNeg))) → Q 1 mi ml z) ∧ (¬ 0 < ((mi 126 (((4 * a1) + a2).toNatClampNeg)) - (mi 126 (((4 * a1) + a3).toNatClampNeg))) → ((¬ ((mi 126 (((4 * a1) + a2).toNatClampNeg)) - (mi 126 (((4 * a1) + a3).toNatClampNeg))) = 0 → Q 0 mi ml z) ∧ (((mi 126 (((4 * a1) + a2).toNatClampNeg)) - (mi 126 (((4 * a1) + a3).toNatClampNeg))) = 0 → ((a3 ≤ a2 → Q 0 mi ml z) ∧ (¬ a3 ≤ a2 → Q 1 mi ml z))))))) : CI l (h + 1) m_R_likesMore [.ref 119, .int a1, .int a2, .int a3] mi ml z Q := by
  show Ev l (h + 1) m_R_likesMore 0 ([.ref 119, .int a1, .int a2, .int a3, .retAddr 0], [], st mi ml z) (qI Q)
  refine ev_aload_n (i := 0) rfl rfl (a_dec_at dc_R_likesMore 0 rfl) ?_
  refine m_getR (y := 126) fl_R_36 rfl sh119 (mr_119_17 _) (by decide) (a_dec_at dc_R_likesMore 1 rfl) ?_
  refine ev_iconst (v := 4) rfl (a_dec_at dc_R_likesMore 2 rfl) ?_
  refine ev_iload_n (i := 1) rfl rfl (a_dec_at dc_R_likesMore 3 rfl) ?_
  refine ev_imul (a_dec_at dc_R_likesMore 4 rfl) ?_
  refine ev_iload_n (i := 2) rfl rfl (a_dec_at dc_R_likesMore 5 rfl) ?_
  refine ev_iadd (a_dec_at dc_R_likesMore 6 rfl) ?_
  obtain ⟨c1, H⟩ := H
  refine w_iald (k := ((4 * a1) + a2).toNatClampNeg) sh126 c1 rfl (a_dec_at dc_R_likesMore 7 rfl) ?_
  refine ev_aload_n (i := 0) rfl rfl (a_dec_at dc_R_likesMore 8 rfl) ?_
  refine m_getR (y := 126) fl_R_36 rfl sh119 (mr_119_17 _) (by decide) (a_dec_at dc_R_likesMore 9 rfl) ?_
  refine ev_iconst (v := 4) rfl (a_dec_at dc_R_likesMore 10 rfl) ?_
  refine ev_iload_n (i := 1) rfl rfl (a_dec_at dc_R_likesMore 11 rfl) ?_
  refine ev_imul (a_dec_at dc_R_likesMore 12 rfl) ?_
  refine ev_iload_n (i := 3) rfl rfl (a_dec_at dc_R_likesMore 13 rfl) ?_
  refine ev_iadd (a_dec_at dc_R_likesMore 14 rfl) ?_
  obtain ⟨c2, H⟩ := H
  refine w_iald (k := ((4 * a1) + a3).toNatClampNeg) sh126 c2 rfl (a_dec_at dc_R_likesMore 15 rfl) ?_
  refine ev_isub (a_dec_at dc_R_likesMore 16 rfl) ?_
  refine ev_istore (by decide) rfl (a_dec_at dc_R_likesMore 17 rfl) ?_
  refine ev_iload rfl (a_dec_at dc_R_likesMore 18 rfl) ?_
  refine ev_if_gt (tgt := 38) (a_dec_at dc_R_likesMore 19 rfl) (by decide) (fun b3 => ?_) (fun b3 => ?_)
  · have H := H.1 b3
    refine ev_iconst (v := 1) rfl (a_dec_at dc_R_likesMore 25 rfl) ?_
    refine ev_goto (tgt := 43) (a_dec_at dc_R_likesMore 26 rfl) (by decide) ?_
    exact m_retI (a_dec_at dc_R_likesMore 28 rfl) rfl rfl H
  · have H := H.2 b3
    refine ev_iload rfl (a_dec_at dc_R_likesMore 20 rfl) ?_
    refine ev_if_ne (tgt := 42) (a_dec_at dc_R_likesMore 21 rfl) (by decide) (fun b4 => ?_) (fun b4 => ?_)
    · have H := H.1 b4
      refine ev_iconst (v := 0) rfl (a_dec_at dc_R_likesMore 27 rfl) ?_
      exact m_retI (a_dec_at dc_R_likesMore 28 rfl) rfl rfl H
    · have H := H.2 b4
      refine ev_iload_n (i := 2) rfl rfl (a_dec_at dc_R_likesMore 22 rfl) ?_
      refine ev_iload_n (i := 3) rfl rfl (a_dec_at dc_R_likesMore 23 rfl) ?_
      refine ev_icmp_ge (tgt := 42) (a_dec_at dc_R_likesMore 24 rfl) (by decide) (fun b5 => ?_) (fun b5 => ?_)
      · have H := H.1 b5
        refine ev_iconst (v := 0) rfl (a_dec_at dc_R_likesMore 27 rfl) ?_
        exact m_retI (a_dec_at dc_R_likesMore 28 rfl) rfl rfl H
      · have H := H.2 b5
        refine ev_iconst (v := 1) rfl (a_dec_at dc_R_likesMore 25 rfl) ?_
        refine ev_goto (tgt := 43) (a_dec_at dc_R_likesMore 26 rfl) (by decide) ?_
        exact m_retI (a_dec_at dc_R_likesMore 28 rfl) rfl rfl H
set_option maxRecDepth 20000 in
theorem t_R_becksBy {l : Launch} {h : Nat} (mi : TMi) (ml : TMl) (z : Nat) (a1 : Int32) {Q : Int32 → TMi → TMl → Nat → Prop} (H : Ev l (h + 1) m_R_becksBy 4 ([.ref 119, .int a1, .int 0, .int 0], [], st mi ml z) (qI Q)) : CI l (h + 1) m_R_becksBy [.ref 119, .int a1] mi ml z Q := by
  show Ev l (h + 1) m_R_becksBy 0 ([.ref 119, .int a1, .retAddr 0, .retAddr 0], [], st mi ml z) (qI Q)
  refine ev_iconst (v := 0) rfl (a_dec_at dc_R_becksBy 0 rfl) ?_
  refine ev_istore_n (i := 2) rfl (by decide) rfl (a_dec_at dc_R_becksBy 1 rfl) ?_
  refine ev_iconst (v := 0) rfl (a_dec_at dc_R_becksBy 2 rfl) ?_
  refine ev_istore_n (i := 3) rfl (by decide) rfl (a_dec_at dc_R_becksBy 3 rfl) ?_
  exact Ev.drop (L' := [.ref 119, .int a1, .int 0, .int 0]) (And.intro rfl (And.intro rfl (And.intro rfl (And.intro rfl trivial)))) H
set_option maxRecDepth 20000 in
theorem t_R_becksBy_4 {l : Launch} {h : Nat} (mi : TMi) (ml : TMl) (z : Nat) (v1 : Int32) (v2 : Int32) (v3 : Int32) {Q : Int32 → TMi → TMl → Nat → Prop} (H : (((mi 120 1) ≤ v3 → Q v2 mi ml z) ∧ (¬ (mi 120 1) ≤ v3 → (vp_in v3 6) ∧ ((¬ (mi 129 v3.toNatClampNeg) = v1 → Ev l (h + 1) m_R_becksBy 4 ([.ref 119, .int v1, .int (v2 ||| 0), .int (v3 + 1)], [], st mi ml z) (qI Q)) ∧ ((mi 129 v3.toNatClampNeg) = v1 → Ev l (h + 1) m_R_becksBy 4 ([.ref 119, .int v1, .int (v2 ||| ((1 : Int32) <<< (v3 &&& 31))), .int (v3 + 1)], [], st mi ml z) (qI Q)))))) : Ev l (h + 1) m_R_becksBy 4 ([.ref 119, .int v1, .int v2, .int v3], [], st mi ml z) (qI Q) := by
  refine ev_iload_n (i := 3) rfl rfl (a_dec_at dc_R_becksBy 4 rfl) ?_
  refine ev_aload_n (i := 0) rfl rfl (a_dec_at dc_R_becksBy 5 rfl) ?_
  refine m_getR (y := 120) fl_R_13 rfl sh119 (mr_119_1 _) (by decide) (a_dec_at dc_R_becksBy 6 rfl) ?_
  refine ev_iconst (v := 1) rfl (a_dec_at dc_R_becksBy 7 rfl) ?_
  refine w_iald (k := 1) sh120 (by unfold vp_in; decide) (by decide) (a_dec_at dc_R_becksBy 8 rfl) ?_
  refine ev_icmp_ge (tgt := 40) (a_dec_at dc_R_becksBy 9 rfl) (by decide) (fun b1 => ?_) (fun b1 => ?_)
  · have H := H.1 b1
    refine ev_iload_n (i := 2) rfl rfl (a_dec_at dc_R_becksBy 26 rfl) ?_
    exact m_retI (a_dec_at dc_R_becksBy 27 rfl) rfl rfl H
  · have H := H.2 b1
    refine ev_iload_n (i := 2) rfl rfl (a_dec_at dc_R_becksBy 10 rfl) ?_
    refine ev_aload_n (i := 0) rfl rfl (a_dec_at dc_R_becksBy 11 rfl) ?_
    refine m_getR (y := 129) fl_R_45 rfl sh119 (mr_119_23 _) (by decide) (a_dec_at dc_R_becksBy 12 rfl) ?_
    refine ev_iload_n (i := 3) rfl rfl (a_dec_at dc_R_becksBy 13 rfl) ?_
    obtain ⟨c2, H⟩ := H
    refine w_iald (k := v3.toNatClampNeg) sh129 c2 rfl (a_dec_at dc_R_becksBy 14 rfl) ?_
    refine ev_iload_n (i := 1) rfl rfl (a_dec_at dc_R_becksBy 15 rfl) ?_
    refine ev_icmp_ne (tgt := 31) (a_dec_at dc_R_becksBy 16 rfl) (by decide) (fun b3 => ?_) (fun b3 => ?_)
    · have H := H.1 b3
      refine ev_iconst (v := 0) rfl (a_dec_at dc_R_becksBy 21 rfl) ?_
      refine ev_ior (a_dec_at dc_R_becksBy 22 rfl) ?_
      refine ev_istore_n (i := 2) rfl (by decide) rfl (a_dec_at dc_R_becksBy 23 rfl) ?_
      refine ev_iinc (v := 1) rfl rfl (by decide) rfl (a_dec_at dc_R_becksBy 24 rfl) ?_
      refine ev_goto (tgt := 4) (a_dec_at dc_R_becksBy 25 rfl) (by decide) ?_
      exact Ev.drop (L' := [.ref 119, .int v1, .int (v2 ||| 0), .int (v3 + 1)]) (And.intro rfl (And.intro rfl (And.intro rfl (And.intro rfl trivial)))) H
    · have H := H.2 b3
      refine ev_iconst (v := 1) rfl (a_dec_at dc_R_becksBy 17 rfl) ?_
      refine ev_iload_n (i := 3) rfl rfl (a_dec_at dc_R_becksBy 18 rfl) ?_
      refine ev_ishl (a_dec_at dc_R_becksBy 19 rfl) ?_
      refine ev_goto (tgt := 32) (a_dec_at dc_R_becksBy 20 rfl) (by decide) ?_
      refine ev_ior (a_dec_at dc_R_becksBy 22 rfl) ?_
      refine ev_istore_n (i := 2) rfl (by decide) rfl (a_dec_at dc_R_becksBy 23 rfl) ?_
      refine ev_iinc (v := 1) rfl rfl (by decide) rfl (a_dec_at dc_R_becksBy 24 rfl) ?_
      refine ev_goto (tgt := 4) (a_dec_at dc_R_becksBy 25 rfl) (by decide) ?_
      exact Ev.drop (L' := [.ref 119, .int v1, .int (v2 ||| ((1 : Int32) <<< (v3 &&& 31))), .int (v3 + 1)]) (And.intro rfl (And.intro rfl (And.intro rfl (And.intro rfl trivial)))) H
set_option maxRecDepth 20000 in
theorem t_R_breaks {l : Launch} {h : Nat} (mi : TMi) (ml : TMl) (z : Nat) {Q : Int32 → TMi → TMl → Nat → Prop} (H : CV l h m_R_laysNow [.ref 119] (up mi 119 0 0) ml z (fun mi1 ml1 z1 => Ev l (h + 1) m_R_breaks 13 ([.ref 119, .int 0, .int 0, .retAddr 0], [], st mi1 ml1 z1) (qI Q))) : CI l (h + 1) m_R_breaks [.ref 119] mi ml z Q := by
  show Ev l (h + 1) m_R_breaks 0 ([.ref 119, .retAddr 0, .retAddr 0, .retAddr 0], [], st mi ml z) (qI Q)
  refine ev_aload_n (i := 0) rfl rfl (a_dec_at dc_R_breaks 0 rfl) ?_
  refine ev_iconst (v := 0) rfl (a_dec_at dc_R_breaks 1 rfl) ?_
  refine m_putI fl_R_1 rfl (fun _ _ _ h => by cases h; exact Or.inl rfl) sh119 (a_dec_at dc_R_breaks 2 rfl) ?_
  refine ev_aload_n (i := 0) rfl rfl (a_dec_at dc_R_breaks 3 rfl) ?_
  refine cV0V cs_R_359 sh119 rfl (Nat.le_of_ble_eq_true rfl) (Nat.le_of_ble_eq_true rfl) (a_dec_at dc_R_breaks 4 rfl) ?_
  refine CV.mono (fun mi1 ml1 z1 H => ?_) H
  refine ev_iconst (v := 0) rfl (a_dec_at dc_R_breaks 5 rfl) ?_
  refine ev_istore_n (i := 1) rfl (by decide) rfl (a_dec_at dc_R_breaks 6 rfl) ?_
  refine ev_iconst (v := 0) rfl (a_dec_at dc_R_breaks 7 rfl) ?_
  refine ev_istore_n (i := 2) rfl (by decide) rfl (a_dec_at dc_R_breaks 8 rfl) ?_
  exact Ev.drop (L' := [.ref 119, .int 0, .int 0, .retAddr 0]) (And.intro rfl (And.intro rfl (And.intro rfl trivial))) H
set_option maxRecDepth 20000 in
theorem t_R_breaks_13 {l : Launch} {h : Nat} (mi : TMi) (ml : TMl) (z : Nat) (v1 : Int32) (v2 : Int32) {Q : Int32 → TMi → TMl → Nat → Prop} (H : (((mi 120 1) ≤ v2 → Q v1 mi ml z) ∧ (¬ (mi 120 1) ≤ v2 → Ev l (h + 1) m_R_breaks 25 ([.ref 119, .int v1, .int v2, .int 0], [], st mi ml z) (qI Q)))) : Ev l (h + 1) m_R_breaks 13 ([.ref 119, .int v1, .int v2, .retAddr 0], [], st mi ml z) (qI Q) := by
  refine ev_iload_n (i := 2) rfl rfl (a_dec_at dc_R_breaks 9 rfl) ?_
  refine ev_aload_n (i := 0) rfl rfl (a_dec_at dc_R_breaks 10 rfl) ?_
  refine m_getR (y := 120) fl_R_13 rfl sh119 (mr_119_1 _) (by decide) (a_dec_at dc_R_breaks 11 rfl) ?_
  refine ev_iconst (v := 1) rfl (a_dec_at dc_R_breaks 12 rfl) ?_
  refine w_iald (k := 1) sh120 (by unfold vp_in; decide) (by decide) (a_dec_at dc_R_breaks 13 rfl) ?_
  refine ev_icmp_ge (tgt := 64) (a_dec_at dc_R_breaks 14 rfl) (by decide) (fun b1 => ?_) (fun b1 => ?_)
  · have H := H.1 b1
    refine ev_iload_n (i := 1) rfl rfl (a_dec_at dc_R_breaks 38 rfl) ?_
    exact m_retI (a_dec_at dc_R_breaks 39 rfl) rfl rfl H
  · have H := H.2 b1
    refine ev_iconst (v := 0) rfl (a_dec_at dc_R_breaks 15 rfl) ?_
    refine ev_istore_n (i := 3) rfl (by decide) rfl (a_dec_at dc_R_breaks 16 rfl) ?_
    exact Ev.drop (L' := [.ref 119, .int v1, .int v2, .int 0]) (And.intro rfl (And.intro rfl (And.intro rfl (And.intro rfl trivial)))) H
set_option maxRecDepth 20000 in
theorem t_R_breaks_25 {l : Launch} {h : Nat} (mi : TMi) (ml : TMl) (z : Nat) (v1 : Int32) (v2 : Int32) (v3 : Int32) {Q : Int32 → TMi → TMl → Nat → Prop} (H : (((mi 120 2) ≤ v3 → Ev l (h + 1) m_R_breaks 13 ([.ref 119, .int v1, .int (v2 + 1), .retAddr 0], [], st mi ml z) (qI Q)) ∧ (¬ (mi 120 2) ≤ v3 → CI l h m_R_breaksIt [.ref 119, .int v2, .int v3] mi ml z (fun x2 mi2 ml2 z2 => ((x2 = 0 → Ev l (h + 1) m_R_breaks 25 ([.ref 119, .int (v1 + 0), .int v2, .int (v3 + 1)], [], st mi2 ml2 z2) (qI Q)) ∧ (¬ x2 = 0 → Ev l (h + 1) m_R_breaks 25 ([.ref 119, .int (v1 + 1), .int v2, .int (v3 + 1)], [], st mi2 ml2 z2) (qI Q))))))) : Ev l (h + 1) m_R_breaks 25 ([.ref 119, .int v1, .int v2, .int v3], [], st mi ml z) (qI Q) := by
  refine ev_iload_n (i := 3) rfl rfl (a_dec_at dc_R_breaks 17 rfl) ?_
  refine ev_aload_n (i := 0) rfl rfl (a_dec_at dc_R_breaks 18 rfl) ?_
  refine m_getR (y := 120) fl_R_13 rfl sh119 (mr_119_1 _) (by decide) (a_dec_at dc_R_breaks 19 rfl) ?_
  refine ev_iconst (v := 2) rfl (a_dec_at dc_R_breaks 20 rfl) ?_
  refine w_iald (k := 2) sh120 (by unfold vp_in; decide) (by decide) (a_dec_at dc_R_breaks 21 rfl) ?_
  refine ev_icmp_ge (tgt := 58) (a_dec_at dc_R_breaks 22 rfl) (by decide) (fun b1 => ?_) (fun b1 => ?_)
  · have H := H.1 b1
    refine ev_iinc (v := 1) rfl rfl (by decide) rfl (a_dec_at dc_R_breaks 36 rfl) ?_
    refine ev_goto (tgt := 13) (a_dec_at dc_R_breaks 37 rfl) (by decide) ?_
    exact Ev.drop (L' := [.ref 119, .int v1, .int (v2 + 1), .retAddr 0]) (And.intro rfl (And.intro rfl (And.intro rfl trivial))) H
  · have H := H.2 b1
    refine ev_iload_n (i := 1) rfl rfl (a_dec_at dc_R_breaks 23 rfl) ?_
    refine ev_aload_n (i := 0) rfl rfl (a_dec_at dc_R_breaks 24 rfl) ?_
    refine ev_iload_n (i := 2) rfl rfl (a_dec_at dc_R_breaks 25 rfl) ?_
    refine ev_iload_n (i := 3) rfl rfl (a_dec_at dc_R_breaks 26 rfl) ?_
    refine cV2I cs_R_356 sh119 rfl (Nat.le_of_ble_eq_true rfl) (Nat.le_of_ble_eq_true rfl) (a_dec_at dc_R_breaks 27 rfl) ?_
    refine CI.mono (fun x2 mi2 ml2 z2 H => ?_) H
    refine ev_if_eq (tgt := 49) (a_dec_at dc_R_breaks 28 rfl) (by decide) (fun b3 => ?_) (fun b3 => ?_)
    · have H := H.1 b3
      refine ev_iconst (v := 0) rfl (a_dec_at dc_R_breaks 31 rfl) ?_
      refine ev_iadd (a_dec_at dc_R_breaks 32 rfl) ?_
      refine ev_istore_n (i := 1) rfl (by decide) rfl (a_dec_at dc_R_breaks 33 rfl) ?_
      refine ev_iinc (v := 1) rfl rfl (by decide) rfl (a_dec_at dc_R_breaks 34 rfl) ?_
      refine ev_goto (tgt := 25) (a_dec_at dc_R_breaks 35 rfl) (by decide) ?_
      exact Ev.drop (L' := [.ref 119, .int (v1 + 0), .int v2, .int (v3 + 1)]) (And.intro rfl (And.intro rfl (And.intro rfl (And.intro rfl trivial)))) H
    · have H := H.2 b3
      refine ev_iconst (v := 1) rfl (a_dec_at dc_R_breaks 29 rfl) ?_
      refine ev_goto (tgt := 50) (a_dec_at dc_R_breaks 30 rfl) (by decide) ?_
      refine ev_iadd (a_dec_at dc_R_breaks 32 rfl) ?_
      refine ev_istore_n (i := 1) rfl (by decide) rfl (a_dec_at dc_R_breaks 33 rfl) ?_
      refine ev_iinc (v := 1) rfl rfl (by decide) rfl (a_dec_at dc_R_breaks 34 rfl) ?_
      refine ev_goto (tgt := 25) (a_dec_at dc_R_breaks 35 rfl) (by decide) ?_
      exact Ev.drop (L' := [.ref 119, .int (v1 + 1), .int v2, .int (v3 + 1)]) (And.intro rfl (And.intro rfl (And.intro rfl (And.intro rfl trivial)))) H
set_option maxRecDepth 20000 in
theorem t_R_breaking {l : Launch} {h : Nat} (mi : TMi) (ml : TMl) (z : Nat) {Q : Int32 → TMi → TMl → Nat → Prop} (H : CV l h m_R_laysNow [.ref 119] (up mi 119 0 0) ml z (fun mi1 ml1 z1 => Ev l (h + 1) m_R_breaking 11 ([.ref 119, .int 0, .retAddr 0], [], st mi1 ml1 z1) (qI Q))) : CI l (h + 1) m_R_breaking [.ref 119] mi ml z Q := by
  show Ev l (h + 1) m_R_breaking 0 ([.ref 119, .retAddr 0, .retAddr 0], [], st mi ml z) (qI Q)
  refine ev_aload_n (i := 0) rfl rfl (a_dec_at dc_R_breaking 0 rfl) ?_
  refine ev_iconst (v := 0) rfl (a_dec_at dc_R_breaking 1 rfl) ?_
  refine m_putI fl_R_1 rfl (fun _ _ _ h => by cases h; exact Or.inl rfl) sh119 (a_dec_at dc_R_breaking 2 rfl) ?_
  refine ev_aload_n (i := 0) rfl rfl (a_dec_at dc_R_breaking 3 rfl) ?_
  refine cV0V cs_R_359 sh119 rfl (Nat.le_of_ble_eq_true rfl) (Nat.le_of_ble_eq_true rfl) (a_dec_at dc_R_breaking 4 rfl) ?_
  refine CV.mono (fun mi1 ml1 z1 H => ?_) H
  refine ev_iconst (v := 0) rfl (a_dec_at dc_R_breaking 5 rfl) ?_
  refine ev_istore_n (i := 1) rfl (by decide) rfl (a_dec_at dc_R_breaking 6 rfl) ?_
  exact Ev.drop (L' := [.ref 119, .int 0, .retAddr 0]) (And.intro rfl (And.intro rfl trivial)) H
set_option maxRecDepth 20000 in
theorem t_R_breaking_11 {l : Launch} {h : Nat} (mi : TMi) (ml : TMl) (z : Nat) (v1 : Int32) {Q : Int32 → TMi → TMl → Nat → Prop} (H : (((mi 120 1) ≤ v1 → Q (-1) mi ml z) ∧ (¬ (mi 120 1) ≤ v1 → Ev l (h + 1) m_R_breaking 23 ([.ref 119, .int v1, .int 0], [], st mi ml z) (qI Q)))) : Ev l (h + 1) m_R_breaking 11 ([.ref 119, .int v1, .retAddr 0], [], st mi ml z) (qI Q) := by
  refine ev_iload_n (i := 1) rfl rfl (a_dec_at dc_R_breaking 7 rfl) ?_
  refine ev_aload_n (i := 0) rfl rfl (a_dec_at dc_R_breaking 8 rfl) ?_
  refine m_getR (y := 120) fl_R_13 rfl sh119 (mr_119_1 _) (by decide) (a_dec_at dc_R_breaking 9 rfl) ?_
  refine ev_iconst (v := 1) rfl (a_dec_at dc_R_breaking 10 rfl) ?_
  refine w_iald (k := 1) sh120 (by unfold vp_in; decide) (by decide) (a_dec_at dc_R_breaking 11 rfl) ?_
  refine ev_icmp_ge (tgt := 61) (a_dec_at dc_R_breaking 12 rfl) (by decide) (fun b1 => ?_) (fun b1 => ?_)
  · have H := H.1 b1
    refine ev_iconst (v := (-1)) rfl (a_dec_at dc_R_breaking 36 rfl) ?_
    exact m_retI (a_dec_at dc_R_breaking 37 rfl) rfl rfl H
  · have H := H.2 b1
    refine ev_iconst (v := 0) rfl (a_dec_at dc_R_breaking 13 rfl) ?_
    refine ev_istore_n (i := 2) rfl (by decide) rfl (a_dec_at dc_R_breaking 14 rfl) ?_
    exact Ev.drop (L' := [.ref 119, .int v1, .int 0]) (And.intro rfl (And.intro rfl (And.intro rfl trivial))) H
set_option maxRecDepth 20000 in
theorem t_R_breaking_23 {l : Launch} {h : Nat} (mi : TMi) (ml : TMl) (z : Nat) (v1 : Int32) (v2 : Int32) {Q : Int32 → TMi → TMl → Nat → Prop} (H : (((mi 120 2) ≤ v2 → Ev l (h + 1) m_R_breaking 11 ([.ref 119, .int (v1 + 1), .retAddr 0], [], st mi ml z) (qI Q)) ∧ (¬ (mi 120 2) ≤ v2 → CI l h m_R_breaksIt [.ref 119, .int v1, .int v2] mi ml z (fun x2 mi2 ml2 z2 => ((x2 = 0 → Ev l (h + 1) m_R_breaking 23 ([.ref 119, .int v1, .int (v2 + 1)], [], st mi2 ml2 z2) (qI Q)) ∧ (¬ x2 = 0 → Q ((10 * v1) + v2) mi2 ml2 z2)))))) : Ev l (h + 1) m_R_breaking 23 ([.ref 119, .int v1, .int v2], [], st mi ml z) (qI Q) := by
  refine ev_iload_n (i := 2) rfl rfl (a_dec_at dc_R_breaking 15 rfl) ?_
  refine ev_aload_n (i := 0) rfl rfl (a_dec_at dc_R_breaking 16 rfl) ?_
  refine m_getR (y := 120) fl_R_13 rfl sh119 (mr_119_1 _) (by decide) (a_dec_at dc_R_breaking 17 rfl) ?_
  refine ev_iconst (v := 2) rfl (a_dec_at dc_R_breaking 18 rfl) ?_
  refine w_iald (k := 2) sh120 (by unfold vp_in; decide) (by decide) (a_dec_at dc_R_breaking 19 rfl) ?_
  refine ev_icmp_ge (tgt := 55) (a_dec_at dc_R_breaking 20 rfl) (by decide) (fun b1 => ?_) (fun b1 => ?_)
  · have H := H.1 b1
    refine ev_iinc (v := 1) rfl rfl (by decide) rfl (a_dec_at dc_R_breaking 34 rfl) ?_
    refine ev_goto (tgt := 11) (a_dec_at dc_R_breaking 35 rfl) (by decide) ?_
    exact Ev.drop (L' := [.ref 119, .int (v1 + 1), .retAddr 0]) (And.intro rfl (And.intro rfl trivial)) H
  · have H := H.2 b1
    refine ev_aload_n (i := 0) rfl rfl (a_dec_at dc_R_breaking 21 rfl) ?_
    refine ev_iload_n (i := 1) rfl rfl (a_dec_at dc_R_breaking 22 rfl) ?_
    refine ev_iload_n (i := 2) rfl rfl (a_dec_at dc_R_breaking 23 rfl) ?_
    refine cV2I cs_R_356 sh119 rfl (Nat.le_of_ble_eq_true rfl) (Nat.le_of_ble_eq_true rfl) (a_dec_at dc_R_breaking 24 rfl) ?_
    refine CI.mono (fun x2 mi2 ml2 z2 H => ?_) H
    refine ev_if_eq (tgt := 49) (a_dec_at dc_R_breaking 25 rfl) (by decide) (fun b3 => ?_) (fun b3 => ?_)
    · have H := H.1 b3
      refine ev_iinc (v := 1) rfl rfl (by decide) rfl (a_dec_at dc_R_breaking 32 rfl) ?_
      refine ev_goto (tgt := 23) (a_dec_at dc_R_breaking 33 rfl) (by decide) ?_
      exact Ev.drop (L' := [.ref 119, .int v1, .int (v2 + 1)]) (And.intro rfl (And.intro rfl (And.intro rfl trivial))) H
    · have H := H.2 b3
      refine ev_bipush (v := 10) rfl (a_dec_at dc_R_breaking 26 rfl) ?_
      refine ev_iload_n (i := 1) rfl rfl (a_dec_at dc_R_breaking 27 rfl) ?_
      refine ev_imul (a_dec_at dc_R_breaking 28 rfl) ?_
      refine ev_iload_n (i := 2) rfl rfl (a_dec_at dc_R_breaking 29 rfl) ?_
      refine ev_iadd (a_dec_at dc_R_breaking 30 rfl) ?_
      exact m_retI (a_dec_at dc_R_breaking 31 rfl) rfl rfl H
set_option maxRecDepth 20000 in
theorem t_R_forBecks {l : Launch} {h : Nat} (mi : TMi) (ml : TMl) (z : Nat) (a1 : Int32) {Q : Int32 → TMi → TMl → Nat → Prop} (H : CI l h m_R_isBeck [.ref 119, .long a1.toInt64] (up mi 119 0 0) ml z (fun x1 mi1 ml1 z1 => ((¬ x1 = 0 → CV l h m_R_laysHeld [.ref 119] mi1 ml1 z1 (fun mi3 ml3 z3 => CI l h m_R_ofHeld [.ref 119, .int a1, .int 1] mi3 ml3 z3 (fun x4 mi4 ml4 z4 => Q x4 mi4 ml4 z4))) ∧ (x1 = 0 → Q (-2) mi1 ml1 z1)))) : CI l (h + 1) m_R_forBecks [.ref 119, .int a1] mi ml z Q := by
  show Ev l (h + 1) m_R_forBecks 0 ([.ref 119, .int a1], [], st mi ml z) (qI Q)
  refine ev_aload_n (i := 0) rfl rfl (a_dec_at dc_R_forBecks 0 rfl) ?_
  refine ev_iconst (v := 0) rfl (a_dec_at dc_R_forBecks 1 rfl) ?_
  refine m_putI fl_R_1 rfl (fun _ _ _ h => by cases h; exact Or.inl rfl) sh119 (a_dec_at dc_R_forBecks 2 rfl) ?_
  refine ev_aload_n (i := 0) rfl rfl (a_dec_at dc_R_forBecks 3 rfl) ?_
  refine ev_iload_n (i := 1) rfl rfl (a_dec_at dc_R_forBecks 4 rfl) ?_
  refine ev_i2l (a_dec_at dc_R_forBecks 5 rfl) ?_
  refine cV1I cs_R_233 sh119 rfl (Nat.le_of_ble_eq_true rfl) (Nat.le_of_ble_eq_true rfl) (a_dec_at dc_R_forBecks 6 rfl) ?_
  refine CI.mono (fun x1 mi1 ml1 z1 H => ?_) H
  refine ev_if_ne (tgt := 17) (a_dec_at dc_R_forBecks 7 rfl) (by decide) (fun b2 => ?_) (fun b2 => ?_)
  · have H := H.1 b2
    refine ev_aload_n (i := 0) rfl rfl (a_dec_at dc_R_forBecks 10 rfl) ?_
    refine cV0V cs_R_380 sh119 rfl (Nat.le_of_ble_eq_true rfl) (Nat.le_of_ble_eq_true rfl) (a_dec_at dc_R_forBecks 11 rfl) ?_
    refine CV.mono (fun mi3 ml3 z3 H => ?_) H
    refine ev_aload_n (i := 0) rfl rfl (a_dec_at dc_R_forBecks 12 rfl) ?_
    refine ev_iload_n (i := 1) rfl rfl (a_dec_at dc_R_forBecks 13 rfl) ?_
    refine ev_iconst (v := 1) rfl (a_dec_at dc_R_forBecks 14 rfl) ?_
    refine cV2I cs_R_383 sh119 rfl (Nat.le_of_ble_eq_true rfl) (Nat.le_of_ble_eq_true rfl) (a_dec_at dc_R_forBecks 15 rfl) ?_
    refine CI.mono (fun x4 mi4 ml4 z4 H => ?_) H
    exact m_retI (a_dec_at dc_R_forBecks 16 rfl) rfl rfl H
  · have H := H.2 b2
    refine ev_bipush (v := (-2)) rfl (a_dec_at dc_R_forBecks 8 rfl) ?_
    exact m_retI (a_dec_at dc_R_forBecks 9 rfl) rfl rfl H
set_option maxRecDepth 20000 in
theorem t_R_laysHeld {l : Launch} {h : Nat} (mi : TMi) (ml : TMl) (z : Nat) {Q : TMi → TMl → Nat → Prop} (H : CV l h m_R_laysLikes [.ref 119] mi ml z (fun mi1 ml1 z1 => Ev l (h + 1) m_R_laysHeld 11 ([.ref 119, .int 0], [], st (up mi1 119 25 0) ml1 z1) (qV Q))) : CV l (h + 1) m_R_laysHeld [.ref 119] mi ml z Q := by
  show Ev l (h + 1) m_R_laysHeld 0 ([.ref 119, .retAddr 0], [], st mi ml z) (qV Q)
  refine ev_aload_n (i := 0) rfl rfl (a_dec_at dc_R_laysHeld 0 rfl) ?_
  refine cV0V cs_R_237 sh119 rfl (Nat.le_of_ble_eq_true rfl) (Nat.le_of_ble_eq_true rfl) (a_dec_at dc_R_laysHeld 1 rfl) ?_
  refine CV.mono (fun mi1 ml1 z1 H => ?_) H
  refine ev_aload_n (i := 0) rfl rfl (a_dec_at dc_R_laysHeld 2 rfl) ?_
  refine ev_iconst (v := 0) rfl (a_dec_at dc_R_laysHeld 3 rfl) ?_
  refine m_putI fl_R_365 rfl (fun _ _ _ h => by cases h; exact Or.inl rfl) sh119 (a_dec_at dc_R_laysHeld 4 rfl) ?_
  refine ev_iconst (v := 0) rfl (a_dec_at dc_R_laysHeld 5 rfl) ?_
  refine ev_istore_n (i := 1) rfl (by decide) rfl (a_dec_at dc_R_laysHeld 6 rfl) ?_
  exact Ev.drop (L' := [.ref 119, .int 0]) (And.intro rfl (And.intro rfl trivial)) H
set_option maxRecDepth 20000 in
theorem t_R_laysHeld_11 {l : Launch} {h : Nat} (mi : TMi) (ml : TMl) (z : Nat) (v1 : Int32) {Q : TMi → TMl → Nat → Prop} (H : CI l h m_R_choicesIn [.ref 119] mi ml z (fun x1 mi1 ml1 z1 => ((x1 ≤ v1 → Q mi1 ml1 z1) ∧ (¬ x1 ≤ v1 → CI l h m_R_laysChoice [.ref 119, .int v1] mi1 ml1 z1 (fun x3 mi3 ml3 z3 => ((x3 = 0 → Ev l (h + 1) m_R_laysHeld 11 ([.ref 119, .int (v1 + 1)], [], st mi3 ml3 z3) (qV Q)) ∧ (¬ x3 = 0 → CI l h m_R_isWanted [.ref 119] mi3 ml3 z3 (fun x5 mi5 ml5 z5 => ((x5 = 0 → Ev l (h + 1) m_R_laysHeld 11 ([.ref 119, .int (v1 + 1)], [], st mi5 ml5 z5) (qV Q)) ∧ (¬ x5 = 0 → CI l h m_R_fitsRooms [.ref 119] mi5 ml5 z5 (fun x7 mi7 ml7 z7 => ((x7 = 0 → Ev l (h + 1) m_R_laysHeld 11 ([.ref 119, .int (v1 + 1)], [], st mi7 ml7 z7) (qV Q)) ∧ (¬ x7 = 0 → CI l h m_R_isHeld [.ref 119] mi7 ml7 z7 (fun x9 mi9 ml9 z9 => ((¬ x9 = 0 → (vp_in (mi9 119 25) 15625) ∧ Ev l (h + 1) m_R_laysHeld 11 ([.ref 119, .int (v1 + 1)], [], st (up (up mi9 130 ((mi9 119 25).toNatClampNeg) v1) 119 25 (((up mi9 130 ((mi9 119 25).toNatClampNeg) v1) 119 25) + 1)) ml9 z9) (qV Q)) ∧ (x9 = 0 → Ev l (h + 1) m_R_laysHeld 11 ([.ref 119, .int (v1 + 1)], [], st mi9 ml9 z9) (qV Q))))))))))))))))) : Ev l (h + 1) m_R_laysHeld 11 ([.ref 119, .int v1], [], st mi ml z) (qV Q) := by
  refine ev_iload_n (i := 1) rfl rfl (a_dec_at dc_R_laysHeld 7 rfl) ?_
  refine ev_aload_n (i := 0) rfl rfl (a_dec_at dc_R_laysHeld 8 rfl) ?_
  refine cV0I cs_R_368 sh119 rfl (Nat.le_of_ble_eq_true rfl) (Nat.le_of_ble_eq_true rfl) (a_dec_at dc_R_laysHeld 9 rfl) ?_
  refine CI.mono (fun x1 mi1 ml1 z1 H => ?_) H
  refine ev_icmp_ge (tgt := 77) (a_dec_at dc_R_laysHeld 10 rfl) (by decide) (fun b2 => ?_) (fun b2 => ?_)
  · have H := H.1 b2
    exact m_retV (a_dec_at dc_R_laysHeld 39 rfl) rfl H
  · have H := H.2 b2
    refine ev_aload_n (i := 0) rfl rfl (a_dec_at dc_R_laysHeld 11 rfl) ?_
    refine ev_iload_n (i := 1) rfl rfl (a_dec_at dc_R_laysHeld 12 rfl) ?_
    refine cV1I cs_R_371 sh119 rfl (Nat.le_of_ble_eq_true rfl) (Nat.le_of_ble_eq_true rfl) (a_dec_at dc_R_laysHeld 13 rfl) ?_
    refine CI.mono (fun x3 mi3 ml3 z3 H => ?_) H
    refine ev_if_eq (tgt := 71) (a_dec_at dc_R_laysHeld 14 rfl) (by decide) (fun b4 => ?_) (fun b4 => ?_)
    · have H := H.1 b4
      refine ev_iinc (v := 1) rfl rfl (by decide) rfl (a_dec_at dc_R_laysHeld 37 rfl) ?_
      refine ev_goto (tgt := 11) (a_dec_at dc_R_laysHeld 38 rfl) (by decide) ?_
      exact Ev.drop (L' := [.ref 119, .int (v1 + 1)]) (And.intro rfl (And.intro rfl trivial)) H
    · have H := H.2 b4
      refine ev_aload_n (i := 0) rfl rfl (a_dec_at dc_R_laysHeld 15 rfl) ?_
      refine cV0I cs_R_352 sh119 rfl (Nat.le_of_ble_eq_true rfl) (Nat.le_of_ble_eq_true rfl) (a_dec_at dc_R_laysHeld 16 rfl) ?_
      refine CI.mono (fun x5 mi5 ml5 z5 H => ?_) H
      refine ev_if_eq (tgt := 71) (a_dec_at dc_R_laysHeld 17 rfl) (by decide) (fun b6 => ?_) (fun b6 => ?_)
      · have H := H.1 b6
        refine ev_iinc (v := 1) rfl rfl (by decide) rfl (a_dec_at dc_R_laysHeld 37 rfl) ?_
        refine ev_goto (tgt := 11) (a_dec_at dc_R_laysHeld 38 rfl) (by decide) ?_
        exact Ev.drop (L' := [.ref 119, .int (v1 + 1)]) (And.intro rfl (And.intro rfl trivial)) H
      · have H := H.2 b6
        refine ev_aload_n (i := 0) rfl rfl (a_dec_at dc_R_laysHeld 18 rfl) ?_
        refine cV0I cs_R_374 sh119 rfl (Nat.le_of_ble_eq_true rfl) (Nat.le_of_ble_eq_true rfl) (a_dec_at dc_R_laysHeld 19 rfl) ?_
        refine CI.mono (fun x7 mi7 ml7 z7 H => ?_) H
        refine ev_if_eq (tgt := 71) (a_dec_at dc_R_laysHeld 20 rfl) (by decide) (fun b8 => ?_) (fun b8 => ?_)
        · have H := H.1 b8
          refine ev_iinc (v := 1) rfl rfl (by decide) rfl (a_dec_at dc_R_laysHeld 37 rfl) ?_
          refine ev_goto (tgt := 11) (a_dec_at dc_R_laysHeld 38 rfl) (by decide) ?_
          exact Ev.drop (L' := [.ref 119, .int (v1 + 1)]) (And.intro rfl (And.intro rfl trivial)) H
        · have H := H.2 b8
          refine ev_aload_n (i := 0) rfl rfl (a_dec_at dc_R_laysHeld 21 rfl) ?_
          refine cV0I cs_R_362 sh119 rfl (Nat.le_of_ble_eq_true rfl) (Nat.le_of_ble_eq_true rfl) (a_dec_at dc_R_laysHeld 22 rfl) ?_
          refine CI.mono (fun x9 mi9 ml9 z9 H => ?_) H
          refine ev_if_ne (tgt := 51) (a_dec_at dc_R_laysHeld 23 rfl) (by decide) (fun b10 => ?_) (fun b10 => ?_)
          · have H := H.1 b10
            refine ev_aload_n (i := 0) rfl rfl (a_dec_at dc_R_laysHeld 25 rfl) ?_
            refine m_getR (y := 130) fl_R_48 rfl sh119 (mr_119_24 _) (by decide) (a_dec_at dc_R_laysHeld 26 rfl) ?_
            refine ev_aload_n (i := 0) rfl rfl (a_dec_at dc_R_laysHeld 27 rfl) ?_
            refine m_getI fl_R_365 rfl sh119 (a_dec_at dc_R_laysHeld 28 rfl) ?_
            refine ev_iload_n (i := 1) rfl rfl (a_dec_at dc_R_laysHeld 29 rfl) ?_
            obtain ⟨c11, H⟩ := H
            refine w_iast (k := (mi9 119 25).toNatClampNeg) sh130 c11 rfl (a_dec_at dc_R_laysHeld 30 rfl) ?_
            refine ev_aload_n (i := 0) rfl rfl (a_dec_at dc_R_laysHeld 31 rfl) ?_
            refine ev_dup rfl (a_dec_at dc_R_laysHeld 32 rfl) ?_
            refine m_getI fl_R_365 rfl sh119 (a_dec_at dc_R_laysHeld 33 rfl) ?_
            refine ev_iconst (v := 1) rfl (a_dec_at dc_R_laysHeld 34 rfl) ?_
            refine ev_iadd (a_dec_at dc_R_laysHeld 35 rfl) ?_
            refine m_putI fl_R_365 rfl (fun _ _ _ h => by cases h; exact Or.inl rfl) sh119 (a_dec_at dc_R_laysHeld 36 rfl) ?_
            refine ev_iinc (v := 1) rfl rfl (by decide) rfl (a_dec_at dc_R_laysHeld 37 rfl) ?_
            refine ev_goto (tgt := 11) (a_dec_at dc_R_laysHeld 38 rfl) (by decide) ?_
            exact Ev.drop (L' := [.ref 119, .int (v1 + 1)]) (And.intro rfl (And.intro rfl trivial)) H
          · have H := H.2 b10
            refine ev_goto (tgt := 71) (a_dec_at dc_R_laysHeld 24 rfl) (by decide) ?_
            refine ev_iinc (v := 1) rfl rfl (by decide) rfl (a_dec_at dc_R_laysHeld 37 rfl) ?_
            refine ev_goto (tgt := 11) (a_dec_at dc_R_laysHeld 38 rfl) (by decide) ?_
            exact Ev.drop (L' := [.ref 119, .int (v1 + 1)]) (And.intro rfl (And.intro rfl trivial)) H
set_option maxRecDepth 20000 in
theorem t_R_choicesIn {l : Launch} {h : Nat} (mi : TMi) (ml : TMl) (z : Nat) {Q : Int32 → TMi → TMl → Nat → Prop} (H : Ev l (h + 1) m_R_choicesIn 4 ([.ref 119, .int 1, .int 0], [], st mi ml z) (qI Q)) : CI l (h + 1) m_R_choicesIn [.ref 119] mi ml z Q := by
  show Ev l (h + 1) m_R_choicesIn 0 ([.ref 119, .retAddr 0, .retAddr 0], [], st mi ml z) (qI Q)
  refine ev_iconst (v := 1) rfl (a_dec_at dc_R_choicesIn 0 rfl) ?_
  refine ev_istore_n (i := 1) rfl (by decide) rfl (a_dec_at dc_R_choicesIn 1 rfl) ?_
  refine ev_iconst (v := 0) rfl (a_dec_at dc_R_choicesIn 2 rfl) ?_
  refine ev_istore_n (i := 2) rfl (by decide) rfl (a_dec_at dc_R_choicesIn 3 rfl) ?_
  exact Ev.drop (L' := [.ref 119, .int 1, .int 0]) (And.intro rfl (And.intro rfl (And.intro rfl trivial))) H
set_option maxRecDepth 20000 in
theorem t_R_choicesIn_4 {l : Launch} {h : Nat} (mi : TMi) (ml : TMl) (z : Nat) (v1 : Int32) (v2 : Int32) {Q : Int32 → TMi → TMl → Nat → Prop} (H : (((mi 120 1) ≤ v2 → Q v1 mi ml z) ∧ (¬ (mi 120 1) ≤ v2 → Ev l (h + 1) m_R_choicesIn 4 ([.ref 119, .int (v1 * 5), .int (v2 + 1)], [], st mi ml z) (qI Q)))) : Ev l (h + 1) m_R_choicesIn 4 ([.ref 119, .int v1, .int v2], [], st mi ml z) (qI Q) := by
  refine ev_iload_n (i := 2) rfl rfl (a_dec_at dc_R_choicesIn 4 rfl) ?_
  refine ev_aload_n (i := 0) rfl rfl (a_dec_at dc_R_choicesIn 5 rfl) ?_
  refine m_getR (y := 120) fl_R_13 rfl sh119 (mr_119_1 _) (by decide) (a_dec_at dc_R_choicesIn 6 rfl) ?_
  refine ev_iconst (v := 1) rfl (a_dec_at dc_R_choicesIn 7 rfl) ?_
  refine w_iald (k := 1) sh120 (by unfold vp_in; decide) (by decide) (a_dec_at dc_R_choicesIn 8 rfl) ?_
  refine ev_icmp_ge (tgt := 24) (a_dec_at dc_R_choicesIn 9 rfl) (by decide) (fun b1 => ?_) (fun b1 => ?_)
  · have H := H.1 b1
    refine ev_iload_n (i := 1) rfl rfl (a_dec_at dc_R_choicesIn 16 rfl) ?_
    exact m_retI (a_dec_at dc_R_choicesIn 17 rfl) rfl rfl H
  · have H := H.2 b1
    refine ev_iload_n (i := 1) rfl rfl (a_dec_at dc_R_choicesIn 10 rfl) ?_
    refine ev_iconst (v := 5) rfl (a_dec_at dc_R_choicesIn 11 rfl) ?_
    refine ev_imul (a_dec_at dc_R_choicesIn 12 rfl) ?_
    refine ev_istore_n (i := 1) rfl (by decide) rfl (a_dec_at dc_R_choicesIn 13 rfl) ?_
    refine ev_iinc (v := 1) rfl rfl (by decide) rfl (a_dec_at dc_R_choicesIn 14 rfl) ?_
    refine ev_goto (tgt := 4) (a_dec_at dc_R_choicesIn 15 rfl) (by decide) ?_
    exact Ev.drop (L' := [.ref 119, .int (v1 * 5), .int (v2 + 1)]) (And.intro rfl (And.intro rfl (And.intro rfl trivial))) H
set_option maxRecDepth 20000 in
theorem t_R_laysChoice {l : Launch} {h : Nat} (mi : TMi) (ml : TMl) (z : Nat) (a1 : Int32) {Q : Int32 → TMi → TMl → Nat → Prop} (H : Ev l (h + 1) m_R_laysChoice 4 ([.ref 119, .retAddr 0, .int a1, .int 0], [], st mi ml z) (qI Q)) : CI l (h + 1) m_R_laysChoice [.ref 119, .int a1] mi ml z Q := by
  show Ev l (h + 1) m_R_laysChoice 0 ([.ref 119, .int a1, .retAddr 0, .retAddr 0], [], st mi ml z) (qI Q)
  refine ev_iload_n (i := 1) rfl rfl (a_dec_at dc_R_laysChoice 0 rfl) ?_
  refine ev_istore_n (i := 2) rfl (by decide) rfl (a_dec_at dc_R_laysChoice 1 rfl) ?_
  refine ev_iconst (v := 0) rfl (a_dec_at dc_R_laysChoice 2 rfl) ?_
  refine ev_istore_n (i := 3) rfl (by decide) rfl (a_dec_at dc_R_laysChoice 3 rfl) ?_
  exact Ev.drop (L' := [.ref 119, .retAddr 0, .int a1, .int 0]) (And.intro rfl (And.intro rfl (And.intro rfl trivial))) H
set_option maxRecDepth 20000 in
theorem t_R_laysChoice_4 {l : Launch} {h : Nat} (mi : TMi) (ml : TMl) (z : Nat) (v2 : Int32) (v3 : Int32) {Q : Int32 → TMi → TMl → Nat → Prop} (H : ((6 ≤ v3 → Q 1 mi ml z) ∧ (¬ 6 ≤ v3 → (vp_in v3 6) ∧ (vp_in v3 6) ∧ ((((up mi 129 v3.toNatClampNeg ((a_rem v2 5) - 1)) 129 v3.toNatClampNeg) < ((up mi 129 v3.toNatClampNeg ((a_rem v2 5) - 1)) 120 2) → Ev l (h + 1) m_R_laysChoice 4 ([.ref 119, .retAddr 0, .int (v2 / 5), .int (v3 + 1)], [], st (up mi 129 v3.toNatClampNeg ((a_rem v2 5) - 1)) ml z) (qI Q)) ∧ (¬ ((up mi 129 v3.toNatClampNeg ((a_rem v2 5) - 1)) 129 v3.toNatClampNeg) < ((up mi 129 v3.toNatClampNeg ((a_rem v2 5) - 1)) 120 2) → Q 0 (up mi 129 v3.toNatClampNeg ((a_rem v2 5) - 1)) ml z))))) : Ev l (h + 1) m_R_laysChoice 4 ([.ref 119, .retAddr 0, .int v2, .int v3], [], st mi ml z) (qI Q) := by
  refine ev_iload_n (i := 3) rfl rfl (a_dec_at dc_R_laysChoice 4 rfl) ?_
  refine ev_bipush (v := 6) rfl (a_dec_at dc_R_laysChoice 5 rfl) ?_
  refine ev_icmp_ge (tgt := 48) (a_dec_at dc_R_laysChoice 6 rfl) (by decide) (fun b1 => ?_) (fun b1 => ?_)
  · have H := H.1 b1
    refine ev_iconst (v := 1) rfl (a_dec_at dc_R_laysChoice 33 rfl) ?_
    exact m_retI (a_dec_at dc_R_laysChoice 34 rfl) rfl rfl H
  · have H := H.2 b1
    refine ev_aload_n (i := 0) rfl rfl (a_dec_at dc_R_laysChoice 7 rfl) ?_
    refine m_getR (y := 129) fl_R_45 rfl sh119 (mr_119_23 _) (by decide) (a_dec_at dc_R_laysChoice 8 rfl) ?_
    refine ev_iload_n (i := 3) rfl rfl (a_dec_at dc_R_laysChoice 9 rfl) ?_
    refine ev_iload_n (i := 2) rfl rfl (a_dec_at dc_R_laysChoice 10 rfl) ?_
    refine ev_iconst (v := 5) rfl (a_dec_at dc_R_laysChoice 11 rfl) ?_
    refine ev_irem (by decide) (a_dec_at dc_R_laysChoice 12 rfl) ?_
    refine ev_iconst (v := 1) rfl (a_dec_at dc_R_laysChoice 13 rfl) ?_
    refine ev_isub (a_dec_at dc_R_laysChoice 14 rfl) ?_
    obtain ⟨c2, H⟩ := H
    refine w_iast (k := v3.toNatClampNeg) sh129 c2 rfl (a_dec_at dc_R_laysChoice 15 rfl) ?_
    refine ev_iload_n (i := 2) rfl rfl (a_dec_at dc_R_laysChoice 16 rfl) ?_
    refine ev_iconst (v := 5) rfl (a_dec_at dc_R_laysChoice 17 rfl) ?_
    refine ev_idiv (by decide) (a_dec_at dc_R_laysChoice 18 rfl) ?_
    refine ev_istore_n (i := 2) rfl (by decide) rfl (a_dec_at dc_R_laysChoice 19 rfl) ?_
    refine ev_aload_n (i := 0) rfl rfl (a_dec_at dc_R_laysChoice 20 rfl) ?_
    refine m_getR (y := 129) fl_R_45 rfl sh119 (mr_119_23 _) (by decide) (a_dec_at dc_R_laysChoice 21 rfl) ?_
    refine ev_iload_n (i := 3) rfl rfl (a_dec_at dc_R_laysChoice 22 rfl) ?_
    obtain ⟨c3, H⟩ := H
    refine w_iald (k := v3.toNatClampNeg) sh129 c3 rfl (a_dec_at dc_R_laysChoice 23 rfl) ?_
    refine ev_aload_n (i := 0) rfl rfl (a_dec_at dc_R_laysChoice 24 rfl) ?_
    refine m_getR (y := 120) fl_R_13 rfl sh119 (mr_119_1 _) (by decide) (a_dec_at dc_R_laysChoice 25 rfl) ?_
    refine ev_iconst (v := 2) rfl (a_dec_at dc_R_laysChoice 26 rfl) ?_
    refine w_iald (k := 2) sh120 (by unfold vp_in; decide) (by decide) (a_dec_at dc_R_laysChoice 27 rfl) ?_
    refine ev_icmp_lt (tgt := 42) (a_dec_at dc_R_laysChoice 28 rfl) (by decide) (fun b4 => ?_) (fun b4 => ?_)
    · have H := H.1 b4
      refine ev_iinc (v := 1) rfl rfl (by decide) rfl (a_dec_at dc_R_laysChoice 31 rfl) ?_
      refine ev_goto (tgt := 4) (a_dec_at dc_R_laysChoice 32 rfl) (by decide) ?_
      exact Ev.drop (L' := [.ref 119, .retAddr 0, .int (v2 / 5), .int (v3 + 1)]) (And.intro rfl (And.intro rfl (And.intro rfl trivial))) H
    · have H := H.2 b4
      refine ev_iconst (v := 0) rfl (a_dec_at dc_R_laysChoice 29 rfl) ?_
      exact m_retI (a_dec_at dc_R_laysChoice 30 rfl) rfl rfl H
set_option maxRecDepth 20000 in
theorem t_R_fitsRooms {l : Launch} {h : Nat} (mi : TMi) (ml : TMl) (z : Nat) {Q : Int32 → TMi → TMl → Nat → Prop} (H : Ev l (h + 1) m_R_fitsRooms 2 ([.ref 119, .int 0], [], st mi ml z) (qI Q)) : CI l (h + 1) m_R_fitsRooms [.ref 119] mi ml z Q := by
  show Ev l (h + 1) m_R_fitsRooms 0 ([.ref 119, .retAddr 0], [], st mi ml z) (qI Q)
  refine ev_iconst (v := 0) rfl (a_dec_at dc_R_fitsRooms 0 rfl) ?_
  refine ev_istore_n (i := 1) rfl (by decide) rfl (a_dec_at dc_R_fitsRooms 1 rfl) ?_
  exact Ev.drop (L' := [.ref 119, .int 0]) (And.intro rfl (And.intro rfl trivial)) H
set_option maxRecDepth 20000 in
theorem t_R_fitsRooms_2 {l : Launch} {h : Nat} (mi : TMi) (ml : TMl) (z : Nat) (v1 : Int32) {Q : Int32 → TMi → TMl → Nat → Prop} (H : (((mi 120 2) ≤ v1 → Q 1 mi ml z) ∧ (¬ (mi 120 2) ≤ v1 → CI l h m_R_becksBy [.ref 119, .int v1] mi ml z (fun x2 mi2 ml2 z2 => CI l h m_R_bitsOf [.int x2] mi2 ml2 z2 (fun x3 mi3 ml3 z3 => (vp_in (41 + v1) 4113) ∧ ((x3 ≤ (mi3 120 ((41 + v1).toNatClampNeg)) → Ev l (h + 1) m_R_fitsRooms 2 ([.ref 119, .int (v1 + 1)], [], st mi3 ml3 z3) (qI Q)) ∧ (¬ x3 ≤ (mi3 120 ((41 + v1).toNatClampNeg)) → Q 0 mi3 ml3 z3))))))) : Ev l (h + 1) m_R_fitsRooms 2 ([.ref 119, .int v1], [], st mi ml z) (qI Q) := by
  refine ev_iload_n (i := 1) rfl rfl (a_dec_at dc_R_fitsRooms 2 rfl) ?_
  refine ev_aload_n (i := 0) rfl rfl (a_dec_at dc_R_fitsRooms 3 rfl) ?_
  refine m_getR (y := 120) fl_R_13 rfl sh119 (mr_119_1 _) (by decide) (a_dec_at dc_R_fitsRooms 4 rfl) ?_
  refine ev_iconst (v := 2) rfl (a_dec_at dc_R_fitsRooms 5 rfl) ?_
  refine w_iald (k := 2) sh120 (by unfold vp_in; decide) (by decide) (a_dec_at dc_R_fitsRooms 6 rfl) ?_
  refine ev_icmp_ge (tgt := 40) (a_dec_at dc_R_fitsRooms 7 rfl) (by decide) (fun b1 => ?_) (fun b1 => ?_)
  · have H := H.1 b1
    refine ev_iconst (v := 1) rfl (a_dec_at dc_R_fitsRooms 23 rfl) ?_
    exact m_retI (a_dec_at dc_R_fitsRooms 24 rfl) rfl rfl H
  · have H := H.2 b1
    refine ev_aload_n (i := 0) rfl rfl (a_dec_at dc_R_fitsRooms 8 rfl) ?_
    refine ev_iload_n (i := 1) rfl rfl (a_dec_at dc_R_fitsRooms 9 rfl) ?_
    refine cV1I cs_R_349 sh119 rfl (Nat.le_of_ble_eq_true rfl) (Nat.le_of_ble_eq_true rfl) (a_dec_at dc_R_fitsRooms 10 rfl) ?_
    refine CI.mono (fun x2 mi2 ml2 z2 H => ?_) H
    refine cS1I cs_R_256 rfl (Nat.le_of_ble_eq_true rfl) (Nat.le_of_ble_eq_true rfl) (a_dec_at dc_R_fitsRooms 11 rfl) ?_
    refine CI.mono (fun x3 mi3 ml3 z3 H => ?_) H
    refine ev_aload_n (i := 0) rfl rfl (a_dec_at dc_R_fitsRooms 12 rfl) ?_
    refine m_getR (y := 120) fl_R_13 rfl sh119 (mr_119_1 _) (by decide) (a_dec_at dc_R_fitsRooms 13 rfl) ?_
    refine ev_bipush (v := 41) rfl (a_dec_at dc_R_fitsRooms 14 rfl) ?_
    refine ev_iload_n (i := 1) rfl rfl (a_dec_at dc_R_fitsRooms 15 rfl) ?_
    refine ev_iadd (a_dec_at dc_R_fitsRooms 16 rfl) ?_
    obtain ⟨c4, H⟩ := H
    refine w_iald (k := (41 + v1).toNatClampNeg) sh120 c4 rfl (a_dec_at dc_R_fitsRooms 17 rfl) ?_
    refine ev_icmp_le (tgt := 34) (a_dec_at dc_R_fitsRooms 18 rfl) (by decide) (fun b5 => ?_) (fun b5 => ?_)
    · have H := H.1 b5
      refine ev_iinc (v := 1) rfl rfl (by decide) rfl (a_dec_at dc_R_fitsRooms 21 rfl) ?_
      refine ev_goto (tgt := 2) (a_dec_at dc_R_fitsRooms 22 rfl) (by decide) ?_
      exact Ev.drop (L' := [.ref 119, .int (v1 + 1)]) (And.intro rfl (And.intro rfl trivial)) H
    · have H := H.2 b5
      refine ev_iconst (v := 0) rfl (a_dec_at dc_R_fitsRooms 19 rfl) ?_
      exact m_retI (a_dec_at dc_R_fitsRooms 20 rfl) rfl rfl H
set_option maxRecDepth 20000 in
theorem t_R_ofHeld {l : Launch} {h : Nat} (mi : TMi) (ml : TMl) (z : Nat) (a1 : Int32) (a2 : Int32) {Q : Int32 → TMi → TMl → Nat → Prop} (H : CI l h m_R_placeIn [.int (mi 130 0), .int a1] mi ml z (fun x1 mi1 ml1 z1 => Ev l (h + 1) m_R_ofHeld 14 ([.ref 119, .int a1, .int a2, .int x1, .int 1, .retAddr 0], [], st mi1 ml1 z1) (qI Q))) : CI l (h + 1) m_R_ofHeld [.ref 119, .int a1, .int a2] mi ml z Q := by
  show Ev l (h + 1) m_R_ofHeld 0 ([.ref 119, .int a1, .int a2, .retAddr 0, .retAddr 0, .retAddr 0], [], st mi ml z) (qI Q)
  refine ev_aload_n (i := 0) rfl rfl (a_dec_at dc_R_ofHeld 0 rfl) ?_
  refine m_getR (y := 130) fl_R_48 rfl sh119 (mr_119_24 _) (by decide) (a_dec_at dc_R_ofHeld 1 rfl) ?_
  refine ev_iconst (v := 0) rfl (a_dec_at dc_R_ofHeld 2 rfl) ?_
  refine w_iald (k := 0) sh130 (by unfold vp_in; decide) (by decide) (a_dec_at dc_R_ofHeld 3 rfl) ?_
  refine ev_iload_n (i := 1) rfl rfl (a_dec_at dc_R_ofHeld 4 rfl) ?_
  refine cS2I cs_R_377 rfl (Nat.le_of_ble_eq_true rfl) (Nat.le_of_ble_eq_true rfl) (a_dec_at dc_R_ofHeld 5 rfl) ?_
  refine CI.mono (fun x1 mi1 ml1 z1 H => ?_) H
  refine ev_istore_n (i := 3) rfl (by decide) rfl (a_dec_at dc_R_ofHeld 6 rfl) ?_
  refine ev_iconst (v := 1) rfl (a_dec_at dc_R_ofHeld 7 rfl) ?_
  refine ev_istore (by decide) rfl (a_dec_at dc_R_ofHeld 8 rfl) ?_
  exact Ev.drop (L' := [.ref 119, .int a1, .int a2, .int x1, .int 1, .retAddr 0]) (And.intro rfl (And.intro rfl (And.intro rfl (And.intro rfl (And.intro rfl trivial))))) H
set_option maxRecDepth 20000 in
theorem t_R_ofHeld_14 {l : Launch} {h : Nat} (mi : TMi) (ml : TMl) (z : Nat) (v1 : Int32) (v2 : Int32) (v3 : Int32) (v4 : Int32) {Q : Int32 → TMi → TMl → Nat → Prop} (H : (((mi 119 25) ≤ v4 → Q v3 mi ml z) ∧ (¬ (mi 119 25) ≤ v4 → (vp_in v4 15625) ∧ CI l h m_R_placeIn [.int (mi 130 v4.toNatClampNeg), .int v1] mi ml z (fun x3 mi3 ml3 z3 => ((x3 = v3 → Ev l (h + 1) m_R_ofHeld 14 ([.ref 119, .int v1, .int v2, .int v3, .int (v4 + 1), .retAddr 0], [], st mi3 ml3 z3) (qI Q)) ∧ (¬ x3 = v3 → ((x3 = (-1) → Ev l (h + 1) m_R_ofHeld 14 ([.ref 119, .int v1, .int v2, .int v3, .int (v4 + 1), .retAddr 0], [], st mi3 ml3 z3) (qI Q)) ∧ (¬ x3 = (-1) → ((v3 = (-1) → Ev l (h + 1) m_R_ofHeld 14 ([.ref 119, .int v1, .int v2, .int v3, .int (v4 + 1), .retAddr 0], [], st mi3 ml3 z3) (qI Q)) ∧ (¬ v3 = (-1) → CI l h m_R_likesMore [.ref 119, .int v1, .int x3, .int v3] mi3 ml3 z3 (fun x7 mi7 ml7 z7 => ((¬ x7 = v2 → Ev l (h + 1) m_R_ofHeld 14 ([.ref 119, .int v1, .int v2, .int v3, .int (v4 + 1), .retAddr 0], [], st mi7 ml7 z7) (qI Q)) ∧ (x7 = v2 → Ev l (h + 1) m_R_ofHeld 14 ([.ref 119, .int v1, .int v2, .int x3, .int (v4 + 1), .retAddr 0], [], st mi7 ml7 z7) (qI Q)))))))))))))) : Ev l (h + 1) m_R_ofHeld 14 ([.ref 119, .int v1, .int v2, .int v3, .int v4, .retAddr 0], [], st mi ml z) (qI Q) := by
  refine ev_iload rfl (a_dec_at dc_R_ofHeld 9 rfl) ?_
  refine ev_aload_n (i := 0) rfl rfl (a_dec_at dc_R_ofHeld 10 rfl) ?_
  refine m_getI fl_R_365 rfl sh119 (a_dec_at dc_R_ofHeld 11 rfl) ?_
  refine ev_icmp_ge (tgt := 74) (a_dec_at dc_R_ofHeld 12 rfl) (by decide) (fun b1 => ?_) (fun b1 => ?_)
  · have H := H.1 b1
    refine ev_iload_n (i := 3) rfl rfl (a_dec_at dc_R_ofHeld 40 rfl) ?_
    exact m_retI (a_dec_at dc_R_ofHeld 41 rfl) rfl rfl H
  · have H := H.2 b1
    refine ev_aload_n (i := 0) rfl rfl (a_dec_at dc_R_ofHeld 13 rfl) ?_
    refine m_getR (y := 130) fl_R_48 rfl sh119 (mr_119_24 _) (by decide) (a_dec_at dc_R_ofHeld 14 rfl) ?_
    refine ev_iload rfl (a_dec_at dc_R_ofHeld 15 rfl) ?_
    obtain ⟨c2, H⟩ := H
    refine w_iald (k := v4.toNatClampNeg) sh130 c2 rfl (a_dec_at dc_R_ofHeld 16 rfl) ?_
    refine ev_iload_n (i := 1) rfl rfl (a_dec_at dc_R_ofHeld 17 rfl) ?_
    refine cS2I cs_R_377 rfl (Nat.le_of_ble_eq_true rfl) (Nat.le_of_ble_eq_true rfl) (a_dec_at dc_R_ofHeld 18 rfl) ?_
    refine CI.mono (fun x3 mi3 ml3 z3 H => ?_) H
    refine ev_istore (by decide) rfl (a_dec_at dc_R_ofHeld 19 rfl) ?_
    refine ev_iload rfl (a_dec_at dc_R_ofHeld 20 rfl) ?_
    refine ev_iload_n (i := 3) rfl rfl (a_dec_at dc_R_ofHeld 21 rfl) ?_
    refine ev_icmp_eq (tgt := 68) (a_dec_at dc_R_ofHeld 22 rfl) (by decide) (fun b4 => ?_) (fun b4 => ?_)
    · have H := H.1 b4
      refine ev_iinc (v := 1) rfl rfl (by decide) rfl (a_dec_at dc_R_ofHeld 38 rfl) ?_
      refine ev_goto (tgt := 14) (a_dec_at dc_R_ofHeld 39 rfl) (by decide) ?_
      exact Ev.drop (L' := [.ref 119, .int v1, .int v2, .int v3, .int (v4 + 1), .retAddr 0]) (And.intro rfl (And.intro rfl (And.intro rfl (And.intro rfl (And.intro rfl trivial))))) H
    · have H := H.2 b4
      refine ev_iload rfl (a_dec_at dc_R_ofHeld 23 rfl) ?_
      refine ev_iconst (v := (-1)) rfl (a_dec_at dc_R_ofHeld 24 rfl) ?_
      refine ev_icmp_eq (tgt := 68) (a_dec_at dc_R_ofHeld 25 rfl) (by decide) (fun b5 => ?_) (fun b5 => ?_)
      · have H := H.1 b5
        refine ev_iinc (v := 1) rfl rfl (by decide) rfl (a_dec_at dc_R_ofHeld 38 rfl) ?_
        refine ev_goto (tgt := 14) (a_dec_at dc_R_ofHeld 39 rfl) (by decide) ?_
        exact Ev.drop (L' := [.ref 119, .int v1, .int v2, .int v3, .int (v4 + 1), .retAddr 0]) (And.intro rfl (And.intro rfl (And.intro rfl (And.intro rfl (And.intro rfl trivial))))) H
      · have H := H.2 b5
        refine ev_iload_n (i := 3) rfl rfl (a_dec_at dc_R_ofHeld 26 rfl) ?_
        refine ev_iconst (v := (-1)) rfl (a_dec_at dc_R_ofHeld 27 rfl) ?_
        refine ev_icmp_eq (tgt := 68) (a_dec_at dc_R_ofHeld 28 rfl) (by decide) (fun b6 => ?_) (fun b6 => ?_)
        · have H := H.1 b6
          refine ev_iinc (v := 1) rfl rfl (by decide) rfl (a_dec_at dc_R_ofHeld 38 rfl) ?_
          refine ev_goto (tgt := 14) (a_dec_at dc_R_ofHeld 39 rfl) (by decide) ?_
          exact Ev.drop (L' := [.ref 119, .int v1, .int v2, .int v3, .int (v4 + 1), .retAddr 0]) (And.intro rfl (And.intro rfl (And.intro rfl (And.intro rfl (And.intro rfl trivial))))) H
        · have H := H.2 b6
          refine ev_aload_n (i := 0) rfl rfl (a_dec_at dc_R_ofHeld 29 rfl) ?_
          refine ev_iload_n (i := 1) rfl rfl (a_dec_at dc_R_ofHeld 30 rfl) ?_
          refine ev_iload rfl (a_dec_at dc_R_ofHeld 31 rfl) ?_
          refine ev_iload_n (i := 3) rfl rfl (a_dec_at dc_R_ofHeld 32 rfl) ?_
          refine cV3I cs_R_346 sh119 rfl (Nat.le_of_ble_eq_true rfl) (Nat.le_of_ble_eq_true rfl) (a_dec_at dc_R_ofHeld 33 rfl) ?_
          refine CI.mono (fun x7 mi7 ml7 z7 H => ?_) H
          refine ev_iload_n (i := 2) rfl rfl (a_dec_at dc_R_ofHeld 34 rfl) ?_
          refine ev_icmp_ne (tgt := 68) (a_dec_at dc_R_ofHeld 35 rfl) (by decide) (fun b8 => ?_) (fun b8 => ?_)
          · have H := H.1 b8
            refine ev_iinc (v := 1) rfl rfl (by decide) rfl (a_dec_at dc_R_ofHeld 38 rfl) ?_
            refine ev_goto (tgt := 14) (a_dec_at dc_R_ofHeld 39 rfl) (by decide) ?_
            exact Ev.drop (L' := [.ref 119, .int v1, .int v2, .int v3, .int (v4 + 1), .retAddr 0]) (And.intro rfl (And.intro rfl (And.intro rfl (And.intro rfl (And.intro rfl trivial))))) H
          · have H := H.2 b8
            refine ev_iload rfl (a_dec_at dc_R_ofHeld 36 rfl) ?_
            refine ev_istore_n (i := 3) rfl (by decide) rfl (a_dec_at dc_R_ofHeld 37 rfl) ?_
            refine ev_iinc (v := 1) rfl rfl (by decide) rfl (a_dec_at dc_R_ofHeld 38 rfl) ?_
            refine ev_goto (tgt := 14) (a_dec_at dc_R_ofHeld 39 rfl) (by decide) ?_
            exact Ev.drop (L' := [.ref 119, .int v1, .int v2, .int x3, .int (v4 + 1), .retAddr 0]) (And.intro rfl (And.intro rfl (And.intro rfl (And.intro rfl (And.intro rfl trivial))))) H
set_option maxRecDepth 20000 in
theorem t_R_placeIn {l : Launch} {h : Nat} (mi : TMi) (ml : TMl) (z : Nat) (a1 : Int32) (a2 : Int32) {Q : Int32 → TMi → TMl → Nat → Prop} (H : Ev l (h + 1) m_R_placeIn 4 ([.retAddr 0, .int a2, .int a1, .int 0], [], st mi ml z) (qI Q)) : CI l (h + 1) m_R_placeIn [.int a1, .int a2] mi ml z Q := by
  show Ev l (h + 1) m_R_placeIn 0 ([.int a1, .int a2, .retAddr 0, .retAddr 0], [], st mi ml z) (qI Q)
  refine ev_iload_n (i := 0) rfl rfl (a_dec_at dc_R_placeIn 0 rfl) ?_
  refine ev_istore_n (i := 2) rfl (by decide) rfl (a_dec_at dc_R_placeIn 1 rfl) ?_
  refine ev_iconst (v := 0) rfl (a_dec_at dc_R_placeIn 2 rfl) ?_
  refine ev_istore_n (i := 3) rfl (by decide) rfl (a_dec_at dc_R_placeIn 3 rfl) ?_
  exact Ev.drop (L' := [.retAddr 0, .int a2, .int a1, .int 0]) (And.intro rfl (And.intro rfl (And.intro rfl trivial))) H
set_option maxRecDepth 20000 in
theorem t_R_placeIn_4 {l : Launch} {h : Nat} (mi : TMi) (ml : TMl) (z : Nat) (v1 : Int32) (v2 : Int32) (v3 : Int32) {Q : Int32 → TMi → TMl → Nat → Prop} (H : ((v1 ≤ v3 → Q ((a_rem v2 5) - 1) mi ml z) ∧ (¬ v1 ≤ v3 → Ev l (h + 1) m_R_placeIn 4 ([.retAddr 0, .int v1, .int (v2 / 5), .int (v3 + 1)], [], st mi ml z) (qI Q)))) : Ev l (h + 1) m_R_placeIn 4 ([.retAddr 0, .int v1, .int v2, .int v3], [], st mi ml z) (qI Q) := by
  refine ev_iload_n (i := 3) rfl rfl (a_dec_at dc_R_placeIn 4 rfl) ?_
  refine ev_iload_n (i := 1) rfl rfl (a_dec_at dc_R_placeIn 5 rfl) ?_
  refine ev_icmp_ge (tgt := 19) (a_dec_at dc_R_placeIn 6 rfl) (by decide) (fun b1 => ?_) (fun b1 => ?_)
  · have H := H.1 b1
    refine ev_iload_n (i := 2) rfl rfl (a_dec_at dc_R_placeIn 13 rfl) ?_
    refine ev_iconst (v := 5) rfl (a_dec_at dc_R_placeIn 14 rfl) ?_
    refine ev_irem (by decide) (a_dec_at dc_R_placeIn 15 rfl) ?_
    refine ev_iconst (v := 1) rfl (a_dec_at dc_R_placeIn 16 rfl) ?_
    refine ev_isub (a_dec_at dc_R_placeIn 17 rfl) ?_
    exact m_retI (a_dec_at dc_R_placeIn 18 rfl) rfl rfl H
  · have H := H.2 b1
    refine ev_iload_n (i := 2) rfl rfl (a_dec_at dc_R_placeIn 7 rfl) ?_
    refine ev_iconst (v := 5) rfl (a_dec_at dc_R_placeIn 8 rfl) ?_
    refine ev_idiv (by decide) (a_dec_at dc_R_placeIn 9 rfl) ?_
    refine ev_istore_n (i := 2) rfl (by decide) rfl (a_dec_at dc_R_placeIn 10 rfl) ?_
    refine ev_iinc (v := 1) rfl rfl (by decide) rfl (a_dec_at dc_R_placeIn 11 rfl) ?_
    refine ev_goto (tgt := 4) (a_dec_at dc_R_placeIn 12 rfl) (by decide) ?_
    exact Ev.drop (L' := [.retAddr 0, .int v1, .int (v2 / 5), .int (v3 + 1)]) (And.intro rfl (And.intro rfl (And.intro rfl trivial))) H
set_option maxRecDepth 20000 in
theorem t_R_forRivers {l : Launch} {h : Nat} (mi : TMi) (ml : TMl) (z : Nat) (a1 : Int32) {Q : Int32 → TMi → TMl → Nat → Prop} (H : CI l h m_R_isBeck [.ref 119, .long a1.toInt64] (up mi 119 0 0) ml z (fun x1 mi1 ml1 z1 => ((¬ x1 = 0 → CV l h m_R_laysHeld [.ref 119] mi1 ml1 z1 (fun mi3 ml3 z3 => CI l h m_R_ofHeld [.ref 119, .int a1, .int 0] mi3 ml3 z3 (fun x4 mi4 ml4 z4 => Q x4 mi4 ml4 z4))) ∧ (x1 = 0 → Q (-2) mi1 ml1 z1)))) : CI l (h + 1) m_R_forRivers [.ref 119, .int a1] mi ml z Q := by
  show Ev l (h + 1) m_R_forRivers 0 ([.ref 119, .int a1], [], st mi ml z) (qI Q)
  refine ev_aload_n (i := 0) rfl rfl (a_dec_at dc_R_forRivers 0 rfl) ?_
  refine ev_iconst (v := 0) rfl (a_dec_at dc_R_forRivers 1 rfl) ?_
  refine m_putI fl_R_1 rfl (fun _ _ _ h => by cases h; exact Or.inl rfl) sh119 (a_dec_at dc_R_forRivers 2 rfl) ?_
  refine ev_aload_n (i := 0) rfl rfl (a_dec_at dc_R_forRivers 3 rfl) ?_
  refine ev_iload_n (i := 1) rfl rfl (a_dec_at dc_R_forRivers 4 rfl) ?_
  refine ev_i2l (a_dec_at dc_R_forRivers 5 rfl) ?_
  refine cV1I cs_R_233 sh119 rfl (Nat.le_of_ble_eq_true rfl) (Nat.le_of_ble_eq_true rfl) (a_dec_at dc_R_forRivers 6 rfl) ?_
  refine CI.mono (fun x1 mi1 ml1 z1 H => ?_) H
  refine ev_if_ne (tgt := 17) (a_dec_at dc_R_forRivers 7 rfl) (by decide) (fun b2 => ?_) (fun b2 => ?_)
  · have H := H.1 b2
    refine ev_aload_n (i := 0) rfl rfl (a_dec_at dc_R_forRivers 10 rfl) ?_
    refine cV0V cs_R_380 sh119 rfl (Nat.le_of_ble_eq_true rfl) (Nat.le_of_ble_eq_true rfl) (a_dec_at dc_R_forRivers 11 rfl) ?_
    refine CV.mono (fun mi3 ml3 z3 H => ?_) H
    refine ev_aload_n (i := 0) rfl rfl (a_dec_at dc_R_forRivers 12 rfl) ?_
    refine ev_iload_n (i := 1) rfl rfl (a_dec_at dc_R_forRivers 13 rfl) ?_
    refine ev_iconst (v := 0) rfl (a_dec_at dc_R_forRivers 14 rfl) ?_
    refine cV2I cs_R_383 sh119 rfl (Nat.le_of_ble_eq_true rfl) (Nat.le_of_ble_eq_true rfl) (a_dec_at dc_R_forRivers 15 rfl) ?_
    refine CI.mono (fun x4 mi4 ml4 z4 H => ?_) H
    exact m_retI (a_dec_at dc_R_forRivers 16 rfl) rfl rfl H
  · have H := H.2 b2
    refine ev_bipush (v := (-2)) rfl (a_dec_at dc_R_forRivers 8 rfl) ?_
    exact m_retI (a_dec_at dc_R_forRivers 9 rfl) rfl rfl H
set_option maxRecDepth 20000 in
theorem t_R_choices {l : Launch} {h : Nat} (mi : TMi) (ml : TMl) (z : Nat) {Q : Int32 → TMi → TMl → Nat → Prop} (H : CV l h m_R_laysHeld [.ref 119] (up mi 119 0 0) ml z (fun mi1 ml1 z1 => Q (mi1 119 25) mi1 ml1 z1)) : CI l (h + 1) m_R_choices [.ref 119] mi ml z Q := by
  show Ev l (h + 1) m_R_choices 0 ([.ref 119], [], st mi ml z) (qI Q)
  refine ev_aload_n (i := 0) rfl rfl (a_dec_at dc_R_choices 0 rfl) ?_
  refine ev_iconst (v := 0) rfl (a_dec_at dc_R_choices 1 rfl) ?_
  refine m_putI fl_R_1 rfl (fun _ _ _ h => by cases h; exact Or.inl rfl) sh119 (a_dec_at dc_R_choices 2 rfl) ?_
  refine ev_aload_n (i := 0) rfl rfl (a_dec_at dc_R_choices 3 rfl) ?_
  refine cV0V cs_R_380 sh119 rfl (Nat.le_of_ble_eq_true rfl) (Nat.le_of_ble_eq_true rfl) (a_dec_at dc_R_choices 4 rfl) ?_
  refine CV.mono (fun mi1 ml1 z1 H => ?_) H
  refine ev_aload_n (i := 0) rfl rfl (a_dec_at dc_R_choices 5 rfl) ?_
  refine m_getI fl_R_365 rfl sh119 (a_dec_at dc_R_choices 6 rfl) ?_
  exact m_retI (a_dec_at dc_R_choices 7 rfl) rfl rfl H
set_option maxRecDepth 20000 in
theorem t_R_choice {l : Launch} {h : Nat} (mi : TMi) (ml : TMl) (z : Nat) (a1 : Int32) {Q : Int32 → TMi → TMl → Nat → Prop} (H : ((0 ≤ a1 → CV l h m_R_laysHeld [.ref 119] (up mi 119 0 0) ml z (fun mi2 ml2 z2 => (((mi2 119 25) ≤ a1 → Q (-1) mi2 ml2 z2) ∧ (¬ (mi2 119 25) ≤ a1 → (vp_in a1 15625) ∧ Q (mi2 130 a1.toNatClampNeg) mi2 ml2 z2)))) ∧ (¬ 0 ≤ a1 → Q (-3) (up mi 119 0 0) ml z))) : CI l (h + 1) m_R_choice [.ref 119, .int a1] mi ml z Q := by
  show Ev l (h + 1) m_R_choice 0 ([.ref 119, .int a1], [], st mi ml z) (qI Q)
  refine ev_aload_n (i := 0) rfl rfl (a_dec_at dc_R_choice 0 rfl) ?_
  refine ev_iconst (v := 0) rfl (a_dec_at dc_R_choice 1 rfl) ?_
  refine m_putI fl_R_1 rfl (fun _ _ _ h => by cases h; exact Or.inl rfl) sh119 (a_dec_at dc_R_choice 2 rfl) ?_
  refine ev_iload_n (i := 1) rfl rfl (a_dec_at dc_R_choice 3 rfl) ?_
  refine ev_if_ge (tgt := 12) (a_dec_at dc_R_choice 4 rfl) (by decide) (fun b1 => ?_) (fun b1 => ?_)
  · have H := H.1 b1
    refine ev_aload_n (i := 0) rfl rfl (a_dec_at dc_R_choice 7 rfl) ?_
    refine cV0V cs_R_380 sh119 rfl (Nat.le_of_ble_eq_true rfl) (Nat.le_of_ble_eq_true rfl) (a_dec_at dc_R_choice 8 rfl) ?_
    refine CV.mono (fun mi2 ml2 z2 H => ?_) H
    refine ev_iload_n (i := 1) rfl rfl (a_dec_at dc_R_choice 9 rfl) ?_
    refine ev_aload_n (i := 0) rfl rfl (a_dec_at dc_R_choice 10 rfl) ?_
    refine m_getI fl_R_365 rfl sh119 (a_dec_at dc_R_choice 11 rfl) ?_
    refine ev_icmp_ge (tgt := 33) (a_dec_at dc_R_choice 12 rfl) (by decide) (fun b3 => ?_) (fun b3 => ?_)
    · have H := H.1 b3
      refine ev_iconst (v := (-1)) rfl (a_dec_at dc_R_choice 18 rfl) ?_
      exact m_retI (a_dec_at dc_R_choice 19 rfl) rfl rfl H
    · have H := H.2 b3
      refine ev_aload_n (i := 0) rfl rfl (a_dec_at dc_R_choice 13 rfl) ?_
      refine m_getR (y := 130) fl_R_48 rfl sh119 (mr_119_24 _) (by decide) (a_dec_at dc_R_choice 14 rfl) ?_
      refine ev_iload_n (i := 1) rfl rfl (a_dec_at dc_R_choice 15 rfl) ?_
      obtain ⟨c4, H⟩ := H
      refine w_iald (k := a1.toNatClampNeg) sh130 c4 rfl (a_dec_at dc_R_choice 16 rfl) ?_
      refine ev_goto (tgt := 34) (a_dec_at dc_R_choice 17 rfl) (by decide) ?_
      exact m_retI (a_dec_at dc_R_choice 19 rfl) rfl rfl H
  · have H := H.2 b1
    refine ev_bipush (v := (-3)) rfl (a_dec_at dc_R_choice 5 rfl) ?_
    exact m_retI (a_dec_at dc_R_choice 6 rfl) rfl rfl H
set_option maxRecDepth 20000 in
theorem t_R_can {l : Launch} {h : Nat} (mi : TMi) (ml : TMl) (z : Nat) (a1 : Int32) {Q : Int32 → TMi → TMl → Nat → Prop} (H : CI l h m_R_isBeck [.ref 119, .long a1.toInt64] (up mi 119 0 0) ml z (fun x1 mi1 ml1 z1 => ((¬ x1 = 0 → CV l h m_R_laysHeld [.ref 119] mi1 ml1 z1 (fun mi3 ml3 z3 => Ev l (h + 1) m_R_can 25 ([.ref 119, .int a1, .int 0, .int 0], [], st mi3 ml3 z3) (qI Q))) ∧ (x1 = 0 → Q (-2) mi1 ml1 z1)))) : CI l (h + 1) m_R_can [.ref 119, .int a1] mi ml z Q := by
  show Ev l (h + 1) m_R_can 0 ([.ref 119, .int a1, .retAddr 0, .retAddr 0], [], st mi ml z) (qI Q)
  refine ev_aload_n (i := 0) rfl rfl (a_dec_at dc_R_can 0 rfl) ?_
  refine ev_iconst (v := 0) rfl (a_dec_at dc_R_can 1 rfl) ?_
  refine m_putI fl_R_1 rfl (fun _ _ _ h => by cases h; exact Or.inl rfl) sh119 (a_dec_at dc_R_can 2 rfl) ?_
  refine ev_aload_n (i := 0) rfl rfl (a_dec_at dc_R_can 3 rfl) ?_
  refine ev_iload_n (i := 1) rfl rfl (a_dec_at dc_R_can 4 rfl) ?_
  refine ev_i2l (a_dec_at dc_R_can 5 rfl) ?_
  refine cV1I cs_R_233 sh119 rfl (Nat.le_of_ble_eq_true rfl) (Nat.le_of_ble_eq_true rfl) (a_dec_at dc_R_can 6 rfl) ?_
  refine CI.mono (fun x1 mi1 ml1 z1 H => ?_) H
  refine ev_if_ne (tgt := 17) (a_dec_at dc_R_can 7 rfl) (by decide) (fun b2 => ?_) (fun b2 => ?_)
  · have H := H.1 b2
    refine ev_aload_n (i := 0) rfl rfl (a_dec_at dc_R_can 10 rfl) ?_
    refine cV0V cs_R_380 sh119 rfl (Nat.le_of_ble_eq_true rfl) (Nat.le_of_ble_eq_true rfl) (a_dec_at dc_R_can 11 rfl) ?_
    refine CV.mono (fun mi3 ml3 z3 H => ?_) H
    refine ev_iconst (v := 0) rfl (a_dec_at dc_R_can 12 rfl) ?_
    refine ev_istore_n (i := 2) rfl (by decide) rfl (a_dec_at dc_R_can 13 rfl) ?_
    refine ev_iconst (v := 0) rfl (a_dec_at dc_R_can 14 rfl) ?_
    refine ev_istore_n (i := 3) rfl (by decide) rfl (a_dec_at dc_R_can 15 rfl) ?_
    exact Ev.drop (L' := [.ref 119, .int a1, .int 0, .int 0]) (And.intro rfl (And.intro rfl (And.intro rfl (And.intro rfl trivial)))) H
  · have H := H.2 b2
    refine ev_bipush (v := (-2)) rfl (a_dec_at dc_R_can 8 rfl) ?_
    exact m_retI (a_dec_at dc_R_can 9 rfl) rfl rfl H
set_option maxRecDepth 20000 in
theorem t_R_can_25 {l : Launch} {h : Nat} (mi : TMi) (ml : TMl) (z : Nat) (v1 : Int32) (v2 : Int32) (v3 : Int32) {Q : Int32 → TMi → TMl → Nat → Prop} (H : (((mi 119 25) ≤ v3 → Q v2 mi ml z) ∧ (¬ (mi 119 25) ≤ v3 → (vp_in v3 15625) ∧ CI l h m_R_placeIn [.int (mi 130 v3.toNatClampNeg), .int v1] mi ml z (fun x3 mi3 ml3 z3 => ((¬ x3 = (-1) → (vp_in v3 15625) ∧ CI l h m_R_placeIn [.int (mi3 130 v3.toNatClampNeg), .int v1] mi3 ml3 z3 (fun x6 mi6 ml6 z6 => Ev l (h + 1) m_R_can 25 ([.ref 119, .int v1, .int (v2 ||| ((1 : Int32) <<< (x6 &&& 31))), .int (v3 + 1)], [], st mi6 ml6 z6) (qI Q))) ∧ (x3 = (-1) → Ev l (h + 1) m_R_can 25 ([.ref 119, .int v1, .int (v2 ||| 0), .int (v3 + 1)], [], st mi3 ml3 z3) (qI Q))))))) : Ev l (h + 1) m_R_can 25 ([.ref 119, .int v1, .int v2, .int v3], [], st mi ml z) (qI Q) := by
  refine ev_iload_n (i := 3) rfl rfl (a_dec_at dc_R_can 16 rfl) ?_
  refine ev_aload_n (i := 0) rfl rfl (a_dec_at dc_R_can 17 rfl) ?_
  refine m_getI fl_R_365 rfl sh119 (a_dec_at dc_R_can 18 rfl) ?_
  refine ev_icmp_ge (tgt := 72) (a_dec_at dc_R_can 19 rfl) (by decide) (fun b1 => ?_) (fun b1 => ?_)
  · have H := H.1 b1
    refine ev_iload_n (i := 2) rfl rfl (a_dec_at dc_R_can 43 rfl) ?_
    exact m_retI (a_dec_at dc_R_can 44 rfl) rfl rfl H
  · have H := H.2 b1
    refine ev_iload_n (i := 2) rfl rfl (a_dec_at dc_R_can 20 rfl) ?_
    refine ev_aload_n (i := 0) rfl rfl (a_dec_at dc_R_can 21 rfl) ?_
    refine m_getR (y := 130) fl_R_48 rfl sh119 (mr_119_24 _) (by decide) (a_dec_at dc_R_can 22 rfl) ?_
    refine ev_iload_n (i := 3) rfl rfl (a_dec_at dc_R_can 23 rfl) ?_
    obtain ⟨c2, H⟩ := H
    refine w_iald (k := v3.toNatClampNeg) sh130 c2 rfl (a_dec_at dc_R_can 24 rfl) ?_
    refine ev_iload_n (i := 1) rfl rfl (a_dec_at dc_R_can 25 rfl) ?_
    refine cS2I cs_R_377 rfl (Nat.le_of_ble_eq_true rfl) (Nat.le_of_ble_eq_true rfl) (a_dec_at dc_R_can 26 rfl) ?_
    refine CI.mono (fun x3 mi3 ml3 z3 H => ?_) H
    refine ev_iconst (v := (-1)) rfl (a_dec_at dc_R_can 27 rfl) ?_
    refine ev_icmp_ne (tgt := 52) (a_dec_at dc_R_can 28 rfl) (by decide) (fun b4 => ?_) (fun b4 => ?_)
    · have H := H.1 b4
      refine ev_iconst (v := 1) rfl (a_dec_at dc_R_can 31 rfl) ?_
      refine ev_aload_n (i := 0) rfl rfl (a_dec_at dc_R_can 32 rfl) ?_
      refine m_getR (y := 130) fl_R_48 rfl sh119 (mr_119_24 _) (by decide) (a_dec_at dc_R_can 33 rfl) ?_
      refine ev_iload_n (i := 3) rfl rfl (a_dec_at dc_R_can 34 rfl) ?_
      obtain ⟨c5, H⟩ := H
      refine w_iald (k := v3.toNatClampNeg) sh130 c5 rfl (a_dec_at dc_R_can 35 rfl) ?_
      refine ev_iload_n (i := 1) rfl rfl (a_dec_at dc_R_can 36 rfl) ?_
      refine cS2I cs_R_377 rfl (Nat.le_of_ble_eq_true rfl) (Nat.le_of_ble_eq_true rfl) (a_dec_at dc_R_can 37 rfl) ?_
      refine CI.mono (fun x6 mi6 ml6 z6 H => ?_) H
      refine ev_ishl (a_dec_at dc_R_can 38 rfl) ?_
      refine ev_ior (a_dec_at dc_R_can 39 rfl) ?_
      refine ev_istore_n (i := 2) rfl (by decide) rfl (a_dec_at dc_R_can 40 rfl) ?_
      refine ev_iinc (v := 1) rfl rfl (by decide) rfl (a_dec_at dc_R_can 41 rfl) ?_
      refine ev_goto (tgt := 25) (a_dec_at dc_R_can 42 rfl) (by decide) ?_
      exact Ev.drop (L' := [.ref 119, .int v1, .int (v2 ||| ((1 : Int32) <<< (x6 &&& 31))), .int (v3 + 1)]) (And.intro rfl (And.intro rfl (And.intro rfl (And.intro rfl trivial)))) H
    · have H := H.2 b4
      refine ev_iconst (v := 0) rfl (a_dec_at dc_R_can 29 rfl) ?_
      refine ev_goto (tgt := 64) (a_dec_at dc_R_can 30 rfl) (by decide) ?_
      refine ev_ior (a_dec_at dc_R_can 39 rfl) ?_
      refine ev_istore_n (i := 2) rfl (by decide) rfl (a_dec_at dc_R_can 40 rfl) ?_
      refine ev_iinc (v := 1) rfl rfl (by decide) rfl (a_dec_at dc_R_can 41 rfl) ?_
      refine ev_goto (tgt := 25) (a_dec_at dc_R_can 42 rfl) (by decide) ?_
      exact Ev.drop (L' := [.ref 119, .int v1, .int (v2 ||| 0), .int (v3 + 1)]) (And.intro rfl (And.intro rfl (And.intro rfl (And.intro rfl trivial)))) H
set_option maxRecDepth 20000 in
theorem t_R_sure {l : Launch} {h : Nat} (mi : TMi) (ml : TMl) (z : Nat) {Q : Int32 → TMi → TMl → Nat → Prop} (H : CV l h m_R_laysHeld [.ref 119] (up mi 119 0 0) ml z (fun mi1 ml1 z1 => Ev l (h + 1) m_R_sure 13 ([.ref 119, .int 0, .int 0, .retAddr 0, .retAddr 0], [], st mi1 ml1 z1) (qI Q))) : CI l (h + 1) m_R_sure [.ref 119] mi ml z Q := by
  show Ev l (h + 1) m_R_sure 0 ([.ref 119, .retAddr 0, .retAddr 0, .retAddr 0, .retAddr 0], [], st mi ml z) (qI Q)
  refine ev_aload_n (i := 0) rfl rfl (a_dec_at dc_R_sure 0 rfl) ?_
  refine ev_iconst (v := 0) rfl (a_dec_at dc_R_sure 1 rfl) ?_
  refine m_putI fl_R_1 rfl (fun _ _ _ h => by cases h; exact Or.inl rfl) sh119 (a_dec_at dc_R_sure 2 rfl) ?_
  refine ev_aload_n (i := 0) rfl rfl (a_dec_at dc_R_sure 3 rfl) ?_
  refine cV0V cs_R_380 sh119 rfl (Nat.le_of_ble_eq_true rfl) (Nat.le_of_ble_eq_true rfl) (a_dec_at dc_R_sure 4 rfl) ?_
  refine CV.mono (fun mi1 ml1 z1 H => ?_) H
  refine ev_iconst (v := 0) rfl (a_dec_at dc_R_sure 5 rfl) ?_
  refine ev_istore_n (i := 1) rfl (by decide) rfl (a_dec_at dc_R_sure 6 rfl) ?_
  refine ev_iconst (v := 0) rfl (a_dec_at dc_R_sure 7 rfl) ?_
  refine ev_istore_n (i := 2) rfl (by decide) rfl (a_dec_at dc_R_sure 8 rfl) ?_
  exact Ev.drop (L' := [.ref 119, .int 0, .int 0, .retAddr 0, .retAddr 0]) (And.intro rfl (And.intro rfl (And.intro rfl trivial))) H
set_option maxRecDepth 20000 in
theorem t_R_sure_13 {l : Launch} {h : Nat} (mi : TMi) (ml : TMl) (z : Nat) (v1 : Int32) (v2 : Int32) {Q : Int32 → TMi → TMl → Nat → Prop} (H : (((mi 120 1) ≤ v2 → Q v1 mi ml z) ∧ (¬ (mi 120 1) ≤ v2 → Ev l (h + 1) m_R_sure 28 ([.ref 119, .int v1, .int v2, .int 1, .int 1], [], st mi ml z) (qI Q)))) : Ev l (h + 1) m_R_sure 13 ([.ref 119, .int v1, .int v2, .retAddr 0, .retAddr 0], [], st mi ml z) (qI Q) := by
  refine ev_iload_n (i := 2) rfl rfl (a_dec_at dc_R_sure 9 rfl) ?_
  refine ev_aload_n (i := 0) rfl rfl (a_dec_at dc_R_sure 10 rfl) ?_
  refine m_getR (y := 120) fl_R_13 rfl sh119 (mr_119_1 _) (by decide) (a_dec_at dc_R_sure 11 rfl) ?_
  refine ev_iconst (v := 1) rfl (a_dec_at dc_R_sure 12 rfl) ?_
  refine w_iald (k := 1) sh120 (by unfold vp_in; decide) (by decide) (a_dec_at dc_R_sure 13 rfl) ?_
  refine ev_icmp_ge (tgt := 95) (a_dec_at dc_R_sure 14 rfl) (by decide) (fun b1 => ?_) (fun b1 => ?_)
  · have H := H.1 b1
    refine ev_iload_n (i := 1) rfl rfl (a_dec_at dc_R_sure 56 rfl) ?_
    exact m_retI (a_dec_at dc_R_sure 57 rfl) rfl rfl H
  · have H := H.2 b1
    refine ev_iconst (v := 1) rfl (a_dec_at dc_R_sure 15 rfl) ?_
    refine ev_istore_n (i := 3) rfl (by decide) rfl (a_dec_at dc_R_sure 16 rfl) ?_
    refine ev_iconst (v := 1) rfl (a_dec_at dc_R_sure 17 rfl) ?_
    refine ev_istore (by decide) rfl (a_dec_at dc_R_sure 18 rfl) ?_
    exact Ev.drop (L' := [.ref 119, .int v1, .int v2, .int 1, .int 1]) (And.intro rfl (And.intro rfl (And.intro rfl (And.intro rfl (And.intro rfl trivial))))) H
set_option maxRecDepth 20000 in
theorem t_R_sure_28 {l : Launch} {h : Nat} (mi : TMi) (ml : TMl) (z : Nat) (v1 : Int32) (v2 : Int32) (v3 : Int32) (v4 : Int32) {Q : Int32 → TMi → TMl → Nat → Prop} (H : (((mi 119 25) ≤ v4 → ((v3 = 0 → Ev l (h + 1) m_R_sure 13 ([.ref 119, .int (v1 ||| 0), .int (v2 + 1), .retAddr 0, .retAddr 0], [], st mi ml z) (qI Q)) ∧ (¬ v3 = 0 → Ev l (h + 1) m_R_sure 13 ([.ref 119, .int (v1 ||| ((1 : Int32) <<< (v2 &&& 31))), .int (v2 + 1), .retAddr 0, .retAddr 0], [], st mi ml z) (qI Q)))) ∧ (¬ (mi 119 25) ≤ v4 → (vp_in v4 15625) ∧ CI l h m_R_placeIn [.int (mi 130 v4.toNatClampNeg), .int v2] mi ml z (fun x4 mi4 ml4 z4 => CI l h m_R_placeIn [.int (mi4 130 0), .int v2] mi4 ml4 z4 (fun x5 mi5 ml5 z5 => ((¬ x4 = x5 → Ev l (h + 1) m_R_sure 28 ([.ref 119, .int v1, .int v2, .int (v3 &&& 0), .int (v4 + 1)], [], st mi5 ml5 z5) (qI Q)) ∧ (x4 = x5 → Ev l (h + 1) m_R_sure 28 ([.ref 119, .int v1, .int v2, .int (v3 &&& 1), .int (v4 + 1)], [], st mi5 ml5 z5) (qI Q)))))))) : Ev l (h + 1) m_R_sure 28 ([.ref 119, .int v1, .int v2, .int v3, .int v4], [], st mi ml z) (qI Q) := by
  refine ev_iload rfl (a_dec_at dc_R_sure 19 rfl) ?_
  refine ev_aload_n (i := 0) rfl rfl (a_dec_at dc_R_sure 20 rfl) ?_
  refine m_getI fl_R_365 rfl sh119 (a_dec_at dc_R_sure 21 rfl) ?_
  refine ev_icmp_ge (tgt := 75) (a_dec_at dc_R_sure 22 rfl) (by decide) (fun b1 => ?_) (fun b1 => ?_)
  · have H := H.1 b1
    refine ev_iload_n (i := 1) rfl rfl (a_dec_at dc_R_sure 44 rfl) ?_
    refine ev_iload_n (i := 3) rfl rfl (a_dec_at dc_R_sure 45 rfl) ?_
    refine ev_if_eq (tgt := 86) (a_dec_at dc_R_sure 46 rfl) (by decide) (fun b2 => ?_) (fun b2 => ?_)
    · have H := H.1 b2
      refine ev_iconst (v := 0) rfl (a_dec_at dc_R_sure 51 rfl) ?_
      refine ev_ior (a_dec_at dc_R_sure 52 rfl) ?_
      refine ev_istore_n (i := 1) rfl (by decide) rfl (a_dec_at dc_R_sure 53 rfl) ?_
      refine ev_iinc (v := 1) rfl rfl (by decide) rfl (a_dec_at dc_R_sure 54 rfl) ?_
      refine ev_goto (tgt := 13) (a_dec_at dc_R_sure 55 rfl) (by decide) ?_
      exact Ev.drop (L' := [.ref 119, .int (v1 ||| 0), .int (v2 + 1), .retAddr 0, .retAddr 0]) (And.intro rfl (And.intro rfl (And.intro rfl trivial))) H
    · have H := H.2 b2
      refine ev_iconst (v := 1) rfl (a_dec_at dc_R_sure 47 rfl) ?_
      refine ev_iload_n (i := 2) rfl rfl (a_dec_at dc_R_sure 48 rfl) ?_
      refine ev_ishl (a_dec_at dc_R_sure 49 rfl) ?_
      refine ev_goto (tgt := 87) (a_dec_at dc_R_sure 50 rfl) (by decide) ?_
      refine ev_ior (a_dec_at dc_R_sure 52 rfl) ?_
      refine ev_istore_n (i := 1) rfl (by decide) rfl (a_dec_at dc_R_sure 53 rfl) ?_
      refine ev_iinc (v := 1) rfl rfl (by decide) rfl (a_dec_at dc_R_sure 54 rfl) ?_
      refine ev_goto (tgt := 13) (a_dec_at dc_R_sure 55 rfl) (by decide) ?_
      exact Ev.drop (L' := [.ref 119, .int (v1 ||| ((1 : Int32) <<< (v2 &&& 31))), .int (v2 + 1), .retAddr 0, .retAddr 0]) (And.intro rfl (And.intro rfl (And.intro rfl trivial))) H
  · have H := H.2 b1
    refine ev_iload_n (i := 3) rfl rfl (a_dec_at dc_R_sure 23 rfl) ?_
    refine ev_aload_n (i := 0) rfl rfl (a_dec_at dc_R_sure 24 rfl) ?_
    refine m_getR (y := 130) fl_R_48 rfl sh119 (mr_119_24 _) (by decide) (a_dec_at dc_R_sure 25 rfl) ?_
    refine ev_iload rfl (a_dec_at dc_R_sure 26 rfl) ?_
    obtain ⟨c3, H⟩ := H
    refine w_iald (k := v4.toNatClampNeg) sh130 c3 rfl (a_dec_at dc_R_sure 27 rfl) ?_
    refine ev_iload_n (i := 2) rfl rfl (a_dec_at dc_R_sure 28 rfl) ?_
    refine cS2I cs_R_377 rfl (Nat.le_of_ble_eq_true rfl) (Nat.le_of_ble_eq_true rfl) (a_dec_at dc_R_sure 29 rfl) ?_
    refine CI.mono (fun x4 mi4 ml4 z4 H => ?_) H
    refine ev_aload_n (i := 0) rfl rfl (a_dec_at dc_R_sure 30 rfl) ?_
    refine m_getR (y := 130) fl_R_48 rfl sh119 (mr_119_24 _) (by decide) (a_dec_at dc_R_sure 31 rfl) ?_
    refine ev_iconst (v := 0) rfl (a_dec_at dc_R_sure 32 rfl) ?_
    refine w_iald (k := 0) sh130 (by unfold vp_in; decide) (by decide) (a_dec_at dc_R_sure 33 rfl) ?_
    refine ev_iload_n (i := 2) rfl rfl (a_dec_at dc_R_sure 34 rfl) ?_
    refine cS2I cs_R_377 rfl (Nat.le_of_ble_eq_true rfl) (Nat.le_of_ble_eq_true rfl) (a_dec_at dc_R_sure 35 rfl) ?_
    refine CI.mono (fun x5 mi5 ml5 z5 H => ?_) H
    refine ev_icmp_ne (tgt := 66) (a_dec_at dc_R_sure 36 rfl) (by decide) (fun b6 => ?_) (fun b6 => ?_)
    · have H := H.1 b6
      refine ev_iconst (v := 0) rfl (a_dec_at dc_R_sure 39 rfl) ?_
      refine ev_iand (a_dec_at dc_R_sure 40 rfl) ?_
      refine ev_istore_n (i := 3) rfl (by decide) rfl (a_dec_at dc_R_sure 41 rfl) ?_
      refine ev_iinc (v := 1) rfl rfl (by decide) rfl (a_dec_at dc_R_sure 42 rfl) ?_
      refine ev_goto (tgt := 28) (a_dec_at dc_R_sure 43 rfl) (by decide) ?_
      exact Ev.drop (L' := [.ref 119, .int v1, .int v2, .int (v3 &&& 0), .int (v4 + 1)]) (And.intro rfl (And.intro rfl (And.intro rfl (And.intro rfl (And.intro rfl trivial))))) H
    · have H := H.2 b6
      refine ev_iconst (v := 1) rfl (a_dec_at dc_R_sure 37 rfl) ?_
      refine ev_goto (tgt := 67) (a_dec_at dc_R_sure 38 rfl) (by decide) ?_
      refine ev_iand (a_dec_at dc_R_sure 40 rfl) ?_
      refine ev_istore_n (i := 3) rfl (by decide) rfl (a_dec_at dc_R_sure 41 rfl) ?_
      refine ev_iinc (v := 1) rfl rfl (by decide) rfl (a_dec_at dc_R_sure 42 rfl) ?_
      refine ev_goto (tgt := 28) (a_dec_at dc_R_sure 43 rfl) (by decide) ?_
      exact Ev.drop (L' := [.ref 119, .int v1, .int v2, .int (v3 &&& 1), .int (v4 + 1)]) (And.intro rfl (And.intro rfl (And.intro rfl (And.intro rfl (And.intro rfl trivial))))) H
set_option maxRecDepth 20000 in
theorem t_R_fairest {l : Launch} {h : Nat} (mi : TMi) (ml : TMl) (z : Nat) {Q : Int32 → TMi → TMl → Nat → Prop} (H : CV l h m_R_laysHeld [.ref 119] (up mi 119 0 0) ml z (fun mi1 ml1 z1 => Ev l (h + 1) m_R_fairest 17 ([.ref 119, .int (-1), .int 268435456, .int 0, .retAddr 0, .retAddr 0], [], st mi1 ml1 z1) (qI Q))) : CI l (h + 1) m_R_fairest [.ref 119] mi ml z Q := by
  show Ev l (h + 1) m_R_fairest 0 ([.ref 119, .retAddr 0, .retAddr 0, .retAddr 0, .retAddr 0, .retAddr 0], [], st mi ml z) (qI Q)
  refine ev_aload_n (i := 0) rfl rfl (a_dec_at dc_R_fairest 0 rfl) ?_
  refine ev_iconst (v := 0) rfl (a_dec_at dc_R_fairest 1 rfl) ?_
  refine m_putI fl_R_1 rfl (fun _ _ _ h => by cases h; exact Or.inl rfl) sh119 (a_dec_at dc_R_fairest 2 rfl) ?_
  refine ev_aload_n (i := 0) rfl rfl (a_dec_at dc_R_fairest 3 rfl) ?_
  refine cV0V cs_R_380 sh119 rfl (Nat.le_of_ble_eq_true rfl) (Nat.le_of_ble_eq_true rfl) (a_dec_at dc_R_fairest 4 rfl) ?_
  refine CV.mono (fun mi1 ml1 z1 H => ?_) H
  refine ev_iconst (v := (-1)) rfl (a_dec_at dc_R_fairest 5 rfl) ?_
  refine ev_istore_n (i := 1) rfl (by decide) rfl (a_dec_at dc_R_fairest 6 rfl) ?_
  refine ev_ldcw kc_R_387 (a_dec_at dc_R_fairest 7 rfl) ?_
  refine ev_istore_n (i := 2) rfl (by decide) rfl (a_dec_at dc_R_fairest 8 rfl) ?_
  refine ev_iconst (v := 0) rfl (a_dec_at dc_R_fairest 9 rfl) ?_
  refine ev_istore_n (i := 3) rfl (by decide) rfl (a_dec_at dc_R_fairest 10 rfl) ?_
  exact Ev.drop (L' := [.ref 119, .int (-1), .int 268435456, .int 0, .retAddr 0, .retAddr 0]) (And.intro rfl (And.intro rfl (And.intro rfl (And.intro rfl trivial)))) H
set_option maxRecDepth 20000 in
theorem t_R_fairest_17 {l : Launch} {h : Nat} (mi : TMi) (ml : TMl) (z : Nat) (v1 : Int32) (v2 : Int32) (v3 : Int32) {Q : Int32 → TMi → TMl → Nat → Prop} (H : (((mi 119 25) ≤ v3 → Q v1 mi ml z) ∧ (¬ (mi 119 25) ≤ v3 → Ev l (h + 1) m_R_fairest 31 ([.ref 119, .int v1, .int v2, .int v3, .int 0, .int 0], [], st mi ml z) (qI Q)))) : Ev l (h + 1) m_R_fairest 17 ([.ref 119, .int v1, .int v2, .int v3, .retAddr 0, .retAddr 0], [], st mi ml z) (qI Q) := by
  refine ev_iload_n (i := 3) rfl rfl (a_dec_at dc_R_fairest 11 rfl) ?_
  refine ev_aload_n (i := 0) rfl rfl (a_dec_at dc_R_fairest 12 rfl) ?_
  refine m_getI fl_R_365 rfl sh119 (a_dec_at dc_R_fairest 13 rfl) ?_
  refine ev_icmp_ge (tgt := 119) (a_dec_at dc_R_fairest 14 rfl) (by decide) (fun b1 => ?_) (fun b1 => ?_)
  · have H := H.1 b1
    refine ev_iload_n (i := 1) rfl rfl (a_dec_at dc_R_fairest 63 rfl) ?_
    exact m_retI (a_dec_at dc_R_fairest 64 rfl) rfl rfl H
  · have H := H.2 b1
    refine ev_iconst (v := 0) rfl (a_dec_at dc_R_fairest 15 rfl) ?_
    refine ev_istore (by decide) rfl (a_dec_at dc_R_fairest 16 rfl) ?_
    refine ev_iconst (v := 0) rfl (a_dec_at dc_R_fairest 17 rfl) ?_
    refine ev_istore (by decide) rfl (a_dec_at dc_R_fairest 18 rfl) ?_
    exact Ev.drop (L' := [.ref 119, .int v1, .int v2, .int v3, .int 0, .int 0]) (And.intro rfl (And.intro rfl (And.intro rfl (And.intro rfl (And.intro rfl (And.intro rfl trivial)))))) H
set_option maxRecDepth 20000 in
theorem t_R_fairest_31 {l : Launch} {h : Nat} (mi : TMi) (ml : TMl) (z : Nat) (v1 : Int32) (v2 : Int32) (v3 : Int32) (v4 : Int32) (v5 : Int32) {Q : Int32 → TMi → TMl → Nat → Prop} (H : (((mi 120 1) ≤ v5 → ((v4 < v2 → (vp_in v3 15625) ∧ Ev l (h + 1) m_R_fairest 17 ([.ref 119, .int (mi 130 v3.toNatClampNeg), .int v4, .int (v3 + 1), .retAddr 0, .retAddr 0], [], st mi ml z) (qI Q)) ∧ (¬ v4 < v2 → Ev l (h + 1) m_R_fairest 17 ([.ref 119, .int v1, .int v2, .int (v3 + 1), .retAddr 0, .retAddr 0], [], st mi ml z) (qI Q)))) ∧ (¬ (mi 120 1) ≤ v5 → (vp_in v3 15625) ∧ CI l h m_R_placeIn [.int (mi 130 v3.toNatClampNeg), .int v5] mi ml z (fun x5 mi5 ml5 z5 => CI l h m_R_rankOf [.ref 119, .int v5, .int x5] mi5 ml5 z5 (fun x6 mi6 ml6 z6 => ((x6 ≤ v4 → Ev l (h + 1) m_R_fairest 31 ([.ref 119, .int v1, .int v2, .int v3, .int v4, .int (v5 + 1)], [], st mi6 ml6 z6) (qI Q)) ∧ (¬ x6 ≤ v4 → (vp_in v3 15625) ∧ CI l h m_R_placeIn [.int (mi6 130 v3.toNatClampNeg), .int v5] mi6 ml6 z6 (fun x9 mi9 ml9 z9 => CI l h m_R_rankOf [.ref 119, .int v5, .int x9] mi9 ml9 z9 (fun x10 mi10 ml10 z10 => Ev l (h + 1) m_R_fairest 31 ([.ref 119, .int v1, .int v2, .int v3, .int x10, .int (v5 + 1)], [], st mi10 ml10 z10) (qI Q)))))))))) : Ev l (h + 1) m_R_fairest 31 ([.ref 119, .int v1, .int v2, .int v3, .int v4, .int v5], [], st mi ml z) (qI Q) := by
  refine ev_iload rfl (a_dec_at dc_R_fairest 19 rfl) ?_
  refine ev_aload_n (i := 0) rfl rfl (a_dec_at dc_R_fairest 20 rfl) ?_
  refine m_getR (y := 120) fl_R_13 rfl sh119 (mr_119_1 _) (by decide) (a_dec_at dc_R_fairest 21 rfl) ?_
  refine ev_iconst (v := 1) rfl (a_dec_at dc_R_fairest 22 rfl) ?_
  refine w_iald (k := 1) sh120 (by unfold vp_in; decide) (by decide) (a_dec_at dc_R_fairest 23 rfl) ?_
  refine ev_icmp_ge (tgt := 94) (a_dec_at dc_R_fairest 24 rfl) (by decide) (fun b1 => ?_) (fun b1 => ?_)
  · have H := H.1 b1
    refine ev_iload rfl (a_dec_at dc_R_fairest 50 rfl) ?_
    refine ev_iload_n (i := 2) rfl rfl (a_dec_at dc_R_fairest 51 rfl) ?_
    refine ev_icmp_lt (tgt := 103) (a_dec_at dc_R_fairest 52 rfl) (by decide) (fun b2 => ?_) (fun b2 => ?_)
    · have H := H.1 b2
      refine ev_aload_n (i := 0) rfl rfl (a_dec_at dc_R_fairest 54 rfl) ?_
      refine m_getR (y := 130) fl_R_48 rfl sh119 (mr_119_24 _) (by decide) (a_dec_at dc_R_fairest 55 rfl) ?_
      refine ev_iload_n (i := 3) rfl rfl (a_dec_at dc_R_fairest 56 rfl) ?_
      obtain ⟨c3, H⟩ := H
      refine w_iald (k := v3.toNatClampNeg) sh130 c3 rfl (a_dec_at dc_R_fairest 57 rfl) ?_
      refine ev_istore_n (i := 1) rfl (by decide) rfl (a_dec_at dc_R_fairest 58 rfl) ?_
      refine ev_iload rfl (a_dec_at dc_R_fairest 59 rfl) ?_
      refine ev_istore_n (i := 2) rfl (by decide) rfl (a_dec_at dc_R_fairest 60 rfl) ?_
      refine ev_iinc (v := 1) rfl rfl (by decide) rfl (a_dec_at dc_R_fairest 61 rfl) ?_
      refine ev_goto (tgt := 17) (a_dec_at dc_R_fairest 62 rfl) (by decide) ?_
      exact Ev.drop (L' := [.ref 119, .int (mi 130 v3.toNatClampNeg), .int v4, .int (v3 + 1), .retAddr 0, .retAddr 0]) (And.intro rfl (And.intro rfl (And.intro rfl (And.intro rfl trivial)))) H
    · have H := H.2 b2
      refine ev_goto (tgt := 113) (a_dec_at dc_R_fairest 53 rfl) (by decide) ?_
      refine ev_iinc (v := 1) rfl rfl (by decide) rfl (a_dec_at dc_R_fairest 61 rfl) ?_
      refine ev_goto (tgt := 17) (a_dec_at dc_R_fairest 62 rfl) (by decide) ?_
      exact Ev.drop (L' := [.ref 119, .int v1, .int v2, .int (v3 + 1), .retAddr 0, .retAddr 0]) (And.intro rfl (And.intro rfl (And.intro rfl (And.intro rfl trivial)))) H
  · have H := H.2 b1
    refine ev_aload_n (i := 0) rfl rfl (a_dec_at dc_R_fairest 25 rfl) ?_
    refine ev_iload rfl (a_dec_at dc_R_fairest 26 rfl) ?_
    refine ev_aload_n (i := 0) rfl rfl (a_dec_at dc_R_fairest 27 rfl) ?_
    refine m_getR (y := 130) fl_R_48 rfl sh119 (mr_119_24 _) (by decide) (a_dec_at dc_R_fairest 28 rfl) ?_
    refine ev_iload_n (i := 3) rfl rfl (a_dec_at dc_R_fairest 29 rfl) ?_
    obtain ⟨c4, H⟩ := H
    refine w_iald (k := v3.toNatClampNeg) sh130 c4 rfl (a_dec_at dc_R_fairest 30 rfl) ?_
    refine ev_iload rfl (a_dec_at dc_R_fairest 31 rfl) ?_
    refine cS2I cs_R_377 rfl (Nat.le_of_ble_eq_true rfl) (Nat.le_of_ble_eq_true rfl) (a_dec_at dc_R_fairest 32 rfl) ?_
    refine CI.mono (fun x5 mi5 ml5 z5 H => ?_) H
    refine cV2I cs_R_388 sh119 rfl (Nat.le_of_ble_eq_true rfl) (Nat.le_of_ble_eq_true rfl) (a_dec_at dc_R_fairest 33 rfl) ?_
    refine CI.mono (fun x6 mi6 ml6 z6 H => ?_) H
    refine ev_iload rfl (a_dec_at dc_R_fairest 34 rfl) ?_
    refine ev_icmp_le (tgt := 84) (a_dec_at dc_R_fairest 35 rfl) (by decide) (fun b7 => ?_) (fun b7 => ?_)
    · have H := H.1 b7
      refine ev_iload rfl (a_dec_at dc_R_fairest 46 rfl) ?_
      refine ev_istore (by decide) rfl (a_dec_at dc_R_fairest 47 rfl) ?_
      refine ev_iinc (v := 1) rfl rfl (by decide) rfl (a_dec_at dc_R_fairest 48 rfl) ?_
      refine ev_goto (tgt := 31) (a_dec_at dc_R_fairest 49 rfl) (by decide) ?_
      exact Ev.drop (L' := [.ref 119, .int v1, .int v2, .int v3, .int v4, .int (v5 + 1)]) (And.intro rfl (And.intro rfl (And.intro rfl (And.intro rfl (And.intro rfl (And.intro rfl trivial)))))) H
    · have H := H.2 b7
      refine ev_aload_n (i := 0) rfl rfl (a_dec_at dc_R_fairest 36 rfl) ?_
      refine ev_iload rfl (a_dec_at dc_R_fairest 37 rfl) ?_
      refine ev_aload_n (i := 0) rfl rfl (a_dec_at dc_R_fairest 38 rfl) ?_
      refine m_getR (y := 130) fl_R_48 rfl sh119 (mr_119_24 _) (by decide) (a_dec_at dc_R_fairest 39 rfl) ?_
      refine ev_iload_n (i := 3) rfl rfl (a_dec_at dc_R_fairest 40 rfl) ?_
      obtain ⟨c8, H⟩ := H
      refine w_iald (k := v3.toNatClampNeg) sh130 c8 rfl (a_dec_at dc_R_fairest 41 rfl) ?_
      refine ev_iload rfl (a_dec_at dc_R_fairest 42 rfl) ?_
      refine cS2I cs_R_377 rfl (Nat.le_of_ble_eq_true rfl) (Nat.le_of_ble_eq_true rfl) (a_dec_at dc_R_fairest 43 rfl) ?_
      refine CI.mono (fun x9 mi9 ml9 z9 H => ?_) H
      refine cV2I cs_R_388 sh119 rfl (Nat.le_of_ble_eq_true rfl) (Nat.le_of_ble_eq_true rfl) (a_dec_at dc_R_fairest 44 rfl) ?_
      refine CI.mono (fun x10 mi10 ml10 z10 H => ?_) H
      refine ev_goto (tgt := 86) (a_dec_at dc_R_fairest 45 rfl) (by decide) ?_
      refine ev_istore (by decide) rfl (a_dec_at dc_R_fairest 47 rfl) ?_
      refine ev_iinc (v := 1) rfl rfl (by decide) rfl (a_dec_at dc_R_fairest 48 rfl) ?_
      refine ev_goto (tgt := 31) (a_dec_at dc_R_fairest 49 rfl) (by decide) ?_
      exact Ev.drop (L' := [.ref 119, .int v1, .int v2, .int v3, .int x10, .int (v5 + 1)]) (And.intro rfl (And.intro rfl (And.intro rfl (And.intro rfl (And.intro rfl (And.intro rfl trivial)))))) H
set_option maxRecDepth 20000 in
theorem t_R_rankOf {l : Launch} {h : Nat} (mi : TMi) (ml : TMl) (z : Nat) (a1 : Int32) (a2 : Int32) {Q : Int32 → TMi → TMl → Nat → Prop} (H : ((¬ a2 = (-1) → Ev l (h + 1) m_R_rankOf 13 ([.ref 119, .int a1, .int a2, .int 0, .int 0], [], st mi ml z) (qI Q)) ∧ (a2 = (-1) → Q 9 mi ml z))) : CI l (h + 1) m_R_rankOf [.ref 119, .int a1, .int a2] mi ml z Q := by
  show Ev l (h + 1) m_R_rankOf 0 ([.ref 119, .int a1, .int a2, .retAddr 0, .retAddr 0], [], st mi ml z) (qI Q)
  refine ev_iload_n (i := 2) rfl rfl (a_dec_at dc_R_rankOf 0 rfl) ?_
  refine ev_iconst (v := (-1)) rfl (a_dec_at dc_R_rankOf 1 rfl) ?_
  refine ev_icmp_ne (tgt := 8) (a_dec_at dc_R_rankOf 2 rfl) (by decide) (fun b1 => ?_) (fun b1 => ?_)
  · have H := H.1 b1
    refine ev_iconst (v := 0) rfl (a_dec_at dc_R_rankOf 5 rfl) ?_
    refine ev_istore_n (i := 3) rfl (by decide) rfl (a_dec_at dc_R_rankOf 6 rfl) ?_
    refine ev_iconst (v := 0) rfl (a_dec_at dc_R_rankOf 7 rfl) ?_
    refine ev_istore (by decide) rfl (a_dec_at dc_R_rankOf 8 rfl) ?_
    exact Ev.drop (L' := [.ref 119, .int a1, .int a2, .int 0, .int 0]) (And.intro rfl (And.intro rfl (And.intro rfl (And.intro rfl (And.intro rfl trivial))))) H
  · have H := H.2 b1
    refine ev_bipush (v := 9) rfl (a_dec_at dc_R_rankOf 3 rfl) ?_
    exact m_retI (a_dec_at dc_R_rankOf 4 rfl) rfl rfl H
set_option maxRecDepth 20000 in
theorem t_R_rankOf_13 {l : Launch} {h : Nat} (mi : TMi) (ml : TMl) (z : Nat) (v1 : Int32) (v2 : Int32) (v3 : Int32) (v4 : Int32) {Q : Int32 → TMi → TMl → Nat → Prop} (H : (((mi 120 2) ≤ v4 → Q v3 mi ml z) ∧ (¬ (mi 120 2) ≤ v4 → ((v4 = v2 → Ev l (h + 1) m_R_rankOf 13 ([.ref 119, .int v1, .int v2, .int (v3 + 0), .int (v4 + 1)], [], st mi ml z) (qI Q)) ∧ (¬ v4 = v2 → CI l h m_R_likesMore [.ref 119, .int v1, .int v4, .int v2] mi ml z (fun x3 mi3 ml3 z3 => ((x3 = 0 → Ev l (h + 1) m_R_rankOf 13 ([.ref 119, .int v1, .int v2, .int (v3 + 0), .int (v4 + 1)], [], st mi3 ml3 z3) (qI Q)) ∧ (¬ x3 = 0 → Ev l (h + 1) m_R_rankOf 13 ([.ref 119, .int v1, .int v2, .int (v3 + 1), .int (v4 + 1)], [], st mi3 ml3 z3) (qI Q))))))))) : Ev l (h + 1) m_R_rankOf 13 ([.ref 119, .int v1, .int v2, .int v3, .int v4], [], st mi ml z) (qI Q) := by
  refine ev_iload rfl (a_dec_at dc_R_rankOf 9 rfl) ?_
  refine ev_aload_n (i := 0) rfl rfl (a_dec_at dc_R_rankOf 10 rfl) ?_
  refine m_getR (y := 120) fl_R_13 rfl sh119 (mr_119_1 _) (by decide) (a_dec_at dc_R_rankOf 11 rfl) ?_
  refine ev_iconst (v := 2) rfl (a_dec_at dc_R_rankOf 12 rfl) ?_
  refine w_iald (k := 2) sh120 (by unfold vp_in; decide) (by decide) (a_dec_at dc_R_rankOf 13 rfl) ?_
  refine ev_icmp_ge (tgt := 55) (a_dec_at dc_R_rankOf 14 rfl) (by decide) (fun b1 => ?_) (fun b1 => ?_)
  · have H := H.1 b1
    refine ev_iload_n (i := 3) rfl rfl (a_dec_at dc_R_rankOf 32 rfl) ?_
    exact m_retI (a_dec_at dc_R_rankOf 33 rfl) rfl rfl H
  · have H := H.2 b1
    refine ev_iload_n (i := 3) rfl rfl (a_dec_at dc_R_rankOf 15 rfl) ?_
    refine ev_iload rfl (a_dec_at dc_R_rankOf 16 rfl) ?_
    refine ev_iload_n (i := 2) rfl rfl (a_dec_at dc_R_rankOf 17 rfl) ?_
    refine ev_icmp_eq (tgt := 46) (a_dec_at dc_R_rankOf 18 rfl) (by decide) (fun b2 => ?_) (fun b2 => ?_)
    · have H := H.1 b2
      refine ev_iconst (v := 0) rfl (a_dec_at dc_R_rankOf 27 rfl) ?_
      refine ev_iadd (a_dec_at dc_R_rankOf 28 rfl) ?_
      refine ev_istore_n (i := 3) rfl (by decide) rfl (a_dec_at dc_R_rankOf 29 rfl) ?_
      refine ev_iinc (v := 1) rfl rfl (by decide) rfl (a_dec_at dc_R_rankOf 30 rfl) ?_
      refine ev_goto (tgt := 13) (a_dec_at dc_R_rankOf 31 rfl) (by decide) ?_
      exact Ev.drop (L' := [.ref 119, .int v1, .int v2, .int (v3 + 0), .int (v4 + 1)]) (And.intro rfl (And.intro rfl (And.intro rfl (And.intro rfl (And.intro rfl trivial))))) H
    · have H := H.2 b2
      refine ev_aload_n (i := 0) rfl rfl (a_dec_at dc_R_rankOf 19 rfl) ?_
      refine ev_iload_n (i := 1) rfl rfl (a_dec_at dc_R_rankOf 20 rfl) ?_
      refine ev_iload rfl (a_dec_at dc_R_rankOf 21 rfl) ?_
      refine ev_iload_n (i := 2) rfl rfl (a_dec_at dc_R_rankOf 22 rfl) ?_
      refine cV3I cs_R_346 sh119 rfl (Nat.le_of_ble_eq_true rfl) (Nat.le_of_ble_eq_true rfl) (a_dec_at dc_R_rankOf 23 rfl) ?_
      refine CI.mono (fun x3 mi3 ml3 z3 H => ?_) H
      refine ev_if_eq (tgt := 46) (a_dec_at dc_R_rankOf 24 rfl) (by decide) (fun b4 => ?_) (fun b4 => ?_)
      · have H := H.1 b4
        refine ev_iconst (v := 0) rfl (a_dec_at dc_R_rankOf 27 rfl) ?_
        refine ev_iadd (a_dec_at dc_R_rankOf 28 rfl) ?_
        refine ev_istore_n (i := 3) rfl (by decide) rfl (a_dec_at dc_R_rankOf 29 rfl) ?_
        refine ev_iinc (v := 1) rfl rfl (by decide) rfl (a_dec_at dc_R_rankOf 30 rfl) ?_
        refine ev_goto (tgt := 13) (a_dec_at dc_R_rankOf 31 rfl) (by decide) ?_
        exact Ev.drop (L' := [.ref 119, .int v1, .int v2, .int (v3 + 0), .int (v4 + 1)]) (And.intro rfl (And.intro rfl (And.intro rfl (And.intro rfl (And.intro rfl trivial))))) H
      · have H := H.2 b4
        refine ev_iconst (v := 1) rfl (a_dec_at dc_R_rankOf 25 rfl) ?_
        refine ev_goto (tgt := 47) (a_dec_at dc_R_rankOf 26 rfl) (by decide) ?_
        refine ev_iadd (a_dec_at dc_R_rankOf 28 rfl) ?_
        refine ev_istore_n (i := 3) rfl (by decide) rfl (a_dec_at dc_R_rankOf 29 rfl) ?_
        refine ev_iinc (v := 1) rfl rfl (by decide) rfl (a_dec_at dc_R_rankOf 30 rfl) ?_
        refine ev_goto (tgt := 13) (a_dec_at dc_R_rankOf 31 rfl) (by decide) ?_
        exact Ev.drop (L' := [.ref 119, .int v1, .int v2, .int (v3 + 1), .int (v4 + 1)]) (And.intro rfl (And.intro rfl (And.intro rfl (And.intro rfl (And.intro rfl trivial))))) H
set_option maxRecDepth 20000 in
theorem t_R_fullest {l : Launch} {h : Nat} (mi : TMi) (ml : TMl) (z : Nat) {Q : Int32 → TMi → TMl → Nat → Prop} (H : CV l h m_R_laysLikes [.ref 119] (up mi 119 0 0) ml z (fun mi1 ml1 z1 => Ev l (h + 1) m_R_fullest 15 ([.ref 119, .int (-1), .int (-1), .int 0, .retAddr 0], [], st mi1 ml1 z1) (qI Q))) : CI l (h + 1) m_R_fullest [.ref 119] mi ml z Q := by
  show Ev l (h + 1) m_R_fullest 0 ([.ref 119, .retAddr 0, .retAddr 0, .retAddr 0, .retAddr 0], [], st mi ml z) (qI Q)
  refine ev_aload_n (i := 0) rfl rfl (a_dec_at dc_R_fullest 0 rfl) ?_
  refine ev_iconst (v := 0) rfl (a_dec_at dc_R_fullest 1 rfl) ?_
  refine m_putI fl_R_1 rfl (fun _ _ _ h => by cases h; exact Or.inl rfl) sh119 (a_dec_at dc_R_fullest 2 rfl) ?_
  refine ev_aload_n (i := 0) rfl rfl (a_dec_at dc_R_fullest 3 rfl) ?_
  refine cV0V cs_R_237 sh119 rfl (Nat.le_of_ble_eq_true rfl) (Nat.le_of_ble_eq_true rfl) (a_dec_at dc_R_fullest 4 rfl) ?_
  refine CV.mono (fun mi1 ml1 z1 H => ?_) H
  refine ev_iconst (v := (-1)) rfl (a_dec_at dc_R_fullest 5 rfl) ?_
  refine ev_istore_n (i := 1) rfl (by decide) rfl (a_dec_at dc_R_fullest 6 rfl) ?_
  refine ev_iconst (v := (-1)) rfl (a_dec_at dc_R_fullest 7 rfl) ?_
  refine ev_istore_n (i := 2) rfl (by decide) rfl (a_dec_at dc_R_fullest 8 rfl) ?_
  refine ev_iconst (v := 0) rfl (a_dec_at dc_R_fullest 9 rfl) ?_
  refine ev_istore_n (i := 3) rfl (by decide) rfl (a_dec_at dc_R_fullest 10 rfl) ?_
  exact Ev.drop (L' := [.ref 119, .int (-1), .int (-1), .int 0, .retAddr 0]) (And.intro rfl (And.intro rfl (And.intro rfl (And.intro rfl trivial)))) H
set_option maxRecDepth 20000 in
theorem t_R_fullest_15 {l : Launch} {h : Nat} (mi : TMi) (ml : TMl) (z : Nat) (v1 : Int32) (v2 : Int32) (v3 : Int32) {Q : Int32 → TMi → TMl → Nat → Prop} (H : CI l h m_R_choicesIn [.ref 119] mi ml z (fun x1 mi1 ml1 z1 => ((x1 ≤ v3 → Q v1 mi1 ml1 z1) ∧ (¬ x1 ≤ v3 → CI l h m_R_laysChoice [.ref 119, .int v3] mi1 ml1 z1 (fun x3 mi3 ml3 z3 => ((x3 = 0 → Ev l (h + 1) m_R_fullest 15 ([.ref 119, .int v1, .int v2, .int (v3 + 1), .retAddr 0], [], st mi3 ml3 z3) (qI Q)) ∧ (¬ x3 = 0 → CI l h m_R_isWanted [.ref 119] mi3 ml3 z3 (fun x5 mi5 ml5 z5 => ((x5 = 0 → Ev l (h + 1) m_R_fullest 15 ([.ref 119, .int v1, .int v2, .int (v3 + 1), .retAddr 0], [], st mi5 ml5 z5) (qI Q)) ∧ (¬ x5 = 0 → CI l h m_R_fitsRooms [.ref 119] mi5 ml5 z5 (fun x7 mi7 ml7 z7 => ((¬ x7 = 0 → CI l h m_R_becksBy [.ref 119, .int (-1)] mi7 ml7 z7 (fun x9 mi9 ml9 z9 => CI l h m_R_bitsOf [.int x9] mi9 ml9 z9 (fun x10 mi10 ml10 z10 => ((v2 < ((mi7 120 1) - x10) → Ev l (h + 1) m_R_fullest 15 ([.ref 119, .int v3, .int ((mi7 120 1) - x10), .int (v3 + 1), .retAddr 0], [], st mi10 ml10 z10) (qI Q)) ∧ (¬ v2 < ((mi7 120 1) - x10) → Ev l (h + 1) m_R_fullest 15 ([.ref 119, .int v1, .int v2, .int (v3 + 1), .retAddr 0], [], st mi10 ml10 z10) (qI Q)))))) ∧ (x7 = 0 → Ev l (h + 1) m_R_fullest 15 ([.ref 119, .int v1, .int v2, .int (v3 + 1), .retAddr 0], [], st mi7 ml7 z7) (qI Q)))))))))))))) : Ev l (h + 1) m_R_fullest 15 ([.ref 119, .int v1, .int v2, .int v3, .retAddr 0], [], st mi ml z) (qI Q) := by
  refine ev_iload_n (i := 3) rfl rfl (a_dec_at dc_R_fullest 11 rfl) ?_
  refine ev_aload_n (i := 0) rfl rfl (a_dec_at dc_R_fullest 12 rfl) ?_
  refine cV0I cs_R_368 sh119 rfl (Nat.le_of_ble_eq_true rfl) (Nat.le_of_ble_eq_true rfl) (a_dec_at dc_R_fullest 13 rfl) ?_
  refine CI.mono (fun x1 mi1 ml1 z1 H => ?_) H
  refine ev_icmp_ge (tgt := 85) (a_dec_at dc_R_fullest 14 rfl) (by decide) (fun b2 => ?_) (fun b2 => ?_)
  · have H := H.1 b2
    refine ev_iload_n (i := 1) rfl rfl (a_dec_at dc_R_fullest 46 rfl) ?_
    exact m_retI (a_dec_at dc_R_fullest 47 rfl) rfl rfl H
  · have H := H.2 b2
    refine ev_aload_n (i := 0) rfl rfl (a_dec_at dc_R_fullest 15 rfl) ?_
    refine ev_iload_n (i := 3) rfl rfl (a_dec_at dc_R_fullest 16 rfl) ?_
    refine cV1I cs_R_371 sh119 rfl (Nat.le_of_ble_eq_true rfl) (Nat.le_of_ble_eq_true rfl) (a_dec_at dc_R_fullest 17 rfl) ?_
    refine CI.mono (fun x3 mi3 ml3 z3 H => ?_) H
    refine ev_if_eq (tgt := 79) (a_dec_at dc_R_fullest 18 rfl) (by decide) (fun b4 => ?_) (fun b4 => ?_)
    · have H := H.1 b4
      refine ev_iinc (v := 1) rfl rfl (by decide) rfl (a_dec_at dc_R_fullest 44 rfl) ?_
      refine ev_goto (tgt := 15) (a_dec_at dc_R_fullest 45 rfl) (by decide) ?_
      exact Ev.drop (L' := [.ref 119, .int v1, .int v2, .int (v3 + 1), .retAddr 0]) (And.intro rfl (And.intro rfl (And.intro rfl (And.intro rfl trivial)))) H
    · have H := H.2 b4
      refine ev_aload_n (i := 0) rfl rfl (a_dec_at dc_R_fullest 19 rfl) ?_
      refine cV0I cs_R_352 sh119 rfl (Nat.le_of_ble_eq_true rfl) (Nat.le_of_ble_eq_true rfl) (a_dec_at dc_R_fullest 20 rfl) ?_
      refine CI.mono (fun x5 mi5 ml5 z5 H => ?_) H
      refine ev_if_eq (tgt := 79) (a_dec_at dc_R_fullest 21 rfl) (by decide) (fun b6 => ?_) (fun b6 => ?_)
      · have H := H.1 b6
        refine ev_iinc (v := 1) rfl rfl (by decide) rfl (a_dec_at dc_R_fullest 44 rfl) ?_
        refine ev_goto (tgt := 15) (a_dec_at dc_R_fullest 45 rfl) (by decide) ?_
        exact Ev.drop (L' := [.ref 119, .int v1, .int v2, .int (v3 + 1), .retAddr 0]) (And.intro rfl (And.intro rfl (And.intro rfl (And.intro rfl trivial)))) H
      · have H := H.2 b6
        refine ev_aload_n (i := 0) rfl rfl (a_dec_at dc_R_fullest 22 rfl) ?_
        refine cV0I cs_R_374 sh119 rfl (Nat.le_of_ble_eq_true rfl) (Nat.le_of_ble_eq_true rfl) (a_dec_at dc_R_fullest 23 rfl) ?_
        refine CI.mono (fun x7 mi7 ml7 z7 H => ?_) H
        refine ev_if_ne (tgt := 48) (a_dec_at dc_R_fullest 24 rfl) (by decide) (fun b8 => ?_) (fun b8 => ?_)
        · have H := H.1 b8
          refine ev_aload_n (i := 0) rfl rfl (a_dec_at dc_R_fullest 26 rfl) ?_
          refine m_getR (y := 120) fl_R_13 rfl sh119 (mr_119_1 _) (by decide) (a_dec_at dc_R_fullest 27 rfl) ?_
          refine ev_iconst (v := 1) rfl (a_dec_at dc_R_fullest 28 rfl) ?_
          refine w_iald (k := 1) sh120 (by unfold vp_in; decide) (by decide) (a_dec_at dc_R_fullest 29 rfl) ?_
          refine ev_aload_n (i := 0) rfl rfl (a_dec_at dc_R_fullest 30 rfl) ?_
          refine ev_iconst (v := (-1)) rfl (a_dec_at dc_R_fullest 31 rfl) ?_
          refine cV1I cs_R_349 sh119 rfl (Nat.le_of_ble_eq_true rfl) (Nat.le_of_ble_eq_true rfl) (a_dec_at dc_R_fullest 32 rfl) ?_
          refine CI.mono (fun x9 mi9 ml9 z9 H => ?_) H
          refine cS1I cs_R_256 rfl (Nat.le_of_ble_eq_true rfl) (Nat.le_of_ble_eq_true rfl) (a_dec_at dc_R_fullest 33 rfl) ?_
          refine CI.mono (fun x10 mi10 ml10 z10 H => ?_) H
          refine ev_isub (a_dec_at dc_R_fullest 34 rfl) ?_
          refine ev_istore (by decide) rfl (a_dec_at dc_R_fullest 35 rfl) ?_
          refine ev_iload rfl (a_dec_at dc_R_fullest 36 rfl) ?_
          refine ev_iload_n (i := 2) rfl rfl (a_dec_at dc_R_fullest 37 rfl) ?_
          refine ev_icmp_gt (tgt := 74) (a_dec_at dc_R_fullest 38 rfl) (by decide) (fun b11 => ?_) (fun b11 => ?_)
          · have H := H.1 b11
            refine ev_iload_n (i := 3) rfl rfl (a_dec_at dc_R_fullest 40 rfl) ?_
            refine ev_istore_n (i := 1) rfl (by decide) rfl (a_dec_at dc_R_fullest 41 rfl) ?_
            refine ev_iload rfl (a_dec_at dc_R_fullest 42 rfl) ?_
            refine ev_istore_n (i := 2) rfl (by decide) rfl (a_dec_at dc_R_fullest 43 rfl) ?_
            refine ev_iinc (v := 1) rfl rfl (by decide) rfl (a_dec_at dc_R_fullest 44 rfl) ?_
            refine ev_goto (tgt := 15) (a_dec_at dc_R_fullest 45 rfl) (by decide) ?_
            exact Ev.drop (L' := [.ref 119, .int v3, .int ((mi7 120 1) - x10), .int (v3 + 1), .retAddr 0]) (And.intro rfl (And.intro rfl (And.intro rfl (And.intro rfl trivial)))) H
          · have H := H.2 b11
            refine ev_goto (tgt := 79) (a_dec_at dc_R_fullest 39 rfl) (by decide) ?_
            refine ev_iinc (v := 1) rfl rfl (by decide) rfl (a_dec_at dc_R_fullest 44 rfl) ?_
            refine ev_goto (tgt := 15) (a_dec_at dc_R_fullest 45 rfl) (by decide) ?_
            exact Ev.drop (L' := [.ref 119, .int v1, .int v2, .int (v3 + 1), .retAddr 0]) (And.intro rfl (And.intro rfl (And.intro rfl (And.intro rfl trivial)))) H
        · have H := H.2 b8
          refine ev_goto (tgt := 79) (a_dec_at dc_R_fullest 25 rfl) (by decide) ?_
          refine ev_iinc (v := 1) rfl rfl (by decide) rfl (a_dec_at dc_R_fullest 44 rfl) ?_
          refine ev_goto (tgt := 15) (a_dec_at dc_R_fullest 45 rfl) (by decide) ?_
          exact Ev.drop (L' := [.ref 119, .int v1, .int v2, .int (v3 + 1), .retAddr 0]) (And.intro rfl (And.intro rfl (And.intro rfl (And.intro rfl trivial)))) H
set_option maxRecDepth 20000 in
theorem t_R_gains {l : Launch} {h : Nat} (mi : TMi) (ml : TMl) (z : Nat) (a1 : Int32) {Q : Int32 → TMi → TMl → Nat → Prop} (H : CI l h m_R_isBeck [.ref 119, .long a1.toInt64] (up mi 119 0 0) ml z (fun x1 mi1 ml1 z1 => ((¬ x1 = 0 → CV l h m_R_laysGains [.ref 119, .int a1] mi1 ml1 z1 (fun mi3 ml3 z3 => Q (mi3 119 29) mi3 ml3 z3)) ∧ (x1 = 0 → Q (-2) mi1 ml1 z1)))) : CI l (h + 1) m_R_gains [.ref 119, .int a1] mi ml z Q := by
  show Ev l (h + 1) m_R_gains 0 ([.ref 119, .int a1], [], st mi ml z) (qI Q)
  refine ev_aload_n (i := 0) rfl rfl (a_dec_at dc_R_gains 0 rfl) ?_
  refine ev_iconst (v := 0) rfl (a_dec_at dc_R_gains 1 rfl) ?_
  refine m_putI fl_R_1 rfl (fun _ _ _ h => by cases h; exact Or.inl rfl) sh119 (a_dec_at dc_R_gains 2 rfl) ?_
  refine ev_aload_n (i := 0) rfl rfl (a_dec_at dc_R_gains 3 rfl) ?_
  refine ev_iload_n (i := 1) rfl rfl (a_dec_at dc_R_gains 4 rfl) ?_
  refine ev_i2l (a_dec_at dc_R_gains 5 rfl) ?_
  refine cV1I cs_R_233 sh119 rfl (Nat.le_of_ble_eq_true rfl) (Nat.le_of_ble_eq_true rfl) (a_dec_at dc_R_gains 6 rfl) ?_
  refine CI.mono (fun x1 mi1 ml1 z1 H => ?_) H
  refine ev_if_ne (tgt := 17) (a_dec_at dc_R_gains 7 rfl) (by decide) (fun b2 => ?_) (fun b2 => ?_)
  · have H := H.1 b2
    refine ev_aload_n (i := 0) rfl rfl (a_dec_at dc_R_gains 10 rfl) ?_
    refine ev_iload_n (i := 1) rfl rfl (a_dec_at dc_R_gains 11 rfl) ?_
    refine cV1V cs_R_418 sh119 rfl (Nat.le_of_ble_eq_true rfl) (Nat.le_of_ble_eq_true rfl) (a_dec_at dc_R_gains 12 rfl) ?_
    refine CV.mono (fun mi3 ml3 z3 H => ?_) H
    refine ev_aload_n (i := 0) rfl rfl (a_dec_at dc_R_gains 13 rfl) ?_
    refine m_getI fl_R_409 rfl sh119 (a_dec_at dc_R_gains 14 rfl) ?_
    exact m_retI (a_dec_at dc_R_gains 15 rfl) rfl rfl H
  · have H := H.2 b2
    refine ev_bipush (v := (-2)) rfl (a_dec_at dc_R_gains 8 rfl) ?_
    exact m_retI (a_dec_at dc_R_gains 9 rfl) rfl rfl H
set_option maxRecDepth 20000 in
theorem t_R_laysGains {l : Launch} {h : Nat} (mi : TMi) (ml : TMl) (z : Nat) (a1 : Int32) {Q : TMi → TMl → Nat → Prop} (H : CV l h m_R_laysLikes [.ref 119] mi ml z (fun mi1 ml1 z1 => CV l h m_R_laysByRivers [.ref 119] (up mi1 119 27 (-1)) ml1 z1 (fun mi2 ml2 z2 => (vp_in a1 6) ∧ Ev l (h + 1) m_R_laysGains 32 ([.ref 119, .int a1, .int (mi2 129 a1.toNatClampNeg), .int 0, .retAddr 0, .retAddr 0], [], st (up (up mi2 119 29 (-1)) 119 30 (-1)) ml2 z2) (qV Q)))) : CV l (h + 1) m_R_laysGains [.ref 119, .int a1] mi ml z Q := by
  show Ev l (h + 1) m_R_laysGains 0 ([.ref 119, .int a1, .retAddr 0, .retAddr 0, .retAddr 0, .retAddr 0], [], st mi ml z) (qV Q)
  refine ev_aload_n (i := 0) rfl rfl (a_dec_at dc_R_laysGains 0 rfl) ?_
  refine cV0V cs_R_237 sh119 rfl (Nat.le_of_ble_eq_true rfl) (Nat.le_of_ble_eq_true rfl) (a_dec_at dc_R_laysGains 1 rfl) ?_
  refine CV.mono (fun mi1 ml1 z1 H => ?_) H
  refine ev_aload_n (i := 0) rfl rfl (a_dec_at dc_R_laysGains 2 rfl) ?_
  refine ev_iconst (v := (-1)) rfl (a_dec_at dc_R_laysGains 3 rfl) ?_
  refine m_putI fl_R_54 rfl (fun _ _ _ h => by cases h; exact Or.inl rfl) sh119 (a_dec_at dc_R_laysGains 4 rfl) ?_
  refine ev_aload_n (i := 0) rfl rfl (a_dec_at dc_R_laysGains 5 rfl) ?_
  refine cV0V cs_R_406 sh119 rfl (Nat.le_of_ble_eq_true rfl) (Nat.le_of_ble_eq_true rfl) (a_dec_at dc_R_laysGains 6 rfl) ?_
  refine CV.mono (fun mi2 ml2 z2 H => ?_) H
  refine ev_aload_n (i := 0) rfl rfl (a_dec_at dc_R_laysGains 7 rfl) ?_
  refine m_getR (y := 129) fl_R_45 rfl sh119 (mr_119_23 _) (by decide) (a_dec_at dc_R_laysGains 8 rfl) ?_
  refine ev_iload_n (i := 1) rfl rfl (a_dec_at dc_R_laysGains 9 rfl) ?_
  obtain ⟨c3, H⟩ := H
  refine w_iald (k := a1.toNatClampNeg) sh129 c3 rfl (a_dec_at dc_R_laysGains 10 rfl) ?_
  refine ev_istore_n (i := 2) rfl (by decide) rfl (a_dec_at dc_R_laysGains 11 rfl) ?_
  refine ev_aload_n (i := 0) rfl rfl (a_dec_at dc_R_laysGains 12 rfl) ?_
  refine ev_iconst (v := (-1)) rfl (a_dec_at dc_R_laysGains 13 rfl) ?_
  refine m_putI fl_R_409 rfl (fun _ _ _ h => by cases h; exact Or.inl rfl) sh119 (a_dec_at dc_R_laysGains 14 rfl) ?_
  refine ev_aload_n (i := 0) rfl rfl (a_dec_at dc_R_laysGains 15 rfl) ?_
  refine ev_iconst (v := (-1)) rfl (a_dec_at dc_R_laysGains 16 rfl) ?_
  refine m_putI fl_R_412 rfl (fun _ _ _ h => by cases h; exact Or.inl rfl) sh119 (a_dec_at dc_R_laysGains 17 rfl) ?_
  refine ev_iconst (v := 0) rfl (a_dec_at dc_R_laysGains 18 rfl) ?_
  refine ev_istore_n (i := 3) rfl (by decide) rfl (a_dec_at dc_R_laysGains 19 rfl) ?_
  exact Ev.drop (L' := [.ref 119, .int a1, .int (mi2 129 a1.toNatClampNeg), .int 0, .retAddr 0, .retAddr 0]) (And.intro rfl (And.intro rfl (And.intro rfl (And.intro rfl trivial)))) H
set_option maxRecDepth 20000 in
theorem t_R_laysGains_32 {l : Launch} {h : Nat} (mi : TMi) (ml : TMl) (z : Nat) (v1 : Int32) (v2 : Int32) (v3 : Int32) {Q : TMi → TMl → Nat → Prop} (H : ((625 ≤ v3 → Q mi ml z) ∧ (¬ 625 ≤ v3 → CI l h m_R_laysLie [.ref 119, .int v3] mi ml z (fun x2 mi2 ml2 z2 => ((¬ x2 = 0 → CV l h m_R_laysByRivers [.ref 119] (up mi2 119 27 v1) ml2 z2 (fun mi4 ml4 z4 => (vp_in v1 6) ∧ ((((up mi4 119 27 (-1)) 129 v1.toNatClampNeg) = (-1) → Ev l (h + 1) m_R_laysGains 32 ([.ref 119, .int v1, .int v2, .int (v3 + 1), .retAddr 0, .retAddr 0], [], st (up mi4 119 27 (-1)) ml4 z4) (qV Q)) ∧ (¬ ((up mi4 119 27 (-1)) 129 v1.toNatClampNeg) = (-1) → ((¬ v2 = (-1) → ((((up mi4 119 27 (-1)) 129 v1.toNatClampNeg) = v2 → Ev l (h + 1) m_R_laysGains 32 ([.ref 119, .int v1, .int v2, .int (v3 + 1), .retAddr 0, .retAddr 0], [], st (up mi4 119 27 (-1)) ml4 z4) (qV Q)) ∧ (¬ ((up mi4 119 27 (-1)) 129 v1.toNatClampNeg) = v2 → CI l h m_R_likesMore [.ref 119, .int v1, .int ((up mi4 119 27 (-1)) 129 v1.toNatClampNeg), .int v2] (up mi4 119 27 (-1)) ml4 z4 (fun x9 mi9 ml9 z9 => ((x9 = 0 → Ev l (h + 1) m_R_laysGains 32 ([.ref 119, .int v1, .int v2, .int (v3 + 1), .retAddr 0, .retAddr 0], [], st mi9 ml9 z9) (qV Q)) ∧ (¬ x9 = 0 → (((mi9 119 29) = (-1) → Ev l (h + 1) m_R_laysGains 32 ([.ref 119, .int v1, .int v2, .int (v3 + 1), .retAddr 0, .retAddr 0], [], st (up (up mi9 119 29 ((up mi4 119 27 (-1)) 129 v1.toNatClampNeg)) 119 30 v3) ml9 z9) (qV Q)) ∧ (¬ (mi9 119 29) = (-1) → ((((up mi4 119 27 (-1)) 129 v1.toNatClampNeg) = (mi9 119 29) → Ev l (h + 1) m_R_laysGains 32 ([.ref 119, .int v1, .int v2, .int (v3 + 1), .retAddr 0, .retAddr 0], [], st mi9 ml9 z9) (qV Q)) ∧ (¬ ((up mi4 119 27 (-1)) 129 v1.toNatClampNeg) = (mi9 119 29) → CI l h m_R_likesMore [.ref 119, .int v1, .int ((up mi4 119 27 (-1)) 129 v1.toNatClampNeg), .int (mi9 119 29)] mi9 ml9 z9 (fun x13 mi13 ml13 z13 => ((¬ x13 = 0 → Ev l (h + 1) m_R_laysGains 32 ([.ref 119, .int v1, .int v2, .int (v3 + 1), .retAddr 0, .retAddr 0], [], st (up (up mi13 119 29 ((up mi4 119 27 (-1)) 129 v1.toNatClampNeg)) 119 30 v3) ml13 z13) (qV Q)) ∧ (x13 = 0 → Ev l (h + 1) m_R_laysGains 32 ([.ref 119, .int v1, .int v2, .int (v3 + 1), .retAddr 0, .retAddr 0], [], st mi13 ml13 z13) (qV Q)))))))))))))) ∧ (v2 = (-1) → (vp_in ((4 * v1) + ((up mi4 119 27 (-1)) 129 v1.toNatClampNeg)) 24) ∧ ((((up mi4 119 27 (-1)) 126 (((4 * v1) + ((up mi4 119 27 (-1)) 129 v1.toNatClampNeg)).toNatClampNeg)) ≤ 0 → Ev l (h + 1) m_R_laysGains 32 ([.ref 119, .int v1, .int v2, .int (v3 + 1), .retAddr 0, .retAddr 0], [], st (up mi4 119 27 (-1)) ml4 z4) (qV Q)) ∧ (¬ ((up mi4 119 27 (-1)) 126 (((4 * v1) + ((up mi4 119 27 (-1)) 129 v1.toNatClampNeg)).toNatClampNeg)) ≤ 0 → ((((up mi4 119 27 (-1)) 119 29) = (-1) → Ev l (h + 1) m_R_laysGains 32 ([.ref 119, .int v1, .int v2, .int (v3 + 1), .retAddr 0, .retAddr 0], [], st (up (up (up mi4 119 27 (-1)) 119 29 ((up mi4 119 27 (-1)) 129 v1.toNatClampNeg)) 119 30 v3) ml4 z4) (qV Q)) ∧ (¬ ((up mi4 119 27 (-1)) 119 29) = (-1) → ((((up mi4 119 27 (-1)) 129 v1.toNatClampNeg) = ((up mi4 119 27 (-1)) 119 29) → Ev l (h + 1) m_R_laysGains 32 ([.ref 119, .int v1, .int v2, .int (v3 + 1), .retAddr 0, .retAddr 0], [], st (up mi4 119 27 (-1)) ml4 z4) (qV Q)) ∧ (¬ ((up mi4 119 27 (-1)) 129 v1.toNatClampNeg) = ((up mi4 119 27 (-1)) 119 29) → CI l h m_R_likesMore [.ref 119, .int v1, .int ((up mi4 119 27 (-1)) 129 v1.toNatClampNeg), .int ((up mi4 119 27 (-1)) 119 29)] (up mi4 119 27 (-1)) ml4 z4 (fun x19 mi19 ml19 z19 => ((¬ x19 = 0 → Ev l (h + 1) m_R_laysGains 32 ([.ref 119, .int v1, .int v2, .int (v3 + 1), .retAddr 0, .retAddr 0], [], st (up (up mi19 119 29 ((up mi4 119 27 (-1)) 129 v1.toNatClampNeg)) 119 30 v3) ml19 z19) (qV Q)) ∧ (x19 = 0 → Ev l (h + 1) m_R_laysGains 32 ([.ref 119, .int v1, .int v2, .int (v3 + 1), .retAddr 0, .retAddr 0], [], st mi19 ml19 z19) (qV Q)))))))))))))))) ∧ (x2 = 0 → Ev l (h + 1) m_R_laysGains 32 ([.ref 119, .int v1, .int v2, .int (v3 + 1), .retAddr 0, .retAddr 0], [], st mi2 ml2 z2) (qV Q))))))) : Ev l (h + 1) m_R_laysGains 32 ([.ref 119, .int v1, .int v2, .int v3, .retAddr 0, .retAddr 0], [], st mi ml z) (qV Q) := by
  refine ev_iload_n (i := 3) rfl rfl (a_dec_at dc_R_laysGains 20 rfl) ?_
  refine ev_sipush (v := 625) rfl (a_dec_at dc_R_laysGains 21 rfl) ?_
  refine ev_icmp_ge (tgt := 180) (a_dec_at dc_R_laysGains 22 rfl) (by decide) (fun b1 => ?_) (fun b1 => ?_)
  · have H := H.1 b1
    exact m_retV (a_dec_at dc_R_laysGains 96 rfl) rfl H
  · have H := H.2 b1
    refine ev_aload_n (i := 0) rfl rfl (a_dec_at dc_R_laysGains 23 rfl) ?_
    refine ev_iload_n (i := 3) rfl rfl (a_dec_at dc_R_laysGains 24 rfl) ?_
    refine cV1I cs_R_415 sh119 rfl (Nat.le_of_ble_eq_true rfl) (Nat.le_of_ble_eq_true rfl) (a_dec_at dc_R_laysGains 25 rfl) ?_
    refine CI.mono (fun x2 mi2 ml2 z2 H => ?_) H
    refine ev_if_ne (tgt := 50) (a_dec_at dc_R_laysGains 26 rfl) (by decide) (fun b3 => ?_) (fun b3 => ?_)
    · have H := H.1 b3
      refine ev_aload_n (i := 0) rfl rfl (a_dec_at dc_R_laysGains 28 rfl) ?_
      refine ev_iload_n (i := 1) rfl rfl (a_dec_at dc_R_laysGains 29 rfl) ?_
      refine m_putI fl_R_54 rfl (fun _ _ _ h => by cases h; exact Or.inl rfl) sh119 (a_dec_at dc_R_laysGains 30 rfl) ?_
      refine ev_aload_n (i := 0) rfl rfl (a_dec_at dc_R_laysGains 31 rfl) ?_
      refine cV0V cs_R_406 sh119 rfl (Nat.le_of_ble_eq_true rfl) (Nat.le_of_ble_eq_true rfl) (a_dec_at dc_R_laysGains 32 rfl) ?_
      refine CV.mono (fun mi4 ml4 z4 H => ?_) H
      refine ev_aload_n (i := 0) rfl rfl (a_dec_at dc_R_laysGains 33 rfl) ?_
      refine ev_iconst (v := (-1)) rfl (a_dec_at dc_R_laysGains 34 rfl) ?_
      refine m_putI fl_R_54 rfl (fun _ _ _ h => by cases h; exact Or.inl rfl) sh119 (a_dec_at dc_R_laysGains 35 rfl) ?_
      refine ev_aload_n (i := 0) rfl rfl (a_dec_at dc_R_laysGains 36 rfl) ?_
      refine m_getR (y := 129) fl_R_45 rfl sh119 (mr_119_23 _) (by decide) (a_dec_at dc_R_laysGains 37 rfl) ?_
      refine ev_iload_n (i := 1) rfl rfl (a_dec_at dc_R_laysGains 38 rfl) ?_
      obtain ⟨c5, H⟩ := H
      refine w_iald (k := v1.toNatClampNeg) sh129 c5 rfl (a_dec_at dc_R_laysGains 39 rfl) ?_
      refine ev_istore (by decide) rfl (a_dec_at dc_R_laysGains 40 rfl) ?_
      refine ev_iload rfl (a_dec_at dc_R_laysGains 41 rfl) ?_
      refine ev_iconst (v := (-1)) rfl (a_dec_at dc_R_laysGains 42 rfl) ?_
      refine ev_icmp_eq (tgt := 121) (a_dec_at dc_R_laysGains 43 rfl) (by decide) (fun b6 => ?_) (fun b6 => ?_)
      · have H := H.1 b6
        refine ev_iconst (v := 0) rfl (a_dec_at dc_R_laysGains 68 rfl) ?_
        refine ev_istore (by decide) rfl (a_dec_at dc_R_laysGains 69 rfl) ?_
        refine ev_iload rfl (a_dec_at dc_R_laysGains 70 rfl) ?_
        refine ev_if_eq (tgt := 174) (a_dec_at dc_R_laysGains 71 rfl) (by decide) (fun _ => ?_) (fun q => absurd (by decide) q)
        refine ev_iinc (v := 1) rfl rfl (by decide) rfl (a_dec_at dc_R_laysGains 94 rfl) ?_
        refine ev_goto (tgt := 32) (a_dec_at dc_R_laysGains 95 rfl) (by decide) ?_
        exact Ev.drop (L' := [.ref 119, .int v1, .int v2, .int (v3 + 1), .retAddr 0, .retAddr 0]) (And.intro rfl (And.intro rfl (And.intro rfl (And.intro rfl trivial)))) H
      · have H := H.2 b6
        refine ev_iload_n (i := 2) rfl rfl (a_dec_at dc_R_laysGains 44 rfl) ?_
        refine ev_iconst (v := (-1)) rfl (a_dec_at dc_R_laysGains 45 rfl) ?_
        refine ev_icmp_ne (tgt := 100) (a_dec_at dc_R_laysGains 46 rfl) (by decide) (fun b7 => ?_) (fun b7 => ?_)
        · have H := H.1 b7
          refine ev_iload rfl (a_dec_at dc_R_laysGains 57 rfl) ?_
          refine ev_iload_n (i := 2) rfl rfl (a_dec_at dc_R_laysGains 58 rfl) ?_
          refine ev_icmp_eq (tgt := 121) (a_dec_at dc_R_laysGains 59 rfl) (by decide) (fun b8 => ?_) (fun b8 => ?_)
          · have H := H.1 b8
            refine ev_iconst (v := 0) rfl (a_dec_at dc_R_laysGains 68 rfl) ?_
            refine ev_istore (by decide) rfl (a_dec_at dc_R_laysGains 69 rfl) ?_
            refine ev_iload rfl (a_dec_at dc_R_laysGains 70 rfl) ?_
            refine ev_if_eq (tgt := 174) (a_dec_at dc_R_laysGains 71 rfl) (by decide) (fun _ => ?_) (fun q => absurd (by decide) q)
            refine ev_iinc (v := 1) rfl rfl (by decide) rfl (a_dec_at dc_R_laysGains 94 rfl) ?_
            refine ev_goto (tgt := 32) (a_dec_at dc_R_laysGains 95 rfl) (by decide) ?_
            exact Ev.drop (L' := [.ref 119, .int v1, .int v2, .int (v3 + 1), .retAddr 0, .retAddr 0]) (And.intro rfl (And.intro rfl (And.intro rfl (And.intro rfl trivial)))) H
          · have H := H.2 b8
            refine ev_aload_n (i := 0) rfl rfl (a_dec_at dc_R_laysGains 60 rfl) ?_
            refine ev_iload_n (i := 1) rfl rfl (a_dec_at dc_R_laysGains 61 rfl) ?_
            refine ev_iload rfl (a_dec_at dc_R_laysGains 62 rfl) ?_
            refine ev_iload_n (i := 2) rfl rfl (a_dec_at dc_R_laysGains 63 rfl) ?_
            refine cV3I cs_R_346 sh119 rfl (Nat.le_of_ble_eq_true rfl) (Nat.le_of_ble_eq_true rfl) (a_dec_at dc_R_laysGains 64 rfl) ?_
            refine CI.mono (fun x9 mi9 ml9 z9 H => ?_) H
            refine ev_if_eq (tgt := 121) (a_dec_at dc_R_laysGains 65 rfl) (by decide) (fun b10 => ?_) (fun b10 => ?_)
            · have H := H.1 b10
              refine ev_iconst (v := 0) rfl (a_dec_at dc_R_laysGains 68 rfl) ?_
              refine ev_istore (by decide) rfl (a_dec_at dc_R_laysGains 69 rfl) ?_
              refine ev_iload rfl (a_dec_at dc_R_laysGains 70 rfl) ?_
              refine ev_if_eq (tgt := 174) (a_dec_at dc_R_laysGains 71 rfl) (by decide) (fun _ => ?_) (fun q => absurd (by decide) q)
              refine ev_iinc (v := 1) rfl rfl (by decide) rfl (a_dec_at dc_R_laysGains 94 rfl) ?_
              refine ev_goto (tgt := 32) (a_dec_at dc_R_laysGains 95 rfl) (by decide) ?_
              exact Ev.drop (L' := [.ref 119, .int v1, .int v2, .int (v3 + 1), .retAddr 0, .retAddr 0]) (And.intro rfl (And.intro rfl (And.intro rfl (And.intro rfl trivial)))) H
            · have H := H.2 b10
              refine ev_iconst (v := 1) rfl (a_dec_at dc_R_laysGains 66 rfl) ?_
              refine ev_goto (tgt := 122) (a_dec_at dc_R_laysGains 67 rfl) (by decide) ?_
              refine ev_istore (by decide) rfl (a_dec_at dc_R_laysGains 69 rfl) ?_
              refine ev_iload rfl (a_dec_at dc_R_laysGains 70 rfl) ?_
              refine ev_if_eq (tgt := 174) (a_dec_at dc_R_laysGains 71 rfl) (by decide) (fun q => absurd q (by decide)) (fun _ => ?_)
              refine ev_aload_n (i := 0) rfl rfl (a_dec_at dc_R_laysGains 72 rfl) ?_
              refine m_getI fl_R_409 rfl sh119 (a_dec_at dc_R_laysGains 73 rfl) ?_
              refine ev_iconst (v := (-1)) rfl (a_dec_at dc_R_laysGains 74 rfl) ?_
              refine ev_icmp_eq (tgt := 163) (a_dec_at dc_R_laysGains 75 rfl) (by decide) (fun b11 => ?_) (fun b11 => ?_)
              · have H := H.1 b11
                refine ev_aload_n (i := 0) rfl rfl (a_dec_at dc_R_laysGains 88 rfl) ?_
                refine ev_iload rfl (a_dec_at dc_R_laysGains 89 rfl) ?_
                refine m_putI fl_R_409 rfl (fun _ _ _ h => by cases h; exact Or.inl rfl) sh119 (a_dec_at dc_R_laysGains 90 rfl) ?_
                refine ev_aload_n (i := 0) rfl rfl (a_dec_at dc_R_laysGains 91 rfl) ?_
                refine ev_iload_n (i := 3) rfl rfl (a_dec_at dc_R_laysGains 92 rfl) ?_
                refine m_putI fl_R_412 rfl (fun _ _ _ h => by cases h; exact Or.inl rfl) sh119 (a_dec_at dc_R_laysGains 93 rfl) ?_
                refine ev_iinc (v := 1) rfl rfl (by decide) rfl (a_dec_at dc_R_laysGains 94 rfl) ?_
                refine ev_goto (tgt := 32) (a_dec_at dc_R_laysGains 95 rfl) (by decide) ?_
                exact Ev.drop (L' := [.ref 119, .int v1, .int v2, .int (v3 + 1), .retAddr 0, .retAddr 0]) (And.intro rfl (And.intro rfl (And.intro rfl (And.intro rfl trivial)))) H
              · have H := H.2 b11
                refine ev_iload rfl (a_dec_at dc_R_laysGains 76 rfl) ?_
                refine ev_aload_n (i := 0) rfl rfl (a_dec_at dc_R_laysGains 77 rfl) ?_
                refine m_getI fl_R_409 rfl sh119 (a_dec_at dc_R_laysGains 78 rfl) ?_
                refine ev_icmp_eq (tgt := 174) (a_dec_at dc_R_laysGains 79 rfl) (by decide) (fun b12 => ?_) (fun b12 => ?_)
                · have H := H.1 b12
                  refine ev_iinc (v := 1) rfl rfl (by decide) rfl (a_dec_at dc_R_laysGains 94 rfl) ?_
                  refine ev_goto (tgt := 32) (a_dec_at dc_R_laysGains 95 rfl) (by decide) ?_
                  exact Ev.drop (L' := [.ref 119, .int v1, .int v2, .int (v3 + 1), .retAddr 0, .retAddr 0]) (And.intro rfl (And.intro rfl (And.intro rfl (And.intro rfl trivial)))) H
                · have H := H.2 b12
                  refine ev_aload_n (i := 0) rfl rfl (a_dec_at dc_R_laysGains 80 rfl) ?_
                  refine ev_iload_n (i := 1) rfl rfl (a_dec_at dc_R_laysGains 81 rfl) ?_
                  refine ev_iload rfl (a_dec_at dc_R_laysGains 82 rfl) ?_
                  refine ev_aload_n (i := 0) rfl rfl (a_dec_at dc_R_laysGains 83 rfl) ?_
                  refine m_getI fl_R_409 rfl sh119 (a_dec_at dc_R_laysGains 84 rfl) ?_
                  refine cV3I cs_R_346 sh119 rfl (Nat.le_of_ble_eq_true rfl) (Nat.le_of_ble_eq_true rfl) (a_dec_at dc_R_laysGains 85 rfl) ?_
                  refine CI.mono (fun x13 mi13 ml13 z13 H => ?_) H
                  refine ev_if_ne (tgt := 163) (a_dec_at dc_R_laysGains 86 rfl) (by decide) (fun b14 => ?_) (fun b14 => ?_)
                  · have H := H.1 b14
                    refine ev_aload_n (i := 0) rfl rfl (a_dec_at dc_R_laysGains 88 rfl) ?_
                    refine ev_iload rfl (a_dec_at dc_R_laysGains 89 rfl) ?_
                    refine m_putI fl_R_409 rfl (fun _ _ _ h => by cases h; exact Or.inl rfl) sh119 (a_dec_at dc_R_laysGains 90 rfl) ?_
                    refine ev_aload_n (i := 0) rfl rfl (a_dec_at dc_R_laysGains 91 rfl) ?_
                    refine ev_iload_n (i := 3) rfl rfl (a_dec_at dc_R_laysGains 92 rfl) ?_
                    refine m_putI fl_R_412 rfl (fun _ _ _ h => by cases h; exact Or.inl rfl) sh119 (a_dec_at dc_R_laysGains 93 rfl) ?_
                    refine ev_iinc (v := 1) rfl rfl (by decide) rfl (a_dec_at dc_R_laysGains 94 rfl) ?_
                    refine ev_goto (tgt := 32) (a_dec_at dc_R_laysGains 95 rfl) (by decide) ?_
                    exact Ev.drop (L' := [.ref 119, .int v1, .int v2, .int (v3 + 1), .retAddr 0, .retAddr 0]) (And.intro rfl (And.intro rfl (And.intro rfl (And.intro rfl trivial)))) H
                  · have H := H.2 b14
                    refine ev_goto (tgt := 174) (a_dec_at dc_R_laysGains 87 rfl) (by decide) ?_
                    refine ev_iinc (v := 1) rfl rfl (by decide) rfl (a_dec_at dc_R_laysGains 94 rfl) ?_
                    refine ev_goto (tgt := 32) (a_dec_at dc_R_laysGains 95 rfl) (by decide) ?_
                    exact Ev.drop (L' := [.ref 119, .int v1, .int v2, .int (v3 + 1), .retAddr 0, .retAddr 0]) (And.intro rfl (And.intro rfl (And.intro rfl (And.intro rfl trivial)))) H
        · have H := H.2 b7
          refine ev_aload_n (i := 0) rfl rfl (a_dec_at dc_R_laysGains 47 rfl) ?_
          refine m_getR (y := 126) fl_R_36 rfl sh119 (mr_119_17 _) (by decide) (a_dec_at dc_R_laysGains 48 rfl) ?_
          refine ev_iconst (v := 4) rfl (a_dec_at dc_R_laysGains 49 rfl) ?_
          refine ev_iload_n (i := 1) rfl rfl (a_dec_at dc_R_laysGains 50 rfl) ?_
          refine ev_imul (a_dec_at dc_R_laysGains 51 rfl) ?_
          refine ev_iload rfl (a_dec_at dc_R_laysGains 52 rfl) ?_
          refine ev_iadd (a_dec_at dc_R_laysGains 53 rfl) ?_
          obtain ⟨c15, H⟩ := H
          refine w_iald (k := ((4 * v1) + ((up mi4 119 27 (-1)) 129 v1.toNatClampNeg)).toNatClampNeg) sh126 c15 rfl (a_dec_at dc_R_laysGains 54 rfl) ?_
          refine ev_if_le (tgt := 121) (a_dec_at dc_R_laysGains 55 rfl) (by decide) (fun b16 => ?_) (fun b16 => ?_)
          · have H := H.1 b16
            refine ev_iconst (v := 0) rfl (a_dec_at dc_R_laysGains 68 rfl) ?_
            refine ev_istore (by decide) rfl (a_dec_at dc_R_laysGains 69 rfl) ?_
            refine ev_iload rfl (a_dec_at dc_R_laysGains 70 rfl) ?_
            refine ev_if_eq (tgt := 174) (a_dec_at dc_R_laysGains 71 rfl) (by decide) (fun _ => ?_) (fun q => absurd (by decide) q)
            refine ev_iinc (v := 1) rfl rfl (by decide) rfl (a_dec_at dc_R_laysGains 94 rfl) ?_
            refine ev_goto (tgt := 32) (a_dec_at dc_R_laysGains 95 rfl) (by decide) ?_
            exact Ev.drop (L' := [.ref 119, .int v1, .int v2, .int (v3 + 1), .retAddr 0, .retAddr 0]) (And.intro rfl (And.intro rfl (And.intro rfl (And.intro rfl trivial)))) H
          · have H := H.2 b16
            refine ev_goto (tgt := 117) (a_dec_at dc_R_laysGains 56 rfl) (by decide) ?_
            refine ev_iconst (v := 1) rfl (a_dec_at dc_R_laysGains 66 rfl) ?_
            refine ev_goto (tgt := 122) (a_dec_at dc_R_laysGains 67 rfl) (by decide) ?_
            refine ev_istore (by decide) rfl (a_dec_at dc_R_laysGains 69 rfl) ?_
            refine ev_iload rfl (a_dec_at dc_R_laysGains 70 rfl) ?_
            refine ev_if_eq (tgt := 174) (a_dec_at dc_R_laysGains 71 rfl) (by decide) (fun q => absurd q (by decide)) (fun _ => ?_)
            refine ev_aload_n (i := 0) rfl rfl (a_dec_at dc_R_laysGains 72 rfl) ?_
            refine m_getI fl_R_409 rfl sh119 (a_dec_at dc_R_laysGains 73 rfl) ?_
            refine ev_iconst (v := (-1)) rfl (a_dec_at dc_R_laysGains 74 rfl) ?_
            refine ev_icmp_eq (tgt := 163) (a_dec_at dc_R_laysGains 75 rfl) (by decide) (fun b17 => ?_) (fun b17 => ?_)
            · have H := H.1 b17
              refine ev_aload_n (i := 0) rfl rfl (a_dec_at dc_R_laysGains 88 rfl) ?_
              refine ev_iload rfl (a_dec_at dc_R_laysGains 89 rfl) ?_
              refine m_putI fl_R_409 rfl (fun _ _ _ h => by cases h; exact Or.inl rfl) sh119 (a_dec_at dc_R_laysGains 90 rfl) ?_
              refine ev_aload_n (i := 0) rfl rfl (a_dec_at dc_R_laysGains 91 rfl) ?_
              refine ev_iload_n (i := 3) rfl rfl (a_dec_at dc_R_laysGains 92 rfl) ?_
              refine m_putI fl_R_412 rfl (fun _ _ _ h => by cases h; exact Or.inl rfl) sh119 (a_dec_at dc_R_laysGains 93 rfl) ?_
              refine ev_iinc (v := 1) rfl rfl (by decide) rfl (a_dec_at dc_R_laysGains 94 rfl) ?_
              refine ev_goto (tgt := 32) (a_dec_at dc_R_laysGains 95 rfl) (by decide) ?_
              exact Ev.drop (L' := [.ref 119, .int v1, .int v2, .int (v3 + 1), .retAddr 0, .retAddr 0]) (And.intro rfl (And.intro rfl (And.intro rfl (And.intro rfl trivial)))) H
            · have H := H.2 b17
              refine ev_iload rfl (a_dec_at dc_R_laysGains 76 rfl) ?_
              refine ev_aload_n (i := 0) rfl rfl (a_dec_at dc_R_laysGains 77 rfl) ?_
              refine m_getI fl_R_409 rfl sh119 (a_dec_at dc_R_laysGains 78 rfl) ?_
              refine ev_icmp_eq (tgt := 174) (a_dec_at dc_R_laysGains 79 rfl) (by decide) (fun b18 => ?_) (fun b18 => ?_)
              · have H := H.1 b18
                refine ev_iinc (v := 1) rfl rfl (by decide) rfl (a_dec_at dc_R_laysGains 94 rfl) ?_
                refine ev_goto (tgt := 32) (a_dec_at dc_R_laysGains 95 rfl) (by decide) ?_
                exact Ev.drop (L' := [.ref 119, .int v1, .int v2, .int (v3 + 1), .retAddr 0, .retAddr 0]) (And.intro rfl (And.intro rfl (And.intro rfl (And.intro rfl trivial)))) H
              · have H := H.2 b18
                refine ev_aload_n (i := 0) rfl rfl (a_dec_at dc_R_laysGains 80 rfl) ?_
                refine ev_iload_n (i := 1) rfl rfl (a_dec_at dc_R_laysGains 81 rfl) ?_
                refine ev_iload rfl (a_dec_at dc_R_laysGains 82 rfl) ?_
                refine ev_aload_n (i := 0) rfl rfl (a_dec_at dc_R_laysGains 83 rfl) ?_
                refine m_getI fl_R_409 rfl sh119 (a_dec_at dc_R_laysGains 84 rfl) ?_
                refine cV3I cs_R_346 sh119 rfl (Nat.le_of_ble_eq_true rfl) (Nat.le_of_ble_eq_true rfl) (a_dec_at dc_R_laysGains 85 rfl) ?_
                refine CI.mono (fun x19 mi19 ml19 z19 H => ?_) H
                refine ev_if_ne (tgt := 163) (a_dec_at dc_R_laysGains 86 rfl) (by decide) (fun b20 => ?_) (fun b20 => ?_)
                · have H := H.1 b20
                  refine ev_aload_n (i := 0) rfl rfl (a_dec_at dc_R_laysGains 88 rfl) ?_
                  refine ev_iload rfl (a_dec_at dc_R_laysGains 89 rfl) ?_
                  refine m_putI fl_R_409 rfl (fun _ _ _ h => by cases h; exact Or.inl rfl) sh119 (a_dec_at dc_R_laysGains 90 rfl) ?_
                  refine ev_aload_n (i := 0) rfl rfl (a_dec_at dc_R_laysGains 91 rfl) ?_
                  refine ev_iload_n (i := 3) rfl rfl (a_dec_at dc_R_laysGains 92 rfl) ?_
                  refine m_putI fl_R_412 rfl (fun _ _ _ h => by cases h; exact Or.inl rfl) sh119 (a_dec_at dc_R_laysGains 93 rfl) ?_
                  refine ev_iinc (v := 1) rfl rfl (by decide) rfl (a_dec_at dc_R_laysGains 94 rfl) ?_
                  refine ev_goto (tgt := 32) (a_dec_at dc_R_laysGains 95 rfl) (by decide) ?_
                  exact Ev.drop (L' := [.ref 119, .int v1, .int v2, .int (v3 + 1), .retAddr 0, .retAddr 0]) (And.intro rfl (And.intro rfl (And.intro rfl (And.intro rfl trivial)))) H
                · have H := H.2 b20
                  refine ev_goto (tgt := 174) (a_dec_at dc_R_laysGains 87 rfl) (by decide) ?_
                  refine ev_iinc (v := 1) rfl rfl (by decide) rfl (a_dec_at dc_R_laysGains 94 rfl) ?_
                  refine ev_goto (tgt := 32) (a_dec_at dc_R_laysGains 95 rfl) (by decide) ?_
                  exact Ev.drop (L' := [.ref 119, .int v1, .int v2, .int (v3 + 1), .retAddr 0, .retAddr 0]) (And.intro rfl (And.intro rfl (And.intro rfl (And.intro rfl trivial)))) H
    · have H := H.2 b3
      refine ev_goto (tgt := 174) (a_dec_at dc_R_laysGains 27 rfl) (by decide) ?_
      refine ev_iinc (v := 1) rfl rfl (by decide) rfl (a_dec_at dc_R_laysGains 94 rfl) ?_
      refine ev_goto (tgt := 32) (a_dec_at dc_R_laysGains 95 rfl) (by decide) ?_
      exact Ev.drop (L' := [.ref 119, .int v1, .int v2, .int (v3 + 1), .retAddr 0, .retAddr 0]) (And.intro rfl (And.intro rfl (And.intro rfl (And.intro rfl trivial)))) H
