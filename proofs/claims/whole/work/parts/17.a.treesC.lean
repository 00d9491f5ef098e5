set_option maxRecDepth 20000 in
theorem t_JI_bitCount {l : Launch} {h : Nat} (mi : TMi) (ml : TMl) (z : Nat) (a1 : Int32) {Q : Int32 → TMi → TMl → Nat → Prop} (H : Q ((((((((a1 - ((a_ushr a1 1) &&& 1431655765)) &&& 858993459) + ((a_ushr (a1 - ((a_ushr a1 1) &&& 1431655765)) 2) &&& 858993459)) + (a_ushr (((a1 - ((a_ushr a1 1) &&& 1431655765)) &&& 858993459) + ((a_ushr (a1 - ((a_ushr a1 1) &&& 1431655765)) 2) &&& 858993459)) 4)) &&& 252645135) + (a_ushr (((((a1 - ((a_ushr a1 1) &&& 1431655765)) &&& 858993459) + ((a_ushr (a1 - ((a_ushr a1 1) &&& 1431655765)) 2) &&& 858993459)) + (a_ushr (((a1 - ((a_ushr a1 1) &&& 1431655765)) &&& 858993459) + ((a_ushr (a1 - ((a_ushr a1 1) &&& 1431655765)) 2) &&& 858993459)) 4)) &&& 252645135) 8)) + (a_ushr ((((((a1 - ((a_ushr a1 1) &&& 1431655765)) &&& 858993459) + ((a_ushr (a1 - ((a_ushr a1 1) &&& 1431655765)) 2) &&& 858993459)) + (a_ushr (((a1 - ((a_ushr a1 1) &&& 1431655765)) &&& 858993459) + ((a_ushr (a1 - ((a_ushr a1 1) &&& 1431655765)) 2) &&& 858993459)) 4)) &&& 252645135) + (a_ushr (((((a1 - ((a_ushr a1 1) &&& 1431655765)) &&& 858993459) + ((a_ushr (a1 - ((a_ushr a1 1) &&& 1431655765)) 2) &&& 858993459)) + (a_ushr (((a1 - ((a_ushr a1 1) &&& 1431655765)) &&& 858993459) + ((a_ushr (a1 - ((a_ushr a1 1) &&& 1431655765)) 2) &&& 858993459)) 4)) &&& 252645135) 8)) 16)) &&& 63) mi ml z) : CI l (h + 1) m_JI_bitCount [.int a1] mi ml z Q := by
  show Ev l (h + 1) m_JI_bitCount 0 ([.int a1], [], st mi ml z) (qI Q)
  refine ev_iload_n (i := 0) rfl rfl (a_dec_at dc_JI_bitCount 0 rfl) ?_
  refine ev_iload_n (i := 0) rfl rfl (a_dec_at dc_JI_bitCount 1 rfl) ?_
  refine ev_iconst (v := 1) rfl (a_dec_at dc_JI_bitCount 2 rfl) ?_
  refine ev_iushr (a_dec_at dc_JI_bitCount 3 rfl) ?_
  refine ev_ldcw kc_JI_265 (a_dec_at dc_JI_bitCount 4 rfl) ?_
  refine ev_iand (a_dec_at dc_JI_bitCount 5 rfl) ?_
  refine ev_isub (a_dec_at dc_JI_bitCount 6 rfl) ?_
  refine ev_istore_n (i := 0) rfl (by decide) rfl (a_dec_at dc_JI_bitCount 7 rfl) ?_
  refine ev_iload_n (i := 0) rfl rfl (a_dec_at dc_JI_bitCount 8 rfl) ?_
  refine ev_ldcw kc_JI_266 (a_dec_at dc_JI_bitCount 9 rfl) ?_
  refine ev_iand (a_dec_at dc_JI_bitCount 10 rfl) ?_
  refine ev_iload_n (i := 0) rfl rfl (a_dec_at dc_JI_bitCount 11 rfl) ?_
  refine ev_iconst (v := 2) rfl (a_dec_at dc_JI_bitCount 12 rfl) ?_
  refine ev_iushr (a_dec_at dc_JI_bitCount 13 rfl) ?_
  refine ev_ldcw kc_JI_266 (a_dec_at dc_JI_bitCount 14 rfl) ?_
  refine ev_iand (a_dec_at dc_JI_bitCount 15 rfl) ?_
  refine ev_iadd (a_dec_at dc_JI_bitCount 16 rfl) ?_
  refine ev_istore_n (i := 0) rfl (by decide) rfl (a_dec_at dc_JI_bitCount 17 rfl) ?_
  refine ev_iload_n (i := 0) rfl rfl (a_dec_at dc_JI_bitCount 18 rfl) ?_
  refine ev_iload_n (i := 0) rfl rfl (a_dec_at dc_JI_bitCount 19 rfl) ?_
  refine ev_iconst (v := 4) rfl (a_dec_at dc_JI_bitCount 20 rfl) ?_
  refine ev_iushr (a_dec_at dc_JI_bitCount 21 rfl) ?_
  refine ev_iadd (a_dec_at dc_JI_bitCount 22 rfl) ?_
  refine ev_ldcw kc_JI_267 (a_dec_at dc_JI_bitCount 23 rfl) ?_
  refine ev_iand (a_dec_at dc_JI_bitCount 24 rfl) ?_
  refine ev_istore_n (i := 0) rfl (by decide) rfl (a_dec_at dc_JI_bitCount 25 rfl) ?_
  refine ev_iload_n (i := 0) rfl rfl (a_dec_at dc_JI_bitCount 26 rfl) ?_
  refine ev_iload_n (i := 0) rfl rfl (a_dec_at dc_JI_bitCount 27 rfl) ?_
  refine ev_bipush (v := 8) rfl (a_dec_at dc_JI_bitCount 28 rfl) ?_
  refine ev_iushr (a_dec_at dc_JI_bitCount 29 rfl) ?_
  refine ev_iadd (a_dec_at dc_JI_bitCount 30 rfl) ?_
  refine ev_istore_n (i := 0) rfl (by decide) rfl (a_dec_at dc_JI_bitCount 31 rfl) ?_
  refine ev_iload_n (i := 0) rfl rfl (a_dec_at dc_JI_bitCount 32 rfl) ?_
  refine ev_iload_n (i := 0) rfl rfl (a_dec_at dc_JI_bitCount 33 rfl) ?_
  refine ev_bipush (v := 16) rfl (a_dec_at dc_JI_bitCount 34 rfl) ?_
  refine ev_iushr (a_dec_at dc_JI_bitCount 35 rfl) ?_
  refine ev_iadd (a_dec_at dc_JI_bitCount 36 rfl) ?_
  refine ev_istore_n (i := 0) rfl (by decide) rfl (a_dec_at dc_JI_bitCount 37 rfl) ?_
  refine ev_iload_n (i := 0) rfl rfl (a_dec_at dc_JI_bitCount 38 rfl) ?_
  refine ev_bipush (v := 63) rfl (a_dec_at dc_JI_bitCount 39 rfl) ?_
  refine ev_iand (a_dec_at dc_JI_bitCount 40 rfl) ?_
  exact m_retI (a_dec_at dc_JI_bitCount 41 rfl) rfl rfl H
set_option maxRecDepth 20000 in
theorem t_JI_numberOfTrailingZeros {l : Launch} {h : Nat} (mi : TMi) (ml : TMl) (z : Nat) (a1 : Int32) {Q : Int32 → TMi → TMl → Nat → Prop} (H : ((0 < ((a1 ^^^ (-1)) &&& (a1 - 1)) → ((((a1 ^^^ (-1)) &&& (a1 - 1)) ≤ 65536 → ((((a1 ^^^ (-1)) &&& (a1 - 1)) ≤ 256 → ((((a1 ^^^ (-1)) &&& (a1 - 1)) ≤ 16 → ((((a1 ^^^ (-1)) &&& (a1 - 1)) ≤ 4 → Q (1 + (a_ushr ((a1 ^^^ (-1)) &&& (a1 - 1)) 1)) mi ml z) ∧ (¬ ((a1 ^^^ (-1)) &&& (a1 - 1)) ≤ 4 → Q (((1 : Int32) + 2) + (a_ushr (a_ushr ((a1 ^^^ (-1)) &&& (a1 - 1)) 2) 1)) mi ml z))) ∧ (¬ ((a1 ^^^ (-1)) &&& (a1 - 1)) ≤ 16 → (((a_ushr ((a1 ^^^ (-1)) &&& (a1 - 1)) 4) ≤ 4 → Q (((1 : Int32) + 4) + (a_ushr (a_ushr ((a1 ^^^ (-1)) &&& (a1 - 1)) 4) 1)) mi ml z) ∧ (¬ (a_ushr ((a1 ^^^ (-1)) &&& (a1 - 1)) 4) ≤ 4 → Q ((((1 : Int32) + 4) + 2) + (a_ushr (a_ushr (a_ushr ((a1 ^^^ (-1)) &&& (a1 - 1)) 4) 2) 1)) mi ml z))))) ∧ (¬ ((a1 ^^^ (-1)) &&& (a1 - 1)) ≤ 256 → (((a_ushr ((a1 ^^^ (-1)) &&& (a1 - 1)) 8) ≤ 16 → (((a_ushr ((a1 ^^^ (-1)) &&& (a1 - 1)) 8) ≤ 4 → Q (((1 : Int32) + 8) + (a_ushr (a_ushr ((a1 ^^^ (-1)) &&& (a1 - 1)) 8) 1)) mi ml z) ∧ (¬ (a_ushr ((a1 ^^^ (-1)) &&& (a1 - 1)) 8) ≤ 4 → Q ((((1 : Int32) + 8) + 2) + (a_ushr (a_ushr (a_ushr ((a1 ^^^ (-1)) &&& (a1 - 1)) 8) 2) 1)) mi ml z))) ∧ (¬ (a_ushr ((a1 ^^^ (-1)) &&& (a1 - 1)) 8) ≤ 16 → (((a_ushr (a_ushr ((a1 ^^^ (-1)) &&& (a1 - 1)) 8) 4) ≤ 4 → Q ((((1 : Int32) + 8) + 4) + (a_ushr (a_ushr (a_ushr ((a1 ^^^ (-1)) &&& (a1 - 1)) 8) 4) 1)) mi ml z) ∧ (¬ (a_ushr (a_ushr ((a1 ^^^ (-1)) &&& (a1 - 1)) 8) 4) ≤ 4 → Q (((((1 : Int32) + 8) + 4) + 2) + (a_ushr (a_ushr (a_ushr (a_ushr ((a1 ^^^ (-1)) &&& (a1 - 1)) 8) 4) 2) 1)) mi ml z))))))) ∧ (¬ ((a1 ^^^ (-1)) &&& (a1 - 1)) ≤ 65536 → (((a_ushr ((a1 ^^^ (-1)) &&& (a1 - 1)) 16) ≤ 256 → (((a_ushr ((a1 ^^^ (-1)) &&& (a1 - 1)) 16) ≤ 16 → (((a_ushr ((a1 ^^^ (-1)) &&& (a1 - 1)) 16) ≤ 4 → Q (((1 : Int32) + 16) + (a_ushr (a_ushr ((a1 ^^^ (-1)) &&& (a1 - 1)) 16) 1)) mi ml z) ∧ (¬ (a_ushr ((a1 ^^^ (-1)) &&& (a1 - 1)) 16) ≤ 4 → Q ((((1 : Int32) + 16) + 2) + (a_ushr (a_ushr (a_ushr ((a1 ^^^ (-1)) &&& (a1 - 1)) 16) 2) 1)) mi ml z))) ∧ (¬ (a_ushr ((a1 ^^^ (-1)) &&& (a1 - 1)) 16) ≤ 16 → (((a_ushr (a_ushr ((a1 ^^^ (-1)) &&& (a1 - 1)) 16) 4) ≤ 4 → Q ((((1 : Int32) + 16) + 4) + (a_ushr (a_ushr (a_ushr ((a1 ^^^ (-1)) &&& (a1 - 1)) 16) 4) 1)) mi ml z) ∧ (¬ (a_ushr (a_ushr ((a1 ^^^ (-1)) &&& (a1 - 1)) 16) 4) ≤ 4 → Q (((((1 : Int32) + 16) + 4) + 2) + (a_ushr (a_ushr (a_ushr (a_ushr ((a1 ^^^ (-1)) &&& (a1 - 1)) 16) 4) 2) 1)) mi ml z))))) ∧ (¬ (a_ushr ((a1 ^^^ (-1)) &&& (a1 - 1)) 16) ≤ 256 → (((a_ushr (a_ushr ((a1 ^^^ (-1)) &&& (a1 - 1)) 16) 8) ≤ 16 → (((a_ushr (a_ushr ((a1 ^^^ (-1)) &&& (a1 - 1)) 16) 8) ≤ 4 → Q ((((1 : Int32) + 16) + 8) + (a_ushr (a_ushr (a_ushr ((a1 ^^^ (-1)) &&& (a1 - 1)) 16) 8) 1)) mi ml z) ∧ (¬ (a_ushr (a_ushr ((a1 ^^^ (-1)) &&& (a1 - 1)) 16) 8) ≤ 4 → Q (((((1 : Int32) + 16) + 8) + 2) + (a_ushr (a_ushr (a_ushr (a_ushr ((a1 ^^^ (-1)) &&& (a1 - 1)) 16) 8) 2) 1)) mi ml z))) ∧ (¬ (a_ushr (a_ushr ((a1 ^^^ (-1)) &&& (a1 - 1)) 16) 8) ≤ 16 → (((a_ushr (a_ushr (a_ushr ((a1 ^^^ (-1)) &&& (a1 - 1)) 16) 8) 4) ≤ 4 → Q (((((1 : Int32) + 16) + 8) + 4) + (a_ushr (a_ushr (a_ushr (a_ushr ((a1 ^^^ (-1)) &&& (a1 - 1)) 16) 8) 4) 1)) mi ml z) ∧ (¬ (a_ushr (a_ushr (a_ushr ((a1 ^^^ (-1)) &&& (a1 - 1)) 16) 8) 4) ≤ 4 → Q ((((((1 : Int32) + 16) + 8) + 4) + 2) + (a_ushr (a_ushr (a_ushr (a_ushr (a_ushr ((a1 ^^^ (-1)) &&& (a1 - 1)) 16) 8) 4) 2) 1)) mi ml z))))))))) ∧ (¬ 0 < ((a1 ^^^ (-1)) &&& (a1 - 1)) → Q (((a1 ^^^ (-1)) &&& (a1 - 1)) &&& 32) mi ml z))) : CI l (h + 1) m_JI_numberOfTrailingZeros [.int a1] mi ml z Q := by
  show Ev l (h + 1) m_JI_numberOfTrailingZeros 0 ([.int a1, .retAddr 0], [], st mi ml z) (qI Q)
  refine ev_iload_n (i := 0) rfl rfl (a_dec_at dc_JI_numberOfTrailingZeros 0 rfl) ?_
  refine ev_iconst (v := (-1)) rfl (a_dec_at dc_JI_numberOfTrailingZeros 1 rfl) ?_
  refine ev_ixor (a_dec_at dc_JI_numberOfTrailingZeros 2 rfl) ?_
  refine ev_iload_n (i := 0) rfl rfl (a_dec_at dc_JI_numberOfTrailingZeros 3 rfl) ?_
  refine ev_iconst (v := 1) rfl (a_dec_at dc_JI_numberOfTrailingZeros 4 rfl) ?_
  refine ev_isub (a_dec_at dc_JI_numberOfTrailingZeros 5 rfl) ?_
  refine ev_iand (a_dec_at dc_JI_numberOfTrailingZeros 6 rfl) ?_
  refine ev_istore_n (i := 0) rfl (by decide) rfl (a_dec_at dc_JI_numberOfTrailingZeros 7 rfl) ?_
  refine ev_iload_n (i := 0) rfl rfl (a_dec_at dc_JI_numberOfTrailingZeros 8 rfl) ?_
  refine ev_if_gt (tgt := 17) (a_dec_at dc_JI_numberOfTrailingZeros 9 rfl) (by decide) (fun b1 => ?_) (fun b1 => ?_)
  · have H := H.1 b1
    refine ev_iconst (v := 1) rfl (a_dec_at dc_JI_numberOfTrailingZeros 14 rfl) ?_
    refine ev_istore_n (i := 1) rfl (by decide) rfl (a_dec_at dc_JI_numberOfTrailingZeros 15 rfl) ?_
    refine ev_iload_n (i := 0) rfl rfl (a_dec_at dc_JI_numberOfTrailingZeros 16 rfl) ?_
    refine ev_ldcw kc_JI_264 (a_dec_at dc_JI_numberOfTrailingZeros 17 rfl) ?_
    refine ev_icmp_le (tgt := 34) (a_dec_at dc_JI_numberOfTrailingZeros 18 rfl) (by decide) (fun b2 => ?_) (fun b2 => ?_)
    · have H := H.1 b2
      refine ev_iload_n (i := 0) rfl rfl (a_dec_at dc_JI_numberOfTrailingZeros 24 rfl) ?_
      refine ev_sipush (v := 256) rfl (a_dec_at dc_JI_numberOfTrailingZeros 25 rfl) ?_
      refine ev_icmp_le (tgt := 49) (a_dec_at dc_JI_numberOfTrailingZeros 26 rfl) (by decide) (fun b3 => ?_) (fun b3 => ?_)
      · have H := H.1 b3
        refine ev_iload_n (i := 0) rfl rfl (a_dec_at dc_JI_numberOfTrailingZeros 32 rfl) ?_
        refine ev_bipush (v := 16) rfl (a_dec_at dc_JI_numberOfTrailingZeros 33 rfl) ?_
        refine ev_icmp_le (tgt := 62) (a_dec_at dc_JI_numberOfTrailingZeros 34 rfl) (by decide) (fun b4 => ?_) (fun b4 => ?_)
        · have H := H.1 b4
          refine ev_iload_n (i := 0) rfl rfl (a_dec_at dc_JI_numberOfTrailingZeros 40 rfl) ?_
          refine ev_iconst (v := 4) rfl (a_dec_at dc_JI_numberOfTrailingZeros 41 rfl) ?_
          refine ev_icmp_le (tgt := 74) (a_dec_at dc_JI_numberOfTrailingZeros 42 rfl) (by decide) (fun b5 => ?_) (fun b5 => ?_)
          · have H := H.1 b5
            refine ev_iload_n (i := 1) rfl rfl (a_dec_at dc_JI_numberOfTrailingZeros 48 rfl) ?_
            refine ev_iload_n (i := 0) rfl rfl (a_dec_at dc_JI_numberOfTrailingZeros 49 rfl) ?_
            refine ev_iconst (v := 1) rfl (a_dec_at dc_JI_numberOfTrailingZeros 50 rfl) ?_
            refine ev_iushr (a_dec_at dc_JI_numberOfTrailingZeros 51 rfl) ?_
            refine ev_iadd (a_dec_at dc_JI_numberOfTrailingZeros 52 rfl) ?_
            exact m_retI (a_dec_at dc_JI_numberOfTrailingZeros 53 rfl) rfl rfl H
          · have H := H.2 b5
            refine ev_iinc (v := 2) rfl rfl (by decide) rfl (a_dec_at dc_JI_numberOfTrailingZeros 43 rfl) ?_
            refine ev_iload_n (i := 0) rfl rfl (a_dec_at dc_JI_numberOfTrailingZeros 44 rfl) ?_
            refine ev_iconst (v := 2) rfl (a_dec_at dc_JI_numberOfTrailingZeros 45 rfl) ?_
            refine ev_iushr (a_dec_at dc_JI_numberOfTrailingZeros 46 rfl) ?_
            refine ev_istore_n (i := 0) rfl (by decide) rfl (a_dec_at dc_JI_numberOfTrailingZeros 47 rfl) ?_
            refine ev_iload_n (i := 1) rfl rfl (a_dec_at dc_JI_numberOfTrailingZeros 48 rfl) ?_
            refine ev_iload_n (i := 0) rfl rfl (a_dec_at dc_JI_numberOfTrailingZeros 49 rfl) ?_
            refine ev_iconst (v := 1) rfl (a_dec_at dc_JI_numberOfTrailingZeros 50 rfl) ?_
            refine ev_iushr (a_dec_at dc_JI_numberOfTrailingZeros 51 rfl) ?_
            refine ev_iadd (a_dec_at dc_JI_numberOfTrailingZeros 52 rfl) ?_
            exact m_retI (a_dec_at dc_JI_numberOfTrailingZeros 53 rfl) rfl rfl H
        · have H := H.2 b4
          refine ev_iinc (v := 4) rfl rfl (by decide) rfl (a_dec_at dc_JI_numberOfTrailingZeros 35 rfl) ?_
          refine ev_iload_n (i := 0) rfl rfl (a_dec_at dc_JI_numberOfTrailingZeros 36 rfl) ?_
          refine ev_iconst (v := 4) rfl (a_dec_at dc_JI_numberOfTrailingZeros 37 rfl) ?_
          refine ev_iushr (a_dec_at dc_JI_numberOfTrailingZeros 38 rfl) ?_
          refine ev_istore_n (i := 0) rfl (by decide) rfl (a_dec_at dc_JI_numberOfTrailingZeros 39 rfl) ?_
          refine ev_iload_n (i := 0) rfl rfl (a_dec_at dc_JI_numberOfTrailingZeros 40 rfl) ?_
          refine ev_iconst (v := 4) rfl (a_dec_at dc_JI_numberOfTrailingZeros 41 rfl) ?_
          refine ev_icmp_le (tgt := 74) (a_dec_at dc_JI_numberOfTrailingZeros 42 rfl) (by decide) (fun b6 => ?_) (fun b6 => ?_)
          · have H := H.1 b6
            refine ev_iload_n (i := 1) rfl rfl (a_dec_at dc_JI_numberOfTrailingZeros 48 rfl) ?_
            refine ev_iload_n (i := 0) rfl rfl (a_dec_at dc_JI_numberOfTrailingZeros 49 rfl) ?_
            refine ev_iconst (v := 1) rfl (a_dec_at dc_JI_numberOfTrailingZeros 50 rfl) ?_
            refine ev_iushr (a_dec_at dc_JI_numberOfTrailingZeros 51 rfl) ?_
            refine ev_iadd (a_dec_at dc_JI_numberOfTrailingZeros 52 rfl) ?_
            exact m_retI (a_dec_at dc_JI_numberOfTrailingZeros 53 rfl) rfl rfl H
          · have H := H.2 b6
            refine ev_iinc (v := 2) rfl rfl (by decide) rfl (a_dec_at dc_JI_numberOfTrailingZeros 43 rfl) ?_
            refine ev_iload_n (i := 0) rfl rfl (a_dec_at dc_JI_numberOfTrailingZeros 44 rfl) ?_
            refine ev_iconst (v := 2) rfl (a_dec_at dc_JI_numberOfTrailingZeros 45 rfl) ?_
            refine ev_iushr (a_dec_at dc_JI_numberOfTrailingZeros 46 rfl) ?_
            refine ev_istore_n (i := 0) rfl (by decide) rfl (a_dec_at dc_JI_numberOfTrailingZeros 47 rfl) ?_
            refine ev_iload_n (i := 1) rfl rfl (a_dec_at dc_JI_numberOfTrailingZeros 48 rfl) ?_
            refine ev_iload_n (i := 0) rfl rfl (a_dec_at dc_JI_numberOfTrailingZeros 49 rfl) ?_
            refine ev_iconst (v := 1) rfl (a_dec_at dc_JI_numberOfTrailingZeros 50 rfl) ?_
            refine ev_iushr (a_dec_at dc_JI_numberOfTrailingZeros 51 rfl) ?_
            refine ev_iadd (a_dec_at dc_JI_numberOfTrailingZeros 52 rfl) ?_
            exact m_retI (a_dec_at dc_JI_numberOfTrailingZeros 53 rfl) rfl rfl H
      · have H := H.2 b3
        refine ev_iinc (v := 8) rfl rfl (by decide) rfl (a_dec_at dc_JI_numberOfTrailingZeros 27 rfl) ?_
        refine ev_iload_n (i := 0) rfl rfl (a_dec_at dc_JI_numberOfTrailingZeros 28 rfl) ?_
        refine ev_bipush (v := 8) rfl (a_dec_at dc_JI_numberOfTrailingZeros 29 rfl) ?_
        refine ev_iushr (a_dec_at dc_JI_numberOfTrailingZeros 30 rfl) ?_
        refine ev_istore_n (i := 0) rfl (by decide) rfl (a_dec_at dc_JI_numberOfTrailingZeros 31 rfl) ?_
        refine ev_iload_n (i := 0) rfl rfl (a_dec_at dc_JI_numberOfTrailingZeros 32 rfl) ?_
        refine ev_bipush (v := 16) rfl (a_dec_at dc_JI_numberOfTrailingZeros 33 rfl) ?_
        refine ev_icmp_le (tgt := 62) (a_dec_at dc_JI_numberOfTrailingZeros 34 rfl) (by decide) (fun b7 => ?_) (fun b7 => ?_)
        · have H := H.1 b7
          refine ev_iload_n (i := 0) rfl rfl (a_dec_at dc_JI_numberOfTrailingZeros 40 rfl) ?_
          refine ev_iconst (v := 4) rfl (a_dec_at dc_JI_numberOfTrailingZeros 41 rfl) ?_
          refine ev_icmp_le (tgt := 74) (a_dec_at dc_JI_numberOfTrailingZeros 42 rfl) (by decide) (fun b8 => ?_) (fun b8 => ?_)
          · have H := H.1 b8
            refine ev_iload_n (i := 1) rfl rfl (a_dec_at dc_JI_numberOfTrailingZeros 48 rfl) ?_
            refine ev_iload_n (i := 0) rfl rfl (a_dec_at dc_JI_numberOfTrailingZeros 49 rfl) ?_
            refine ev_iconst (v := 1) rfl (a_dec_at dc_JI_numberOfTrailingZeros 50 rfl) ?_
            refine ev_iushr (a_dec_at dc_JI_numberOfTrailingZeros 51 rfl) ?_
            refine ev_iadd (a_dec_at dc_JI_numberOfTrailingZeros 52 rfl) ?_
            exact m_retI (a_dec_at dc_JI_numberOfTrailingZeros 53 rfl) rfl rfl H
          · have H := H.2 b8
            refine ev_iinc (v := 2) rfl rfl (by decide) rfl (a_dec_at dc_JI_numberOfTrailingZeros 43 rfl) ?_
            refine ev_iload_n (i := 0) rfl rfl (a_dec_at dc_JI_numberOfTrailingZeros 44 rfl) ?_
            refine ev_iconst (v := 2) rfl (a_dec_at dc_JI_numberOfTrailingZeros 45 rfl) ?_
            refine ev_iushr (a_dec_at dc_JI_numberOfTrailingZeros 46 rfl) ?_
            refine ev_istore_n (i := 0) rfl (by decide) rfl (a_dec_at dc_JI_numberOfTrailingZeros 47 rfl) ?_
            refine ev_iload_n (i := 1) rfl rfl (a_dec_at dc_JI_numberOfTrailingZeros 48 rfl) ?_
            refine ev_iload_n (i := 0) rfl rfl (a_dec_at dc_JI_numberOfTrailingZeros 49 rfl) ?_
            refine ev_iconst (v := 1) rfl (a_dec_at dc_JI_numberOfTrailingZeros 50 rfl) ?_
            refine ev_iushr (a_dec_at dc_JI_numberOfTrailingZeros 51 rfl) ?_
            refine ev_iadd (a_dec_at dc_JI_numberOfTrailingZeros 52 rfl) ?_
            exact m_retI (a_dec_at dc_JI_numberOfTrailingZeros 53 rfl) rfl rfl H
        · have H := H.2 b7
          refine ev_iinc (v := 4) rfl rfl (by decide) rfl (a_dec_at dc_JI_numberOfTrailingZeros 35 rfl) ?_
          refine ev_iload_n (i := 0) rfl rfl (a_dec_at dc_JI_numberOfTrailingZeros 36 rfl) ?_
          refine ev_iconst (v := 4) rfl (a_dec_at dc_JI_numberOfTrailingZeros 37 rfl) ?_
          refine ev_iushr (a_dec_at dc_JI_numberOfTrailingZeros 38 rfl) ?_
          refine ev_istore_n (i := 0) rfl (by decide) rfl (a_dec_at dc_JI_numberOfTrailingZeros 39 rfl) ?_
          refine ev_iload_n (i := 0) rfl rfl (a_dec_at dc_JI_numberOfTrailingZeros 40 rfl) ?_
          refine ev_iconst (v := 4) rfl (a_dec_at dc_JI_numberOfTrailingZeros 41 rfl) ?_
          refine ev_icmp_le (tgt := 74) (a_dec_at dc_JI_numberOfTrailingZeros 42 rfl) (by decide) (fun b9 => ?_) (fun b9 => ?_)
          · have H := H.1 b9
            refine ev_iload_n (i := 1) rfl rfl (a_dec_at dc_JI_numberOfTrailingZeros 48 rfl) ?_
            refine ev_iload_n (i := 0) rfl rfl (a_dec_at dc_JI_numberOfTrailingZeros 49 rfl) ?_
            refine ev_iconst (v := 1) rfl (a_dec_at dc_JI_numberOfTrailingZeros 50 rfl) ?_
            refine ev_iushr (a_dec_at dc_JI_numberOfTrailingZeros 51 rfl) ?_
            refine ev_iadd (a_dec_at dc_JI_numberOfTrailingZeros 52 rfl) ?_
            exact m_retI (a_dec_at dc_JI_numberOfTrailingZeros 53 rfl) rfl rfl H
          · have H := H.2 b9
            refine ev_iinc (v := 2) rfl rfl (by decide) rfl (a_dec_at dc_JI_numberOfTrailingZeros 43 rfl) ?_
            refine ev_iload_n (i := 0) rfl rfl (a_dec_at dc_JI_numberOfTrailingZeros 44 rfl) ?_
            refine ev_iconst (v := 2) rfl (a_dec_at dc_JI_numberOfTrailingZeros 45 rfl) ?_
            refine ev_iushr (a_dec_at dc_JI_numberOfTrailingZeros 46 rfl) ?_
            refine ev_istore_n (i := 0) rfl (by decide) rfl (a_dec_at dc_JI_numberOfTrailingZeros 47 rfl) ?_
            refine ev_iload_n (i := 1) rfl rfl (a_dec_at dc_JI_numberOfTrailingZeros 48 rfl) ?_
            refine ev_iload_n (i := 0) rfl rfl (a_dec_at dc_JI_numberOfTrailingZeros 49 rfl) ?_
            refine ev_iconst (v := 1) rfl (a_dec_at dc_JI_numberOfTrailingZeros 50 rfl) ?_
            refine ev_iushr (a_dec_at dc_JI_numberOfTrailingZeros 51 rfl) ?_
            refine ev_iadd (a_dec_at dc_JI_numberOfTrailingZeros 52 rfl) ?_
            exact m_retI (a_dec_at dc_JI_numberOfTrailingZeros 53 rfl) rfl rfl H
    · have H := H.2 b2
      refine ev_iinc (v := 16) rfl rfl (by decide) rfl (a_dec_at dc_JI_numberOfTrailingZeros 19 rfl) ?_
      refine ev_iload_n (i := 0) rfl rfl (a_dec_at dc_JI_numberOfTrailingZeros 20 rfl) ?_
      refine ev_bipush (v := 16) rfl (a_dec_at dc_JI_numberOfTrailingZeros 21 rfl) ?_
      refine ev_iushr (a_dec_at dc_JI_numberOfTrailingZeros 22 rfl) ?_
      refine ev_istore_n (i := 0) rfl (by decide) rfl (a_dec_at dc_JI_numberOfTrailingZeros 23 rfl) ?_
      refine ev_iload_n (i := 0) rfl rfl (a_dec_at dc_JI_numberOfTrailingZeros 24 rfl) ?_
      refine ev_sipush (v := 256) rfl (a_dec_at dc_JI_numberOfTrailingZeros 25 rfl) ?_
      refine ev_icmp_le (tgt := 49) (a_dec_at dc_JI_numberOfTrailingZeros 26 rfl) (by decide) (fun b10 => ?_) (fun b10 => ?_)
      · have H := H.1 b10
        refine ev_iload_n (i := 0) rfl rfl (a_dec_at dc_JI_numberOfTrailingZeros 32 rfl) ?_
        refine ev_bipush (v := 16) rfl (a_dec_at dc_JI_numberOfTrailingZeros 33 rfl) ?_
        refine ev_icmp_le (tgt := 62) (a_dec_at dc_JI_numberOfTrailingZeros 34 rfl) (by decide) (fun b11 => ?_) (fun b11 => ?_)
        · have H := H.1 b11
          refine ev_iload_n (i := 0) rfl rfl (a_dec_at dc_JI_numberOfTrailingZeros 40 rfl) ?_
          refine ev_iconst (v := 4) rfl (a_dec_at dc_JI_numberOfTrailingZeros 41 rfl) ?_
          refine ev_icmp_le (tgt := 74) (a_dec_at dc_JI_numberOfTrailingZeros 42 rfl) (by decide) (fun b12 => ?_) (fun b12 => ?_)
          · have H := H.1 b12
            refine ev_iload_n (i := 1) rfl rfl (a_dec_at dc_JI_numberOfTrailingZeros 48 rfl) ?_
            refine ev_iload_n (i := 0) rfl rfl (a_dec_at dc_JI_numberOfTrailingZeros 49 rfl) ?_
            refine ev_iconst (v := 1) rfl (a_dec_at dc_JI_numberOfTrailingZeros 50 rfl) ?_
            refine ev_iushr (a_dec_at dc_JI_numberOfTrailingZeros 51 rfl) ?_
            refine ev_iadd (a_dec_at dc_JI_numberOfTrailingZeros 52 rfl) ?_
            exact m_retI (a_dec_at dc_JI_numberOfTrailingZeros 53 rfl) rfl rfl H
          · have H := H.2 b12
            refine ev_iinc (v := 2) rfl rfl (by decide) rfl (a_dec_at dc_JI_numberOfTrailingZeros 43 rfl) ?_
            refine ev_iload_n (i := 0) rfl rfl (a_dec_at dc_JI_numberOfTrailingZeros 44 rfl) ?_
            refine ev_iconst (v := 2) rfl (a_dec_at dc_JI_numberOfTrailingZeros 45 rfl) ?_
            refine ev_iushr (a_dec_at dc_JI_numberOfTrailingZeros 46 rfl) ?_
            refine ev_istore_n (i := 0) rfl (by decide) rfl (a_dec_at dc_JI_numberOfTrailingZeros 47 rfl) ?_
            refine ev_iload_n (i := 1) rfl rfl (a_dec_at dc_JI_numberOfTrailingZeros 48 rfl) ?_
            refine ev_iload_n (i := 0) rfl rfl (a_dec_at dc_JI_numberOfTrailingZeros 49 rfl) ?_
            refine ev_iconst (v := 1) rfl (a_dec_at dc_JI_numberOfTrailingZeros 50 rfl) ?_
            refine ev_iushr (a_dec_at dc_JI_numberOfTrailingZeros 51 rfl) ?_
            refine ev_iadd (a_dec_at dc_JI_numberOfTrailingZeros 52 rfl) ?_
            exact m_retI (a_dec_at dc_JI_numberOfTrailingZeros 53 rfl) rfl rfl H
        · have H := H.2 b11
          refine ev_iinc (v := 4) rfl rfl (by decide) rfl (a_dec_at dc_JI_numberOfTrailingZeros 35 rfl) ?_
          refine ev_iload_n (i := 0) rfl rfl (a_dec_at dc_JI_numberOfTrailingZeros 36 rfl) ?_
          refine ev_iconst (v := 4) rfl (a_dec_at dc_JI_numberOfTrailingZeros 37 rfl) ?_
          refine ev_iushr (a_dec_at dc_JI_numberOfTrailingZeros 38 rfl) ?_
          refine ev_istore_n (i := 0) rfl (by decide) rfl (a_dec_at dc_JI_numberOfTrailingZeros 39 rfl) ?_
          refine ev_iload_n (i := 0) rfl rfl (a_dec_at dc_JI_numberOfTrailingZeros 40 rfl) ?_
          refine ev_iconst (v := 4) rfl (a_dec_at dc_JI_numberOfTrailingZeros 41 rfl) ?_
          refine ev_icmp_le (tgt := 74) (a_dec_at dc_JI_numberOfTrailingZeros 42 rfl) (by decide) (fun b13 => ?_) (fun b13 => ?_)
          · have H := H.1 b13
            refine ev_iload_n (i := 1) rfl rfl (a_dec_at dc_JI_numberOfTrailingZeros 48 rfl) ?_
            refine ev_iload_n (i := 0) rfl rfl (a_dec_at dc_JI_numberOfTrailingZeros 49 rfl) ?_
            refine ev_iconst (v := 1) rfl (a_dec_at dc_JI_numberOfTrailingZeros 50 rfl) ?_
            refine ev_iushr (a_dec_at dc_JI_numberOfTrailingZeros 51 rfl) ?_
            refine ev_iadd (a_dec_at dc_JI_numberOfTrailingZeros 52 rfl) ?_
            exact m_retI (a_dec_at dc_JI_numberOfTrailingZeros 53 rfl) rfl rfl H
          · have H := H.2 b13
            refine ev_iinc (v := 2) rfl rfl (by decide) rfl (a_dec_at dc_JI_numberOfTrailingZeros 43 rfl) ?_
            refine ev_iload_n (i := 0) rfl rfl (a_dec_at dc_JI_numberOfTrailingZeros 44 rfl) ?_
            refine ev_iconst (v := 2) rfl (a_dec_at dc_JI_numberOfTrailingZeros 45 rfl) ?_
            refine ev_iushr (a_dec_at dc_JI_numberOfTrailingZeros 46 rfl) ?_
            refine ev_istore_n (i := 0) rfl (by decide) rfl (a_dec_at dc_JI_numberOfTrailingZeros 47 rfl) ?_
            refine ev_iload_n (i := 1) rfl rfl (a_dec_at dc_JI_numberOfTrailingZeros 48 rfl) ?_
            refine ev_iload_n (i := 0) rfl rfl (a_dec_at dc_JI_numberOfTrailingZeros 49 rfl) ?_
            refine ev_iconst (v := 1) rfl (a_dec_at dc_JI_numberOfTrailingZeros 50 rfl) ?_
            refine ev_iushr (a_dec_at dc_JI_numberOfTrailingZeros 51 rfl) ?_
            refine ev_iadd (a_dec_at dc_JI_numberOfTrailingZeros 52 rfl) ?_
            exact m_retI (a_dec_at dc_JI_numberOfTrailingZeros 53 rfl) rfl rfl H
      · have H := H.2 b10
        refine ev_iinc (v := 8) rfl rfl (by decide) rfl (a_dec_at dc_JI_numberOfTrailingZeros 27 rfl) ?_
        refine ev_iload_n (i := 0) rfl rfl (a_dec_at dc_JI_numberOfTrailingZeros 28 rfl) ?_
        refine ev_bipush (v := 8) rfl (a_dec_at dc_JI_numberOfTrailingZeros 29 rfl) ?_
        refine ev_iushr (a_dec_at dc_JI_numberOfTrailingZeros 30 rfl) ?_
        refine ev_istore_n (i := 0) rfl (by decide) rfl (a_dec_at dc_JI_numberOfTrailingZeros 31 rfl) ?_
        refine ev_iload_n (i := 0) rfl rfl (a_dec_at dc_JI_numberOfTrailingZeros 32 rfl) ?_
        refine ev_bipush (v := 16) rfl (a_dec_at dc_JI_numberOfTrailingZeros 33 rfl) ?_
        refine ev_icmp_le (tgt := 62) (a_dec_at dc_JI_numberOfTrailingZeros 34 rfl) (by decide) (fun b14 => ?_) (fun b14 => ?_)
        · have H := H.1 b14
          refine ev_iload_n (i := 0) rfl rfl (a_dec_at dc_JI_numberOfTrailingZeros 40 rfl) ?_
          refine ev_iconst (v := 4) rfl (a_dec_at dc_JI_numberOfTrailingZeros 41 rfl) ?_
          refine ev_icmp_le (tgt := 74) (a_dec_at dc_JI_numberOfTrailingZeros 42 rfl) (by decide) (fun b15 => ?_) (fun b15 => ?_)
          · have H := H.1 b15
            refine ev_iload_n (i := 1) rfl rfl (a_dec_at dc_JI_numberOfTrailingZeros 48 rfl) ?_
            refine ev_iload_n (i := 0) rfl rfl (a_dec_at dc_JI_numberOfTrailingZeros 49 rfl) ?_
            refine ev_iconst (v := 1) rfl (a_dec_at dc_JI_numberOfTrailingZeros 50 rfl) ?_
            refine ev_iushr (a_dec_at dc_JI_numberOfTrailingZeros 51 rfl) ?_
            refine ev_iadd (a_dec_at dc_JI_numberOfTrailingZeros 52 rfl) ?_
            exact m_retI (a_dec_at dc_JI_numberOfTrailingZeros 53 rfl) rfl rfl H
          · have H := H.2 b15
            refine ev_iinc (v := 2) rfl rfl (by decide) rfl (a_dec_at dc_JI_numberOfTrailingZeros 43 rfl) ?_
            refine ev_iload_n (i := 0) rfl rfl (a_dec_at dc_JI_numberOfTrailingZeros 44 rfl) ?_
            refine ev_iconst (v := 2) rfl (a_dec_at dc_JI_numberOfTrailingZeros 45 rfl) ?_
            refine ev_iushr (a_dec_at dc_JI_numberOfTrailingZeros 46 rfl) ?_
            refine ev_istore_n (i := 0) rfl (by decide) rfl (a_dec_at dc_JI_numberOfTrailingZeros 47 rfl) ?_
            refine ev_iload_n (i := 1) rfl rfl (a_dec_at dc_JI_numberOfTrailingZeros 48 rfl) ?_
            refine ev_iload_n (i := 0) rfl rfl (a_dec_at dc_JI_numberOfTrailingZeros 49 rfl) ?_
            refine ev_iconst (v := 1) rfl (a_dec_at dc_JI_numberOfTrailingZeros 50 rfl) ?_
            refine ev_iushr (a_dec_at dc_JI_numberOfTrailingZeros 51 rfl) ?_
            refine ev_iadd (a_dec_at dc_JI_numberOfTrailingZeros 52 rfl) ?_
            exact m_retI (a_dec_at dc_JI_numberOfTrailingZeros 53 rfl) rfl rfl H
        · have H := H.2 b14
          refine ev_iinc (v := 4) rfl rfl (by decide) rfl (a_dec_at dc_JI_numberOfTrailingZeros 35 rfl) ?_
          refine ev_iload_n (i := 0) rfl rfl (a_dec_at dc_JI_numberOfTrailingZeros 36 rfl) ?_
          refine ev_iconst (v := 4) rfl (a_dec_at dc_JI_numberOfTrailingZeros 37 rfl) ?_
          refine ev_iushr (a_dec_at dc_JI_numberOfTrailingZeros 38 rfl) ?_
          refine ev_istore_n (i := 0) rfl (by decide) rfl (a_dec_at dc_JI_numberOfTrailingZeros 39 rfl) ?_
          refine ev_iload_n (i := 0) rfl rfl (a_dec_at dc_JI_numberOfTrailingZeros 40 rfl) ?_
          refine ev_iconst (v := 4) rfl (a_dec_at dc_JI_numberOfTrailingZeros 41 rfl) ?_
          refine ev_icmp_le (tgt := 74) (a_dec_at dc_JI_numberOfTrailingZeros 42 rfl) (by decide) (fun b16 => ?_) (fun b16 => ?_)
          · have H := H.1 b16
            refine ev_iload_n (i := 1) rfl rfl (a_dec_at dc_JI_numberOfTrailingZeros 48 rfl) ?_
            refine ev_iload_n (i := 0) rfl rfl (a_dec_at dc_JI_numberOfTrailingZeros 49 rfl) ?_
            refine ev_iconst (v := 1) rfl (a_dec_at dc_JI_numberOfTrailingZeros 50 rfl) ?_
            refine ev_iushr (a_dec_at dc_JI_numberOfTrailingZeros 51 rfl) ?_
            refine ev_iadd (a_dec_at dc_JI_numberOfTrailingZeros 52 rfl) ?_
            exact m_retI (a_dec_at dc_JI_numberOfTrailingZeros 53 rfl) rfl rfl H
          · have H := H.2 b16
            refine ev_iinc (v := 2) rfl rfl (by decide) rfl (a_dec_at dc_JI_numberOfTrailingZeros 43 rfl) ?_
            refine ev_iload_n (i := 0) rfl rfl (a_dec_at dc_JI_numberOfTrailingZeros 44 rfl) ?_
            refine ev_iconst (v := 2) rfl (a_dec_at dc_JI_numberOfTrailingZeros 45 rfl) ?_
            refine ev_iushr (a_dec_at dc_JI_numberOfTrailingZeros 46 rfl) ?_
            refine ev_istore_n (i := 0) rfl (by decide) rfl (a_dec_at dc_JI_numberOfTrailingZeros 47 rfl) ?_
            refine ev_iload_n (i := 1) rfl rfl (a_dec_at dc_JI_numberOfTrailingZeros 48 rfl) ?_
            refine ev_iload_n (i := 0) rfl rfl (a_dec_at dc_JI_numberOfTrailingZeros 49 rfl) ?_
            refine ev_iconst (v := 1) rfl (a_dec_at dc_JI_numberOfTrailingZeros 50 rfl) ?_
            refine ev_iushr (a_dec_at dc_JI_numberOfTrailingZeros 51 rfl) ?_
            refine ev_iadd (a_dec_at dc_JI_numberOfTrailingZeros 52 rfl) ?_
            exact m_retI (a_dec_at dc_JI_numberOfTrailingZeros 53 rfl) rfl rfl H
  · have H := H.2 b1
    refine ev_iload_n (i := 0) rfl rfl (a_dec_at dc_JI_numberOfTrailingZeros 10 rfl) ?_
    refine ev_bipush (v := 32) rfl (a_dec_at dc_JI_numberOfTrailingZeros 11 rfl) ?_
    refine ev_iand (a_dec_at dc_JI_numberOfTrailingZeros 12 rfl) ?_
    exact m_retI (a_dec_at dc_JI_numberOfTrailingZeros 13 rfl) rfl rfl H
set_option maxRecDepth 20000 in
theorem t_JI_numberOfLeadingZeros {l : Launch} {h : Nat} (mi : TMi) (ml : TMl) (z : Nat) (a1 : Int32) {Q : Int32 → TMi → TMl → Nat → Prop} (H : ((0 < a1 → ((a1 < 65536 → ((a1 < 256 → ((a1 < 16 → ((a1 < 4 → Q (31 - (a_ushr a1 1)) mi ml z) ∧ (¬ a1 < 4 → Q (((31 : Int32) + (-2)) - (a_ushr (a_ushr a1 2) 1)) mi ml z))) ∧ (¬ a1 < 16 → (((a_ushr a1 4) < 4 → Q (((31 : Int32) + (-4)) - (a_ushr (a_ushr a1 4) 1)) mi ml z) ∧ (¬ (a_ushr a1 4) < 4 → Q ((((31 : Int32) + (-4)) + (-2)) - (a_ushr (a_ushr (a_ushr a1 4) 2) 1)) mi ml z))))) ∧ (¬ a1 < 256 → (((a_ushr a1 8) < 16 → (((a_ushr a1 8) < 4 → Q (((31 : Int32) + (-8)) - (a_ushr (a_ushr a1 8) 1)) mi ml z) ∧ (¬ (a_ushr a1 8) < 4 → Q ((((31 : Int32) + (-8)) + (-2)) - (a_ushr (a_ushr (a_ushr a1 8) 2) 1)) mi ml z))) ∧ (¬ (a_ushr a1 8) < 16 → (((a_ushr (a_ushr a1 8) 4) < 4 → Q ((((31 : Int32) + (-8)) + (-4)) - (a_ushr (a_ushr (a_ushr a1 8) 4) 1)) mi ml z) ∧ (¬ (a_ushr (a_ushr a1 8) 4) < 4 → Q (((((31 : Int32) + (-8)) + (-4)) + (-2)) - (a_ushr (a_ushr (a_ushr (a_ushr a1 8) 4) 2) 1)) mi ml z))))))) ∧ (¬ a1 < 65536 → (((a_ushr a1 16) < 256 → (((a_ushr a1 16) < 16 → (((a_ushr a1 16) < 4 → Q (((31 : Int32) + (-16)) - (a_ushr (a_ushr a1 16) 1)) mi ml z) ∧ (¬ (a_ushr a1 16) < 4 → Q ((((31 : Int32) + (-16)) + (-2)) - (a_ushr (a_ushr (a_ushr a1 16) 2) 1)) mi ml z))) ∧ (¬ (a_ushr a1 16) < 16 → (((a_ushr (a_ushr a1 16) 4) < 4 → Q ((((31 : Int32) + (-16)) + (-4)) - (a_ushr (a_ushr (a_ushr a1 16) 4) 1)) mi ml z) ∧ (¬ (a_ushr (a_ushr a1 16) 4) < 4 → Q (((((31 : Int32) + (-16)) + (-4)) + (-2)) - (a_ushr (a_ushr (a_ushr (a_ushr a1 16) 4) 2) 1)) mi ml z))))) ∧ (¬ (a_ushr a1 16) < 256 → (((a_ushr (a_ushr a1 16) 8) < 16 → (((a_ushr (a_ushr a1 16) 8) < 4 → Q ((((31 : Int32) + (-16)) + (-8)) - (a_ushr (a_ushr (a_ushr a1 16) 8) 1)) mi ml z) ∧ (¬ (a_ushr (a_ushr a1 16) 8) < 4 → Q (((((31 : Int32) + (-16)) + (-8)) + (-2)) - (a_ushr (a_ushr (a_ushr (a_ushr a1 16) 8) 2) 1)) mi ml z))) ∧ (¬ (a_ushr (a_ushr a1 16) 8) < 16 → (((a_ushr (a_ushr (a_ushr a1 16) 8) 4) < 4 → Q (((((31 : Int32) + (-16)) + (-8)) + (-4)) - (a_ushr (a_ushr (a_ushr (a_ushr a1 16) 8) 4) 1)) mi ml z) ∧ (¬ (a_ushr (a_ushr (a_ushr a1 16) 8) 4) < 4 → Q ((((((31 : Int32) + (-16)) + (-8)) + (-4)) + (-2)) - (a_ushr (a_ushr (a_ushr (a_ushr (a_ushr a1 16) 8) 4) 2) 1)) mi ml z))))))))) ∧ (¬ 0 < a1 → ((¬ a1 = 0 → Q 0 mi ml z) ∧ (a1 = 0 → Q 32 mi ml z))))) : CI l (h + 1) m_JI_numberOfLeadingZeros [.int a1] mi ml z Q := by
  show Ev l (h + 1) m_JI_numberOfLeadingZeros 0 ([.int a1, .retAddr 0], [], st mi ml z) (qI Q)
  refine ev_iload_n (i := 0) rfl rfl (a_dec_at dc_JI_numberOfLeadingZeros 0 rfl) ?_
  refine ev_if_gt (tgt := 15) (a_dec_at dc_JI_numberOfLeadingZeros 1 rfl) (by decide) (fun b1 => ?_) (fun b1 => ?_)
  · have H := H.1 b1
    refine ev_bipush (v := 31) rfl (a_dec_at dc_JI_numberOfLeadingZeros 8 rfl) ?_
    refine ev_istore_n (i := 1) rfl (by decide) rfl (a_dec_at dc_JI_numberOfLeadingZeros 9 rfl) ?_
    refine ev_iload_n (i := 0) rfl rfl (a_dec_at dc_JI_numberOfLeadingZeros 10 rfl) ?_
    refine ev_ldcw kc_JI_264 (a_dec_at dc_JI_numberOfLeadingZeros 11 rfl) ?_
    refine ev_icmp_lt (tgt := 33) (a_dec_at dc_JI_numberOfLeadingZeros 12 rfl) (by decide) (fun b2 => ?_) (fun b2 => ?_)
    · have H := H.1 b2
      refine ev_iload_n (i := 0) rfl rfl (a_dec_at dc_JI_numberOfLeadingZeros 18 rfl) ?_
      refine ev_sipush (v := 256) rfl (a_dec_at dc_JI_numberOfLeadingZeros 19 rfl) ?_
      refine ev_icmp_lt (tgt := 48) (a_dec_at dc_JI_numberOfLeadingZeros 20 rfl) (by decide) (fun b3 => ?_) (fun b3 => ?_)
      · have H := H.1 b3
        refine ev_iload_n (i := 0) rfl rfl (a_dec_at dc_JI_numberOfLeadingZeros 26 rfl) ?_
        refine ev_bipush (v := 16) rfl (a_dec_at dc_JI_numberOfLeadingZeros 27 rfl) ?_
        refine ev_icmp_lt (tgt := 61) (a_dec_at dc_JI_numberOfLeadingZeros 28 rfl) (by decide) (fun b4 => ?_) (fun b4 => ?_)
        · have H := H.1 b4
          refine ev_iload_n (i := 0) rfl rfl (a_dec_at dc_JI_numberOfLeadingZeros 34 rfl) ?_
          refine ev_iconst (v := 4) rfl (a_dec_at dc_JI_numberOfLeadingZeros 35 rfl) ?_
          refine ev_icmp_lt (tgt := 73) (a_dec_at dc_JI_numberOfLeadingZeros 36 rfl) (by decide) (fun b5 => ?_) (fun b5 => ?_)
          · have H := H.1 b5
            refine ev_iload_n (i := 1) rfl rfl (a_dec_at dc_JI_numberOfLeadingZeros 42 rfl) ?_
            refine ev_iload_n (i := 0) rfl rfl (a_dec_at dc_JI_numberOfLeadingZeros 43 rfl) ?_
            refine ev_iconst (v := 1) rfl (a_dec_at dc_JI_numberOfLeadingZeros 44 rfl) ?_
            refine ev_iushr (a_dec_at dc_JI_numberOfLeadingZeros 45 rfl) ?_
            refine ev_isub (a_dec_at dc_JI_numberOfLeadingZeros 46 rfl) ?_
            exact m_retI (a_dec_at dc_JI_numberOfLeadingZeros 47 rfl) rfl rfl H
          · have H := H.2 b5
            refine ev_iinc (v := (-2)) rfl rfl (by decide) rfl (a_dec_at dc_JI_numberOfLeadingZeros 37 rfl) ?_
            refine ev_iload_n (i := 0) rfl rfl (a_dec_at dc_JI_numberOfLeadingZeros 38 rfl) ?_
            refine ev_iconst (v := 2) rfl (a_dec_at dc_JI_numberOfLeadingZeros 39 rfl) ?_
            refine ev_iushr (a_dec_at dc_JI_numberOfLeadingZeros 40 rfl) ?_
            refine ev_istore_n (i := 0) rfl (by decide) rfl (a_dec_at dc_JI_numberOfLeadingZeros 41 rfl) ?_
            refine ev_iload_n (i := 1) rfl rfl (a_dec_at dc_JI_numberOfLeadingZeros 42 rfl) ?_
            refine ev_iload_n (i := 0) rfl rfl (a_dec_at dc_JI_numberOfLeadingZeros 43 rfl) ?_
            refine ev_iconst (v := 1) rfl (a_dec_at dc_JI_numberOfLeadingZeros 44 rfl) ?_
            refine ev_iushr (a_dec_at dc_JI_numberOfLeadingZeros 45 rfl) ?_
            refine ev_isub (a_dec_at dc_JI_numberOfLeadingZeros 46 rfl) ?_
            exact m_retI (a_dec_at dc_JI_numberOfLeadingZeros 47 rfl) rfl rfl H
        · have H := H.2 b4
          refine ev_iinc (v := (-4)) rfl rfl (by decide) rfl (a_dec_at dc_JI_numberOfLeadingZeros 29 rfl) ?_
          refine ev_iload_n (i := 0) rfl rfl (a_dec_at dc_JI_numberOfLeadingZeros 30 rfl) ?_
          refine ev_iconst (v := 4) rfl (a_dec_at dc_JI_numberOfLeadingZeros 31 rfl) ?_
          refine ev_iushr (a_dec_at dc_JI_numberOfLeadingZeros 32 rfl) ?_
          refine ev_istore_n (i := 0) rfl (by decide) rfl (a_dec_at dc_JI_numberOfLeadingZeros 33 rfl) ?_
          refine ev_iload_n (i := 0) rfl rfl (a_dec_at dc_JI_numberOfLeadingZeros 34 rfl) ?_
          refine ev_iconst (v := 4) rfl (a_dec_at dc_JI_numberOfLeadingZeros 35 rfl) ?_
          refine ev_icmp_lt (tgt := 73) (a_dec_at dc_JI_numberOfLeadingZeros 36 rfl) (by decide) (fun b6 => ?_) (fun b6 => ?_)
          · have H := H.1 b6
            refine ev_iload_n (i := 1) rfl rfl (a_dec_at dc_JI_numberOfLeadingZeros 42 rfl) ?_
            refine ev_iload_n (i := 0) rfl rfl (a_dec_at dc_JI_numberOfLeadingZeros 43 rfl) ?_
            refine ev_iconst (v := 1) rfl (a_dec_at dc_JI_numberOfLeadingZeros 44 rfl) ?_
            refine ev_iushr (a_dec_at dc_JI_numberOfLeadingZeros 45 rfl) ?_
            refine ev_isub (a_dec_at dc_JI_numberOfLeadingZeros 46 rfl) ?_
            exact m_retI (a_dec_at dc_JI_numberOfLeadingZeros 47 rfl) rfl rfl H
          · have H := H.2 b6
            refine ev_iinc (v := (-2)) rfl rfl (by decide) rfl (a_dec_at dc_JI_numberOfLeadingZeros 37 rfl) ?_
            refine ev_iload_n (i := 0) rfl rfl (a_dec_at dc_JI_numberOfLeadingZeros 38 rfl) ?_
            refine ev_iconst (v := 2) rfl (a_dec_at dc_JI_numberOfLeadingZeros 39 rfl) ?_
            refine ev_iushr (a_dec_at dc_JI_numberOfLeadingZeros 40 rfl) ?_
            refine ev_istore_n (i := 0) rfl (by decide) rfl (a_dec_at dc_JI_numberOfLeadingZeros 41 rfl) ?_
            refine ev_iload_n (i := 1) rfl rfl (a_dec_at dc_JI_numberOfLeadingZeros 42 rfl) ?_
            refine ev_iload_n (i := 0) rfl rfl (a_dec_at dc_JI_numberOfLeadingZeros 43 rfl) ?_
            refine ev_iconst (v := 1) rfl (a_dec_at dc_JI_numberOfLeadingZeros 44 rfl) ?_
            refine ev_iushr (a_dec_at dc_JI_numberOfLeadingZeros 45 rfl) ?_
            refine ev_isub (a_dec_at dc_JI_numberOfLeadingZeros 46 rfl) ?_
            exact m_retI (a_dec_at dc_JI_numberOfLeadingZeros 47 rfl) rfl rfl H
      · have H := H.2 b3
        refine ev_iinc (v := (-8)) rfl rfl (by decide) rfl (a_dec_at dc_JI_numberOfLeadingZeros 21 rfl) ?_
        refine ev_iload_n (i := 0) rfl rfl (a_dec_at dc_JI_numberOfLeadingZeros 22 rfl) ?_
        refine ev_bipush (v := 8) rfl (a_dec_at dc_JI_numberOfLeadingZeros 23 rfl) ?_
        refine ev_iushr (a_dec_at dc_JI_numberOfLeadingZeros 24 rfl) ?_
        refine ev_istore_n (i := 0) rfl (by decide) rfl (a_dec_at dc_JI_numberOfLeadingZeros 25 rfl) ?_
        refine ev_iload_n (i := 0) rfl rfl (a_dec_at dc_JI_numberOfLeadingZeros 26 rfl) ?_
        refine ev_bipush (v := 16) rfl (a_dec_at dc_JI_numberOfLeadingZeros 27 rfl) ?_
        refine ev_icmp_lt (tgt := 61) (a_dec_at dc_JI_numberOfLeadingZeros 28 rfl) (by decide) (fun b7 => ?_) (fun b7 => ?_)
        · have H := H.1 b7
          refine ev_iload_n (i := 0) rfl rfl (a_dec_at dc_JI_numberOfLeadingZeros 34 rfl) ?_
          refine ev_iconst (v := 4) rfl (a_dec_at dc_JI_numberOfLeadingZeros 35 rfl) ?_
          refine ev_icmp_lt (tgt := 73) (a_dec_at dc_JI_numberOfLeadingZeros 36 rfl) (by decide) (fun b8 => ?_) (fun b8 => ?_)
          · have H := H.1 b8
            refine ev_iload_n (i := 1) rfl rfl (a_dec_at dc_JI_numberOfLeadingZeros 42 rfl) ?_
            refine ev_iload_n (i := 0) rfl rfl (a_dec_at dc_JI_numberOfLeadingZeros 43 rfl) ?_
            refine ev_iconst (v := 1) rfl (a_dec_at dc_JI_numberOfLeadingZeros 44 rfl) ?_
            refine ev_iushr (a_dec_at dc_JI_numberOfLeadingZeros 45 rfl) ?_
            refine ev_isub (a_dec_at dc_JI_numberOfLeadingZeros 46 rfl) ?_
            exact m_retI (a_dec_at dc_JI_numberOfLeadingZeros 47 rfl) rfl rfl H
          · have H := H.2 b8
            refine ev_iinc (v := (-2)) rfl rfl (by decide) rfl (a_dec_at dc_JI_numberOfLeadingZeros 37 rfl) ?_
            refine ev_iload_n (i := 0) rfl rfl (a_dec_at dc_JI_numberOfLeadingZeros 38 rfl) ?_
            refine ev_iconst (v := 2) rfl (a_dec_at dc_JI_numberOfLeadingZeros 39 rfl) ?_
            refine ev_iushr (a_dec_at dc_JI_numberOfLeadingZeros 40 rfl) ?_
            refine ev_istore_n (i := 0) rfl (by decide) rfl (a_dec_at dc_JI_numberOfLeadingZeros 41 rfl) ?_
            refine ev_iload_n (i := 1) rfl rfl (a_dec_at dc_JI_numberOfLeadingZeros 42 rfl) ?_
            refine ev_iload_n (i := 0) rfl rfl (a_dec_at dc_JI_numberOfLeadingZeros 43 rfl) ?_
            refine ev_iconst (v := 1) rfl (a_dec_at dc_JI_numberOfLeadingZeros 44 rfl) ?_
            refine ev_iushr (a_dec_at dc_JI_numberOfLeadingZeros 45 rfl) ?_
            refine ev_isub (a_dec_at dc_JI_numberOfLeadingZeros 46 rfl) ?_
            exact m_retI (a_dec_at dc_JI_numberOfLeadingZeros 47 rfl) rfl rfl H
        · have H := H.2 b7
          refine ev_iinc (v := (-4)) rfl rfl (by decide) rfl (a_dec_at dc_JI_numberOfLeadingZeros 29 rfl) ?_
          refine ev_iload_n (i := 0) rfl rfl (a_dec_at dc_JI_numberOfLeadingZeros 30 rfl) ?_
          refine ev_iconst (v := 4) rfl (a_dec_at dc_JI_numberOfLeadingZeros 31 rfl) ?_
          refine ev_iushr (a_dec_at dc_JI_numberOfLeadingZeros 32 rfl) ?_
          refine ev_istore_n (i := 0) rfl (by decide) rfl (a_dec_at dc_JI_numberOfLeadingZeros 33 rfl) ?_
          refine ev_iload_n (i := 0) rfl rfl (a_dec_at dc_JI_numberOfLeadingZeros 34 rfl) ?_
          refine ev_iconst (v := 4) rfl (a_dec_at dc_JI_numberOfLeadingZeros 35 rfl) ?_
          refine ev_icmp_lt (tgt := 73) (a_dec_at dc_JI_numberOfLeadingZeros 36 rfl) (by decide) (fun b9 => ?_) (fun b9 => ?_)
          · have H := H.1 b9
            refine ev_iload_n (i := 1) rfl rfl (a_dec_at dc_JI_numberOfLeadingZeros 42 rfl) ?_
            refine ev_iload_n (i := 0) rfl rfl (a_dec_at dc_JI_numberOfLeadingZeros 43 rfl) ?_
            refine ev_iconst (v := 1) rfl (a_dec_at dc_JI_numberOfLeadingZeros 44 rfl) ?_
            refine ev_iushr (a_dec_at dc_JI_numberOfLeadingZeros 45 rfl) ?_
            refine ev_isub (a_dec_at dc_JI_numberOfLeadingZeros 46 rfl) ?_
            exact m_retI (a_dec_at dc_JI_numberOfLeadingZeros 47 rfl) rfl rfl H
          · have H := H.2 b9
            refine ev_iinc (v := (-2)) rfl rfl (by decide) rfl (a_dec_at dc_JI_numberOfLeadingZeros 37 rfl) ?_
            refine ev_iload_n (i := 0) rfl rfl (a_dec_at dc_JI_numberOfLeadingZeros 38 rfl) ?_
            refine ev_iconst (v := 2) rfl (a_dec_at dc_JI_numberOfLeadingZeros 39 rfl) ?_
            refine ev_iushr (a_dec_at dc_JI_numberOfLeadingZeros 40 rfl) ?_
            refine ev_istore_n (i := 0) rfl (by decide) rfl (a_dec_at dc_JI_numberOfLeadingZeros 41 rfl) ?_
            refine ev_iload_n (i := 1) rfl rfl (a_dec_at dc_JI_numberOfLeadingZeros 42 rfl) ?_
            refine ev_iload_n (i := 0) rfl rfl (a_dec_at dc_JI_numberOfLeadingZeros 43 rfl) ?_
            refine ev_iconst (v := 1) rfl (a_dec_at dc_JI_numberOfLeadingZeros 44 rfl) ?_
            refine ev_iushr (a_dec_at dc_JI_numberOfLeadingZeros 45 rfl) ?_
            refine ev_isub (a_dec_at dc_JI_numberOfLeadingZeros 46 rfl) ?_
            exact m_retI (a_dec_at dc_JI_numberOfLeadingZeros 47 rfl) rfl rfl H
    · have H := H.2 b2
      refine ev_iinc (v := (-16)) rfl rfl (by decide) rfl (a_dec_at dc_JI_numberOfLeadingZeros 13 rfl) ?_
      refine ev_iload_n (i := 0) rfl rfl (a_dec_at dc_JI_numberOfLeadingZeros 14 rfl) ?_
      refine ev_bipush (v := 16) rfl (a_dec_at dc_JI_numberOfLeadingZeros 15 rfl) ?_
      refine ev_iushr (a_dec_at dc_JI_numberOfLeadingZeros 16 rfl) ?_
      refine ev_istore_n (i := 0) rfl (by decide) rfl (a_dec_at dc_JI_numberOfLeadingZeros 17 rfl) ?_
      refine ev_iload_n (i := 0) rfl rfl (a_dec_at dc_JI_numberOfLeadingZeros 18 rfl) ?_
      refine ev_sipush (v := 256) rfl (a_dec_at dc_JI_numberOfLeadingZeros 19 rfl) ?_
      refine ev_icmp_lt (tgt := 48) (a_dec_at dc_JI_numberOfLeadingZeros 20 rfl) (by decide) (fun b10 => ?_) (fun b10 => ?_)
      · have H := H.1 b10
        refine ev_iload_n (i := 0) rfl rfl (a_dec_at dc_JI_numberOfLeadingZeros 26 rfl) ?_
        refine ev_bipush (v := 16) rfl (a_dec_at dc_JI_numberOfLeadingZeros 27 rfl) ?_
        refine ev_icmp_lt (tgt := 61) (a_dec_at dc_JI_numberOfLeadingZeros 28 rfl) (by decide) (fun b11 => ?_) (fun b11 => ?_)
        · have H := H.1 b11
          refine ev_iload_n (i := 0) rfl rfl (a_dec_at dc_JI_numberOfLeadingZeros 34 rfl) ?_
          refine ev_iconst (v := 4) rfl (a_dec_at dc_JI_numberOfLeadingZeros 35 rfl) ?_
          refine ev_icmp_lt (tgt := 73) (a_dec_at dc_JI_numberOfLeadingZeros 36 rfl) (by decide) (fun b12 => ?_) (fun b12 => ?_)
          · have H := H.1 b12
            refine ev_iload_n (i := 1) rfl rfl (a_dec_at dc_JI_numberOfLeadingZeros 42 rfl) ?_
            refine ev_iload_n (i := 0) rfl rfl (a_dec_at dc_JI_numberOfLeadingZeros 43 rfl) ?_
            refine ev_iconst (v := 1) rfl (a_dec_at dc_JI_numberOfLeadingZeros 44 rfl) ?_
            refine ev_iushr (a_dec_at dc_JI_numberOfLeadingZeros 45 rfl) ?_
            refine ev_isub (a_dec_at dc_JI_numberOfLeadingZeros 46 rfl) ?_
            exact m_retI (a_dec_at dc_JI_numberOfLeadingZeros 47 rfl) rfl rfl H
          · have H := H.2 b12
            refine ev_iinc (v := (-2)) rfl rfl (by decide) rfl (a_dec_at dc_JI_numberOfLeadingZeros 37 rfl) ?_
            refine ev_iload_n (i := 0) rfl rfl (a_dec_at dc_JI_numberOfLeadingZeros 38 rfl) ?_
            refine ev_iconst (v := 2) rfl (a_dec_at dc_JI_numberOfLeadingZeros 39 rfl) ?_
            refine ev_iushr (a_dec_at dc_JI_numberOfLeadingZeros 40 rfl) ?_
            refine ev_istore_n (i := 0) rfl (by decide) rfl (a_dec_at dc_JI_numberOfLeadingZeros 41 rfl) ?_
            refine ev_iload_n (i := 1) rfl rfl (a_dec_at dc_JI_numberOfLeadingZeros 42 rfl) ?_
            refine ev_iload_n (i := 0) rfl rfl (a_dec_at dc_JI_numberOfLeadingZeros 43 rfl) ?_
            refine ev_iconst (v := 1) rfl (a_dec_at dc_JI_numberOfLeadingZeros 44 rfl) ?_
            refine ev_iushr (a_dec_at dc_JI_numberOfLeadingZeros 45 rfl) ?_
            refine ev_isub (a_dec_at dc_JI_numberOfLeadingZeros 46 rfl) ?_
            exact m_retI (a_dec_at dc_JI_numberOfLeadingZeros 47 rfl) rfl rfl H
        · have H := H.2 b11
          refine ev_iinc (v := (-4)) rfl rfl (by decide) rfl (a_dec_at dc_JI_numberOfLeadingZeros 29 rfl) ?_
          refine ev_iload_n (i := 0) rfl rfl (a_dec_at dc_JI_numberOfLeadingZeros 30 rfl) ?_
          refine ev_iconst (v := 4) rfl (a_dec_at dc_JI_numberOfLeadingZeros 31 rfl) ?_
          refine ev_iushr (a_dec_at dc_JI_numberOfLeadingZeros 32 rfl) ?_
          refine ev_istore_n (i := 0) rfl (by decide) rfl (a_dec_at dc_JI_numberOfLeadingZeros 33 rfl) ?_
          refine ev_iload_n (i := 0) rfl rfl (a_dec_at dc_JI_numberOfLeadingZeros 34 rfl) ?_
          refine ev_iconst (v := 4) rfl (a_dec_at dc_JI_numberOfLeadingZeros 35 rfl) ?_
          refine ev_icmp_lt (tgt := 73) (a_dec_at dc_JI_numberOfLeadingZeros 36 rfl) (by decide) (fun b13 => ?_) (fun b13 => ?_)
          · have H := H.1 b13
            refine ev_iload_n (i := 1) rfl rfl (a_dec_at dc_JI_numberOfLeadingZeros 42 rfl) ?_
            refine ev_iload_n (i := 0) rfl rfl (a_dec_at dc_JI_numberOfLeadingZeros 43 rfl) ?_
            refine ev_iconst (v := 1) rfl (a_dec_at dc_JI_numberOfLeadingZeros 44 rfl) ?_
            refine ev_iushr (a_dec_at dc_JI_numberOfLeadingZeros 45 rfl) ?_
            refine ev_isub (a_dec_at dc_JI_numberOfLeadingZeros 46 rfl) ?_
            exact m_retI (a_dec_at dc_JI_numberOfLeadingZeros 47 rfl) rfl rfl H
          · have H := H.2 b13
            refine ev_iinc (v := (-2)) rfl rfl (by decide) rfl (a_dec_at dc_JI_numberOfLeadingZeros 37 rfl) ?_
            refine ev_iload_n (i := 0) rfl rfl (a_dec_at dc_JI_numberOfLeadingZeros 38 rfl) ?_
            refine ev_iconst (v := 2) rfl (a_dec_at dc_JI_numberOfLeadingZeros 39 rfl) ?_
            refine ev_iushr (a_dec_at dc_JI_numberOfLeadingZeros 40 rfl) ?_
            refine ev_istore_n (i := 0) rfl (by decide) rfl (a_dec_at dc_JI_numberOfLeadingZeros 41 rfl) ?_
            refine ev_iload_n (i := 1) rfl rfl (a_dec_at dc_JI_numberOfLeadingZeros 42 rfl) ?_
            refine ev_iload_n (i := 0) rfl rfl (a_dec_at dc_JI_numberOfLeadingZeros 43 rfl) ?_
            refine ev_iconst (v := 1) rfl (a_dec_at dc_JI_numberOfLeadingZeros 44 rfl) ?_
            refine ev_iushr (a_dec_at dc_JI_numberOfLeadingZeros 45 rfl) ?_
            refine ev_isub (a_dec_at dc_JI_numberOfLeadingZeros 46 rfl) ?_
            exact m_retI (a_dec_at dc_JI_numberOfLeadingZeros 47 rfl) rfl rfl H
      · have H := H.2 b10
        refine ev_iinc (v := (-8)) rfl rfl (by decide) rfl (a_dec_at dc_JI_numberOfLeadingZeros 21 rfl) ?_
        refine ev_iload_n (i := 0) rfl rfl (a_dec_at dc_JI_numberOfLeadingZeros 22 rfl) ?_
        refine ev_bipush (v := 8) rfl (a_dec_at dc_JI_numberOfLeadingZeros 23 rfl) ?_
        refine ev_iushr (a_dec_at dc_JI_numberOfLeadingZeros 24 rfl) ?_
        refine ev_istore_n (i := 0) rfl (by decide) rfl (a_dec_at dc_JI_numberOfLeadingZeros 25 rfl) ?_
        refine ev_iload_n (i := 0) rfl rfl (a_dec_at dc_JI_numberOfLeadingZeros 26 rfl) ?_
        refine ev_bipush (v := 16) rfl (a_dec_at dc_JI_numberOfLeadingZeros 27 rfl) ?_
        refine ev_icmp_lt (tgt := 61) (a_dec_at dc_JI_numberOfLeadingZeros 28 rfl) (by decide) (fun b14 => ?_) (fun b14 => ?_)
        · have H := H.1 b14
          refine ev_iload_n (i := 0) rfl rfl (a_dec_at dc_JI_numberOfLeadingZeros 34 rfl) ?_
          refine ev_iconst (v := 4) rfl (a_dec_at dc_JI_numberOfLeadingZeros 35 rfl) ?_
          refine ev_icmp_lt (tgt := 73) (a_dec_at dc_JI_numberOfLeadingZeros 36 rfl) (by decide) (fun b15 => ?_) (fun b15 => ?_)
          · have H := H.1 b15
            refine ev_iload_n (i := 1) rfl rfl (a_dec_at dc_JI_numberOfLeadingZeros 42 rfl) ?_
            refine ev_iload_n (i := 0) rfl rfl (a_dec_at dc_JI_numberOfLeadingZeros 43 rfl) ?_
            refine ev_iconst (v := 1) rfl (a_dec_at dc_JI_numberOfLeadingZeros 44 rfl) ?_
            refine ev_iushr (a_dec_at dc_JI_numberOfLeadingZeros 45 rfl) ?_
            refine ev_isub (a_dec_at dc_JI_numberOfLeadingZeros 46 rfl) ?_
            exact m_retI (a_dec_at dc_JI_numberOfLeadingZeros 47 rfl) rfl rfl H
          · have H := H.2 b15
            refine ev_iinc (v := (-2)) rfl rfl (by decide) rfl (a_dec_at dc_JI_numberOfLeadingZeros 37 rfl) ?_
            refine ev_iload_n (i := 0) rfl rfl (a_dec_at dc_JI_numberOfLeadingZeros 38 rfl) ?_
            refine ev_iconst (v := 2) rfl (a_dec_at dc_JI_numberOfLeadingZeros 39 rfl) ?_
            refine ev_iushr (a_dec_at dc_JI_numberOfLeadingZeros 40 rfl) ?_
            refine ev_istore_n (i := 0) rfl (by decide) rfl (a_dec_at dc_JI_numberOfLeadingZeros 41 rfl) ?_
            refine ev_iload_n (i := 1) rfl rfl (a_dec_at dc_JI_numberOfLeadingZeros 42 rfl) ?_
            refine ev_iload_n (i := 0) rfl rfl (a_dec_at dc_JI_numberOfLeadingZeros 43 rfl) ?_
            refine ev_iconst (v := 1) rfl (a_dec_at dc_JI_numberOfLeadingZeros 44 rfl) ?_
            refine ev_iushr (a_dec_at dc_JI_numberOfLeadingZeros 45 rfl) ?_
            refine ev_isub (a_dec_at dc_JI_numberOfLeadingZeros 46 rfl) ?_
            exact m_retI (a_dec_at dc_JI_numberOfLeadingZeros 47 rfl) rfl rfl H
        · have H := H.2 b14
          refine ev_iinc (v := (-4)) rfl rfl (by decide) rfl (a_dec_at dc_JI_numberOfLeadingZeros 29 rfl) ?_
          refine ev_iload_n (i := 0) rfl rfl (a_dec_at dc_JI_numberOfLeadingZeros 30 rfl) ?_
          refine ev_iconst (v := 4) rfl (a_dec_at dc_JI_numberOfLeadingZeros 31 rfl) ?_
          refine ev_iushr (a_dec_at dc_JI_numberOfLeadingZeros 32 rfl) ?_
          refine ev_istore_n (i := 0) rfl (by decide) rfl (a_dec_at dc_JI_numberOfLeadingZeros 33 rfl) ?_
          refine ev_iload_n (i := 0) rfl rfl (a_dec_at dc_JI_numberOfLeadingZeros 34 rfl) ?_
          refine ev_iconst (v := 4) rfl (a_dec_at dc_JI_numberOfLeadingZeros 35 rfl) ?_
          refine ev_icmp_lt (tgt := 73) (a_dec_at dc_JI_numberOfLeadingZeros 36 rfl) (by decide) (fun b16 => ?_) (fun b16 => ?_)
          · have H := H.1 b16
            refine ev_iload_n (i := 1) rfl rfl (a_dec_at dc_JI_numberOfLeadingZeros 42 rfl) ?_
            refine ev_iload_n (i := 0) rfl rfl (a_dec_at dc_JI_numberOfLeadingZeros 43 rfl) ?_
            refine ev_iconst (v := 1) rfl (a_dec_at dc_JI_numberOfLeadingZeros 44 rfl) ?_
            refine ev_iushr (a_dec_at dc_JI_numberOfLeadingZeros 45 rfl) ?_
            refine ev_isub (a_dec_at dc_JI_numberOfLeadingZeros 46 rfl) ?_
            exact m_retI (a_dec_at dc_JI_numberOfLeadingZeros 47 rfl) rfl rfl H
          · have H := H.2 b16
            refine ev_iinc (v := (-2)) rfl rfl (by decide) rfl (a_dec_at dc_JI_numberOfLeadingZeros 37 rfl) ?_
            refine ev_iload_n (i := 0) rfl rfl (a_dec_at dc_JI_numberOfLeadingZeros 38 rfl) ?_
            refine ev_iconst (v := 2) rfl (a_dec_at dc_JI_numberOfLeadingZeros 39 rfl) ?_
            refine ev_iushr (a_dec_at dc_JI_numberOfLeadingZeros 40 rfl) ?_
            refine ev_istore_n (i := 0) rfl (by decide) rfl (a_dec_at dc_JI_numberOfLeadingZeros 41 rfl) ?_
            refine ev_iload_n (i := 1) rfl rfl (a_dec_at dc_JI_numberOfLeadingZeros 42 rfl) ?_
            refine ev_iload_n (i := 0) rfl rfl (a_dec_at dc_JI_numberOfLeadingZeros 43 rfl) ?_
            refine ev_iconst (v := 1) rfl (a_dec_at dc_JI_numberOfLeadingZeros 44 rfl) ?_
            refine ev_iushr (a_dec_at dc_JI_numberOfLeadingZeros 45 rfl) ?_
            refine ev_isub (a_dec_at dc_JI_numberOfLeadingZeros 46 rfl) ?_
            exact m_retI (a_dec_at dc_JI_numberOfLeadingZeros 47 rfl) rfl rfl H
  · have H := H.2 b1
    refine ev_iload_n (i := 0) rfl rfl (a_dec_at dc_JI_numberOfLeadingZeros 2 rfl) ?_
    refine ev_if_ne (tgt := 13) (a_dec_at dc_JI_numberOfLeadingZeros 3 rfl) (by decide) (fun b17 => ?_) (fun b17 => ?_)
    · have H := H.1 b17
      refine ev_iconst (v := 0) rfl (a_dec_at dc_JI_numberOfLeadingZeros 6 rfl) ?_
      exact m_retI (a_dec_at dc_JI_numberOfLeadingZeros 7 rfl) rfl rfl H
    · have H := H.2 b17
      refine ev_bipush (v := 32) rfl (a_dec_at dc_JI_numberOfLeadingZeros 4 rfl) ?_
      refine ev_goto (tgt := 14) (a_dec_at dc_JI_numberOfLeadingZeros 5 rfl) (by decide) ?_
      exact m_retI (a_dec_at dc_JI_numberOfLeadingZeros 7 rfl) rfl rfl H
set_option maxRecDepth 20000 in
theorem t_JA_fill {l : Launch} {h : Nat} (mi : TMi) (ml : TMl) (z : Nat) (w1 lw1 : Nat) (a2 : Int32) (hw1 : SH[w1]? = some (.inr (0, lw1))) {Q : TMi → TMl → Nat → Prop} (H : Ev l (h + 1) m_JA_fill 5 ([.ref w1, .int a2, .int 0, .int (nI lw1)], [], st mi ml z) (qV Q)) : CV l (h + 1) m_JA_fill [.ref w1, .int a2] mi ml z Q := by
  show Ev l (h + 1) m_JA_fill 0 ([.ref w1, .int a2, .retAddr 0, .retAddr 0], [], st mi ml z) (qV Q)
  refine ev_iconst (v := 0) rfl (a_dec_at dc_JA_fill 0 rfl) ?_
  refine ev_istore_n (i := 2) rfl (by decide) rfl (a_dec_at dc_JA_fill 1 rfl) ?_
  refine ev_aload_n (i := 0) rfl rfl (a_dec_at dc_JA_fill 2 rfl) ?_
  refine m_alen (by decide) hw1 (a_dec_at dc_JA_fill 3 rfl) ?_
  refine ev_istore_n (i := 3) rfl (by decide) rfl (a_dec_at dc_JA_fill 4 rfl) ?_
  exact Ev.drop (L' := [.ref w1, .int a2, .int 0, .int (nI lw1)]) (And.intro rfl (And.intro rfl (And.intro rfl (And.intro rfl trivial)))) H
set_option maxRecDepth 20000 in
theorem t_JA_fill_5 {l : Launch} {h : Nat} (mi : TMi) (ml : TMl) (z : Nat) (w1 lw1 : Nat) (v1 : Int32) (v2 : Int32) (v3 : Int32) (hw1 : SH[w1]? = some (.inr (0, lw1))) {Q : TMi → TMl → Nat → Prop} (H : ((v3 ≤ v2 → Q mi ml z) ∧ (¬ v3 ≤ v2 → (vp_in v2 lw1) ∧ Ev l (h + 1) m_JA_fill 5 ([.ref w1, .int v1, .int (v2 + 1), .int v3], [], st (up mi w1 v2.toNatClampNeg v1) ml z) (qV Q)))) : Ev l (h + 1) m_JA_fill 5 ([.ref w1, .int v1, .int v2, .int v3], [], st mi ml z) (qV Q) := by
  refine ev_iload_n (i := 2) rfl rfl (a_dec_at dc_JA_fill 5 rfl) ?_
  refine ev_iload_n (i := 3) rfl rfl (a_dec_at dc_JA_fill 6 rfl) ?_
  refine ev_icmp_ge (tgt := 20) (a_dec_at dc_JA_fill 7 rfl) (by decide) (fun b1 => ?_) (fun b1 => ?_)
  · have H := H.1 b1
    exact m_retV (a_dec_at dc_JA_fill 14 rfl) rfl H
  · have H := H.2 b1
    refine ev_aload_n (i := 0) rfl rfl (a_dec_at dc_JA_fill 8 rfl) ?_
    refine ev_iload_n (i := 2) rfl rfl (a_dec_at dc_JA_fill 9 rfl) ?_
    refine ev_iload_n (i := 1) rfl rfl (a_dec_at dc_JA_fill 10 rfl) ?_
    obtain ⟨c2, H⟩ := H
    refine w_iast (k := v2.toNatClampNeg) hw1 c2 rfl (a_dec_at dc_JA_fill 11 rfl) ?_
    refine ev_iinc (v := 1) rfl rfl (by decide) rfl (a_dec_at dc_JA_fill 12 rfl) ?_
    refine ev_goto (tgt := 5) (a_dec_at dc_JA_fill 13 rfl) (by decide) ?_
    exact Ev.drop (L' := [.ref w1, .int v1, .int (v2 + 1), .int v3]) (And.intro rfl (And.intro rfl (And.intro rfl (And.intro rfl trivial)))) H
set_option maxRecDepth 20000 in
theorem t_JA_fill2_112 {l : Launch} {h : Nat} (mi : TMi) (ml : TMl) (z : Nat) (a2 : Int64) {Q : TMi → TMl → Nat → Prop} (H : Ev l (h + 1) m_JA_fill2 6 ([.ref 112, .long a2, .retAddr 0, .int 0, .int (nI 40)], [], st mi ml z) (qV Q)) : CV l (h + 1) m_JA_fill2 [.ref 112, .long a2] mi ml z Q := by
  show Ev l (h + 1) m_JA_fill2 0 ([.ref 112, .long a2, .retAddr 0, .retAddr 0, .retAddr 0], [], st mi ml z) (qV Q)
  refine ev_iconst (v := 0) rfl (a_dec_at dc_JA_fill2 0 rfl) ?_
  refine ev_istore_n (i := 3) rfl (by decide) rfl (a_dec_at dc_JA_fill2 1 rfl) ?_
  refine ev_aload_n (i := 0) rfl rfl (a_dec_at dc_JA_fill2 2 rfl) ?_
  refine m_alen (by decide) sh112 (a_dec_at dc_JA_fill2 3 rfl) ?_
  refine ev_istore (by decide) rfl (a_dec_at dc_JA_fill2 4 rfl) ?_
  exact Ev.drop (L' := [.ref 112, .long a2, .retAddr 0, .int 0, .int (nI 40)]) (And.intro rfl (And.intro rfl (And.intro rfl (And.intro rfl trivial)))) H
set_option maxRecDepth 20000 in
theorem t_JA_fill2_112_6 {l : Launch} {h : Nat} (mi : TMi) (ml : TMl) (z : Nat) (w1 : Int64) (v3 : Int32) (v4 : Int32) {Q : TMi → TMl → Nat → Prop} (H : ((v4 ≤ v3 → Q mi ml z) ∧ (¬ v4 ≤ v3 → (vp_in v3 40) ∧ Ev l (h + 1) m_JA_fill2 6 ([.ref 112, .long w1, .retAddr 0, .int (v3 + 1), .int v4], [], st mi (upL ml 112 v3.toNatClampNeg w1) z) (qV Q)))) : Ev l (h + 1) m_JA_fill2 6 ([.ref 112, .long w1, .retAddr 0, .int v3, .int v4], [], st mi ml z) (qV Q) := by
  refine ev_iload_n (i := 3) rfl rfl (a_dec_at dc_JA_fill2 5 rfl) ?_
  refine ev_iload rfl (a_dec_at dc_JA_fill2 6 rfl) ?_
  refine ev_icmp_ge (tgt := 22) (a_dec_at dc_JA_fill2 7 rfl) (by decide) (fun b1 => ?_) (fun b1 => ?_)
  · have H := H.1 b1
    exact m_retV (a_dec_at dc_JA_fill2 14 rfl) rfl H
  · have H := H.2 b1
    refine ev_aload_n (i := 0) rfl rfl (a_dec_at dc_JA_fill2 8 rfl) ?_
    refine ev_iload_n (i := 3) rfl rfl (a_dec_at dc_JA_fill2 9 rfl) ?_
    refine ev_lload_n (i := 1) rfl rfl (a_dec_at dc_JA_fill2 10 rfl) ?_
    obtain ⟨c2, H⟩ := H
    refine w_last (k := v3.toNatClampNeg) sh112 c2 rfl (a_dec_at dc_JA_fill2 11 rfl) ?_
    refine ev_iinc (v := 1) rfl rfl (by decide) rfl (a_dec_at dc_JA_fill2 12 rfl) ?_
    refine ev_goto (tgt := 6) (a_dec_at dc_JA_fill2 13 rfl) (by decide) ?_
    exact Ev.drop (L' := [.ref 112, .long w1, .retAddr 0, .int (v3 + 1), .int v4]) (And.intro rfl (And.intro rfl (And.intro rfl (And.intro rfl trivial)))) H
set_option maxRecDepth 20000 in
theorem t_JA_fill2_114 {l : Launch} {h : Nat} (mi : TMi) (ml : TMl) (z : Nat) (a2 : Int64) {Q : TMi → TMl → Nat → Prop} (H : Ev l (h + 1) m_JA_fill2 6 ([.ref 114, .long a2, .retAddr 0, .int 0, .int (nI 40)], [], st mi ml z) (qV Q)) : CV l (h + 1) m_JA_fill2 [.ref 114, .long a2] mi ml z Q := by
  show Ev l (h + 1) m_JA_fill2 0 ([.ref 114, .long a2, .retAddr 0, .retAddr 0, .retAddr 0], [], st mi ml z) (qV Q)
  refine ev_iconst (v := 0) rfl (a_dec_at dc_JA_fill2 0 rfl) ?_
  refine ev_istore_n (i := 3) rfl (by decide) rfl (a_dec_at dc_JA_fill2 1 rfl) ?_
  refine ev_aload_n (i := 0) rfl rfl (a_dec_at dc_JA_fill2 2 rfl) ?_
  refine m_alen (by decide) sh114 (a_dec_at dc_JA_fill2 3 rfl) ?_
  refine ev_istore (by decide) rfl (a_dec_at dc_JA_fill2 4 rfl) ?_
  exact Ev.drop (L' := [.ref 114, .long a2, .retAddr 0, .int 0, .int (nI 40)]) (And.intro rfl (And.intro rfl (And.intro rfl (And.intro rfl trivial)))) H
set_option maxRecDepth 20000 in
theorem t_JA_fill2_114_6 {l : Launch} {h : Nat} (mi : TMi) (ml : TMl) (z : Nat) (w1 : Int64) (v3 : Int32) (v4 : Int32) {Q : TMi → TMl → Nat → Prop} (H : ((v4 ≤ v3 → Q mi ml z) ∧ (¬ v4 ≤ v3 → (vp_in v3 40) ∧ Ev l (h + 1) m_JA_fill2 6 ([.ref 114, .long w1, .retAddr 0, .int (v3 + 1), .int v4], [], st mi (upL ml 114 v3.toNatClampNeg w1) z) (qV Q)))) : Ev l (h + 1) m_JA_fill2 6 ([.ref 114, .long w1, .retAddr 0, .int v3, .int v4], [], st mi ml z) (qV Q) := by
  refine ev_iload_n (i := 3) rfl rfl (a_dec_at dc_JA_fill2 5 rfl) ?_
  refine ev_iload rfl (a_dec_at dc_JA_fill2 6 rfl) ?_
  refine ev_icmp_ge (tgt := 22) (a_dec_at dc_JA_fill2 7 rfl) (by decide) (fun b1 => ?_) (fun b1 => ?_)
  · have H := H.1 b1
    exact m_retV (a_dec_at dc_JA_fill2 14 rfl) rfl H
  · have H := H.2 b1
    refine ev_aload_n (i := 0) rfl rfl (a_dec_at dc_JA_fill2 8 rfl) ?_
    refine ev_iload_n (i := 3) rfl rfl (a_dec_at dc_JA_fill2 9 rfl) ?_
    refine ev_lload_n (i := 1) rfl rfl (a_dec_at dc_JA_fill2 10 rfl) ?_
    obtain ⟨c2, H⟩ := H
    refine w_last (k := v3.toNatClampNeg) sh114 c2 rfl (a_dec_at dc_JA_fill2 11 rfl) ?_
    refine ev_iinc (v := 1) rfl rfl (by decide) rfl (a_dec_at dc_JA_fill2 12 rfl) ?_
    refine ev_goto (tgt := 6) (a_dec_at dc_JA_fill2 13 rfl) (by decide) ?_
    exact Ev.drop (L' := [.ref 114, .long w1, .retAddr 0, .int (v3 + 1), .int v4]) (And.intro rfl (And.intro rfl (And.intro rfl (And.intro rfl trivial)))) H
set_option maxRecDepth 20000 in
theorem t_JA_fill2_116 {l : Launch} {h : Nat} (mi : TMi) (ml : TMl) (z : Nat) (a2 : Int64) {Q : TMi → TMl → Nat → Prop} (H : Ev l (h + 1) m_JA_fill2 6 ([.ref 116, .long a2, .retAddr 0, .int 0, .int (nI 40)], [], st mi ml z) (qV Q)) : CV l (h + 1) m_JA_fill2 [.ref 116, .long a2] mi ml z Q := by
  show Ev l (h + 1) m_JA_fill2 0 ([.ref 116, .long a2, .retAddr 0, .retAddr 0, .retAddr 0], [], st mi ml z) (qV Q)
  refine ev_iconst (v := 0) rfl (a_dec_at dc_JA_fill2 0 rfl) ?_
  refine ev_istore_n (i := 3) rfl (by decide) rfl (a_dec_at dc_JA_fill2 1 rfl) ?_
  refine ev_aload_n (i := 0) rfl rfl (a_dec_at dc_JA_fill2 2 rfl) ?_
  refine m_alen (by decide) sh116 (a_dec_at dc_JA_fill2 3 rfl) ?_
  refine ev_istore (by decide) rfl (a_dec_at dc_JA_fill2 4 rfl) ?_
  exact Ev.drop (L' := [.ref 116, .long a2, .retAddr 0, .int 0, .int (nI 40)]) (And.intro rfl (And.intro rfl (And.intro rfl (And.intro rfl trivial)))) H
set_option maxRecDepth 20000 in
theorem t_JA_fill2_116_6 {l : Launch} {h : Nat} (mi : TMi) (ml : TMl) (z : Nat) (w1 : Int64) (v3 : Int32) (v4 : Int32) {Q : TMi → TMl → Nat → Prop} (H : ((v4 ≤ v3 → Q mi ml z) ∧ (¬ v4 ≤ v3 → (vp_in v3 40) ∧ Ev l (h + 1) m_JA_fill2 6 ([.ref 116, .long w1, .retAddr 0, .int (v3 + 1), .int v4], [], st mi (upL ml 116 v3.toNatClampNeg w1) z) (qV Q)))) : Ev l (h + 1) m_JA_fill2 6 ([.ref 116, .long w1, .retAddr 0, .int v3, .int v4], [], st mi ml z) (qV Q) := by
  refine ev_iload_n (i := 3) rfl rfl (a_dec_at dc_JA_fill2 5 rfl) ?_
  refine ev_iload rfl (a_dec_at dc_JA_fill2 6 rfl) ?_
  refine ev_icmp_ge (tgt := 22) (a_dec_at dc_JA_fill2 7 rfl) (by decide) (fun b1 => ?_) (fun b1 => ?_)
  · have H := H.1 b1
    exact m_retV (a_dec_at dc_JA_fill2 14 rfl) rfl H
  · have H := H.2 b1
    refine ev_aload_n (i := 0) rfl rfl (a_dec_at dc_JA_fill2 8 rfl) ?_
    refine ev_iload_n (i := 3) rfl rfl (a_dec_at dc_JA_fill2 9 rfl) ?_
    refine ev_lload_n (i := 1) rfl rfl (a_dec_at dc_JA_fill2 10 rfl) ?_
    obtain ⟨c2, H⟩ := H
    refine w_last (k := v3.toNatClampNeg) sh116 c2 rfl (a_dec_at dc_JA_fill2 11 rfl) ?_
    refine ev_iinc (v := 1) rfl rfl (by decide) rfl (a_dec_at dc_JA_fill2 12 rfl) ?_
    refine ev_goto (tgt := 6) (a_dec_at dc_JA_fill2 13 rfl) (by decide) ?_
    exact Ev.drop (L' := [.ref 116, .long w1, .retAddr 0, .int (v3 + 1), .int v4]) (And.intro rfl (And.intro rfl (And.intro rfl (And.intro rfl trivial)))) H
set_option maxRecDepth 20000 in
theorem t_JA_fill2_118 {l : Launch} {h : Nat} (mi : TMi) (ml : TMl) (z : Nat) (a2 : Int64) {Q : TMi → TMl → Nat → Prop} (H : Ev l (h + 1) m_JA_fill2 6 ([.ref 118, .long a2, .retAddr 0, .int 0, .int (nI 40)], [], st mi ml z) (qV Q)) : CV l (h + 1) m_JA_fill2 [.ref 118, .long a2] mi ml z Q := by
  show Ev l (h + 1) m_JA_fill2 0 ([.ref 118, .long a2, .retAddr 0, .retAddr 0, .retAddr 0], [], st mi ml z) (qV Q)
  refine ev_iconst (v := 0) rfl (a_dec_at dc_JA_fill2 0 rfl) ?_
  refine ev_istore_n (i := 3) rfl (by decide) rfl (a_dec_at dc_JA_fill2 1 rfl) ?_
  refine ev_aload_n (i := 0) rfl rfl (a_dec_at dc_JA_fill2 2 rfl) ?_
  refine m_alen (by decide) sh118 (a_dec_at dc_JA_fill2 3 rfl) ?_
  refine ev_istore (by decide) rfl (a_dec_at dc_JA_fill2 4 rfl) ?_
  exact Ev.drop (L' := [.ref 118, .long a2, .retAddr 0, .int 0, .int (nI 40)]) (And.intro rfl (And.intro rfl (And.intro rfl (And.intro rfl trivial)))) H
set_option maxRecDepth 20000 in
theorem t_JA_fill2_118_6 {l : Launch} {h : Nat} (mi : TMi) (ml : TMl) (z : Nat) (w1 : Int64) (v3 : Int32) (v4 : Int32) {Q : TMi → TMl → Nat → Prop} (H : ((v4 ≤ v3 → Q mi ml z) ∧ (¬ v4 ≤ v3 → (vp_in v3 40) ∧ Ev l (h + 1) m_JA_fill2 6 ([.ref 118, .long w1, .retAddr 0, .int (v3 + 1), .int v4], [], st mi (upL ml 118 v3.toNatClampNeg w1) z) (qV Q)))) : Ev l (h + 1) m_JA_fill2 6 ([.ref 118, .long w1, .retAddr 0, .int v3, .int v4], [], st mi ml z) (qV Q) := by
  refine ev_iload_n (i := 3) rfl rfl (a_dec_at dc_JA_fill2 5 rfl) ?_
  refine ev_iload rfl (a_dec_at dc_JA_fill2 6 rfl) ?_
  refine ev_icmp_ge (tgt := 22) (a_dec_at dc_JA_fill2 7 rfl) (by decide) (fun b1 => ?_) (fun b1 => ?_)
  · have H := H.1 b1
    exact m_retV (a_dec_at dc_JA_fill2 14 rfl) rfl H
  · have H := H.2 b1
    refine ev_aload_n (i := 0) rfl rfl (a_dec_at dc_JA_fill2 8 rfl) ?_
    refine ev_iload_n (i := 3) rfl rfl (a_dec_at dc_JA_fill2 9 rfl) ?_
    refine ev_lload_n (i := 1) rfl rfl (a_dec_at dc_JA_fill2 10 rfl) ?_
    obtain ⟨c2, H⟩ := H
    refine w_last (k := v3.toNatClampNeg) sh118 c2 rfl (a_dec_at dc_JA_fill2 11 rfl) ?_
    refine ev_iinc (v := 1) rfl rfl (by decide) rfl (a_dec_at dc_JA_fill2 12 rfl) ?_
    refine ev_goto (tgt := 6) (a_dec_at dc_JA_fill2 13 rfl) (by decide) ?_
    exact Ev.drop (L' := [.ref 118, .long w1, .retAddr 0, .int (v3 + 1), .int v4]) (And.intro rfl (And.intro rfl (And.intro rfl (And.intro rfl trivial)))) H
set_option maxRecDepth 20000 in
theorem t_La_clear_3 {l : Launch} {h : Nat} (mi : TMi) (ml : TMl) (z : Nat) {Q : TMi → TMl → Nat → Prop} (H : Q (up (up (up (up (up (up mi 3 0 0) 3 1 0) 3 2 0) 3 11 0) 3 12 (-1)) 3 13 (-1)) ml z) : CV l (h + 1) m_La_clear [.ref 3] mi ml z Q := by
  show Ev l (h + 1) m_La_clear 0 ([.ref 3], [], st mi ml z) (qV Q)
  refine ev_aload_n (i := 0) rfl rfl (a_dec_at dc_La_clear 0 rfl) ?_
  refine ev_iconst (v := 0) rfl (a_dec_at dc_La_clear 1 rfl) ?_
  refine m_putI fl_La_43 rfl (fun _ _ _ h => by cases h; exact Or.inl rfl) sh3 (a_dec_at dc_La_clear 2 rfl) ?_
  refine ev_aload_n (i := 0) rfl rfl (a_dec_at dc_La_clear 3 rfl) ?_
  refine ev_iconst (v := 0) rfl (a_dec_at dc_La_clear 4 rfl) ?_
  refine m_putI fl_La_46 rfl (fun _ _ _ h => by cases h; exact Or.inl rfl) sh3 (a_dec_at dc_La_clear 5 rfl) ?_
  refine ev_aload_n (i := 0) rfl rfl (a_dec_at dc_La_clear 6 rfl) ?_
  refine ev_iconst (v := 0) rfl (a_dec_at dc_La_clear 7 rfl) ?_
  refine m_putI fl_La_49 rfl (fun _ _ _ h => by cases h; exact Or.inl rfl) sh3 (a_dec_at dc_La_clear 8 rfl) ?_
  refine ev_aload_n (i := 0) rfl rfl (a_dec_at dc_La_clear 9 rfl) ?_
  refine ev_iconst (v := 0) rfl (a_dec_at dc_La_clear 10 rfl) ?_
  refine m_putI fl_La_52 rfl (fun _ _ _ h => by cases h; exact Or.inl rfl) sh3 (a_dec_at dc_La_clear 11 rfl) ?_
  refine ev_aload_n (i := 0) rfl rfl (a_dec_at dc_La_clear 12 rfl) ?_
  refine ev_iconst (v := (-1)) rfl (a_dec_at dc_La_clear 13 rfl) ?_
  refine m_putI fl_La_36 rfl (fun _ _ _ h => by cases h; exact Or.inl rfl) sh3 (a_dec_at dc_La_clear 14 rfl) ?_
  refine ev_aload_n (i := 0) rfl rfl (a_dec_at dc_La_clear 15 rfl) ?_
  refine ev_iconst (v := (-1)) rfl (a_dec_at dc_La_clear 16 rfl) ?_
  refine m_putI fl_La_40 rfl (fun _ _ _ h => by cases h; exact Or.inl rfl) sh3 (a_dec_at dc_La_clear 17 rfl) ?_
  exact m_retV (a_dec_at dc_La_clear 18 rfl) rfl H
set_option maxRecDepth 20000 in
theorem t_La_hasRoomFor_3 {l : Launch} {h : Nat} (mi : TMi) (ml : TMl) (z : Nat) (a1 : Int32) {Q : Int32 → TMi → TMl → Nat → Prop} (H : Ev l (h + 1) m_La_hasRoomFor 4 ([.ref 3, .int a1, .int 0, .int 0], [], st mi ml z) (qI Q)) : CI l (h + 1) m_La_hasRoomFor [.ref 3, .int a1] mi ml z Q := by
  show Ev l (h + 1) m_La_hasRoomFor 0 ([.ref 3, .int a1, .retAddr 0, .retAddr 0], [], st mi ml z) (qI Q)
  refine ev_iconst (v := 0) rfl (a_dec_at dc_La_hasRoomFor 0 rfl) ?_
  refine ev_istore_n (i := 2) rfl (by decide) rfl (a_dec_at dc_La_hasRoomFor 1 rfl) ?_
  refine ev_iconst (v := 0) rfl (a_dec_at dc_La_hasRoomFor 2 rfl) ?_
  refine ev_istore_n (i := 3) rfl (by decide) rfl (a_dec_at dc_La_hasRoomFor 3 rfl) ?_
  exact Ev.drop (L' := [.ref 3, .int a1, .int 0, .int 0]) (And.intro rfl (And.intro rfl (And.intro rfl (And.intro rfl trivial)))) H
set_option maxRecDepth 20000 in
theorem t_La_hasRoomFor_3_4 {l : Launch} {h : Nat} (mi : TMi) (ml : TMl) (z : Nat) (v1 : Int32) (v2 : Int32) (v3 : Int32) {Q : Int32 → TMi → TMl → Nat → Prop} (H : (((mi 3 0) ≤ v3 → CI l h m_La_hasRiver [.ref 3, .int v1] mi ml z (fun x2 mi2 ml2 z2 => ((x2 = 0 → Q 0 mi2 ml2 z2) ∧ (¬ x2 = 0 → (vp_in v1 4) ∧ (((mi2 8 v1.toNatClampNeg) ≤ v2 → Q 0 mi2 ml2 z2) ∧ (¬ (mi2 8 v1.toNatClampNeg) ≤ v2 → Q 1 mi2 ml2 z2)))))) ∧ (¬ (mi 3 0) ≤ v3 → (vp_in v3 6) ∧ ((¬ (mi 7 v3.toNatClampNeg) = v1 → Ev l (h + 1) m_La_hasRoomFor 4 ([.ref 3, .int v1, .int v2, .int (v3 + 1)], [], st mi ml z) (qI Q)) ∧ ((mi 7 v3.toNatClampNeg) = v1 → Ev l (h + 1) m_La_hasRoomFor 4 ([.ref 3, .int v1, .int (v2 + 1), .int (v3 + 1)], [], st mi ml z) (qI Q)))))) : Ev l (h + 1) m_La_hasRoomFor 4 ([.ref 3, .int v1, .int v2, .int v3], [], st mi ml z) (qI Q) := by
  refine ev_iload_n (i := 3) rfl rfl (a_dec_at dc_La_hasRoomFor 4 rfl) ?_
  refine ev_aload_n (i := 0) rfl rfl (a_dec_at dc_La_hasRoomFor 5 rfl) ?_
  refine m_getI fl_La_43 rfl sh3 (a_dec_at dc_La_hasRoomFor 6 rfl) ?_
  refine ev_icmp_ge (tgt := 31) (a_dec_at dc_La_hasRoomFor 7 rfl) (by decide) (fun b1 => ?_) (fun b1 => ?_)
  · have H := H.1 b1
    refine ev_aload_n (i := 0) rfl rfl (a_dec_at dc_La_hasRoomFor 17 rfl) ?_
    refine ev_iload_n (i := 1) rfl rfl (a_dec_at dc_La_hasRoomFor 18 rfl) ?_
    refine cV1I cs_La_61 sh3 rfl (Nat.le_of_ble_eq_true rfl) (Nat.le_of_ble_eq_true rfl) (a_dec_at dc_La_hasRoomFor 19 rfl) ?_
    refine CI.mono (fun x2 mi2 ml2 z2 H => ?_) H
    refine ev_if_eq (tgt := 53) (a_dec_at dc_La_hasRoomFor 20 rfl) (by decide) (fun b3 => ?_) (fun b3 => ?_)
    · have H := H.1 b3
      refine ev_iconst (v := 0) rfl (a_dec_at dc_La_hasRoomFor 29 rfl) ?_
      exact m_retI (a_dec_at dc_La_hasRoomFor 30 rfl) rfl rfl H
    · have H := H.2 b3
      refine ev_iload_n (i := 2) rfl rfl (a_dec_at dc_La_hasRoomFor 21 rfl) ?_
      refine ev_aload_n (i := 0) rfl rfl (a_dec_at dc_La_hasRoomFor 22 rfl) ?_
      refine m_getR (y := 8) fl_La_24 rfl sh3 (mr_3_7 _) (by decide) (a_dec_at dc_La_hasRoomFor 23 rfl) ?_
      refine ev_iload_n (i := 1) rfl rfl (a_dec_at dc_La_hasRoomFor 24 rfl) ?_
      obtain ⟨c4, H⟩ := H
      refine w_iald (k := v1.toNatClampNeg) sh8 c4 rfl (a_dec_at dc_La_hasRoomFor 25 rfl) ?_
      refine ev_icmp_ge (tgt := 53) (a_dec_at dc_La_hasRoomFor 26 rfl) (by decide) (fun b5 => ?_) (fun b5 => ?_)
      · have H := H.1 b5
        refine ev_iconst (v := 0) rfl (a_dec_at dc_La_hasRoomFor 29 rfl) ?_
        exact m_retI (a_dec_at dc_La_hasRoomFor 30 rfl) rfl rfl H
      · have H := H.2 b5
        refine ev_iconst (v := 1) rfl (a_dec_at dc_La_hasRoomFor 27 rfl) ?_
        refine ev_goto (tgt := 54) (a_dec_at dc_La_hasRoomFor 28 rfl) (by decide) ?_
        exact m_retI (a_dec_at dc_La_hasRoomFor 30 rfl) rfl rfl H
  · have H := H.2 b1
    refine ev_aload_n (i := 0) rfl rfl (a_dec_at dc_La_hasRoomFor 8 rfl) ?_
    refine m_getR (y := 7) fl_La_21 rfl sh3 (mr_3_6 _) (by decide) (a_dec_at dc_La_hasRoomFor 9 rfl) ?_
    refine ev_iload_n (i := 3) rfl rfl (a_dec_at dc_La_hasRoomFor 10 rfl) ?_
    obtain ⟨c6, H⟩ := H
    refine w_iald (k := v3.toNatClampNeg) sh7 c6 rfl (a_dec_at dc_La_hasRoomFor 11 rfl) ?_
    refine ev_iload_n (i := 1) rfl rfl (a_dec_at dc_La_hasRoomFor 12 rfl) ?_
    refine ev_icmp_ne (tgt := 25) (a_dec_at dc_La_hasRoomFor 13 rfl) (by decide) (fun b7 => ?_) (fun b7 => ?_)
    · have H := H.1 b7
      refine ev_iinc (v := 1) rfl rfl (by decide) rfl (a_dec_at dc_La_hasRoomFor 15 rfl) ?_
      refine ev_goto (tgt := 4) (a_dec_at dc_La_hasRoomFor 16 rfl) (by decide) ?_
      exact Ev.drop (L' := [.ref 3, .int v1, .int v2, .int (v3 + 1)]) (And.intro rfl (And.intro rfl (And.intro rfl (And.intro rfl trivial)))) H
    · have H := H.2 b7
      refine ev_iinc (v := 1) rfl rfl (by decide) rfl (a_dec_at dc_La_hasRoomFor 14 rfl) ?_
      refine ev_iinc (v := 1) rfl rfl (by decide) rfl (a_dec_at dc_La_hasRoomFor 15 rfl) ?_
      refine ev_goto (tgt := 4) (a_dec_at dc_La_hasRoomFor 16 rfl) (by decide) ?_
      exact Ev.drop (L' := [.ref 3, .int v1, .int (v2 + 1), .int (v3 + 1)]) (And.intro rfl (And.intro rfl (And.intro rfl (And.intro rfl trivial)))) H
set_option maxRecDepth 20000 in
theorem t_La_addBeck_3 {l : Launch} {h : Nat} (mi : TMi) (ml : TMl) (z : Nat) {Q : Int32 → TMi → TMl → Nat → Prop} (H : (((mi 3 0) < 6 → (vp_in (mi 3 0) 6) ∧ (vp_in ((up mi 5 ((mi 3 0).toNatClampNeg) 0) 3 0) 6) ∧ (vp_in ((up (up mi 5 ((mi 3 0).toNatClampNeg) 0) 6 (((up mi 5 ((mi 3 0).toNatClampNeg) 0) 3 0).toNatClampNeg) 0) 3 0) 6) ∧ Q ((up (up (up mi 5 ((mi 3 0).toNatClampNeg) 0) 6 (((up mi 5 ((mi 3 0).toNatClampNeg) 0) 3 0).toNatClampNeg) 0) 7 (((up (up mi 5 ((mi 3 0).toNatClampNeg) 0) 6 (((up mi 5 ((mi 3 0).toNatClampNeg) 0) 3 0).toNatClampNeg) 0) 3 0).toNatClampNeg) (-1)) 3 0) (up (up (up (up mi 5 ((mi 3 0).toNatClampNeg) 0) 6 (((up mi 5 ((mi 3 0).toNatClampNeg) 0) 3 0).toNatClampNeg) 0) 7 (((up (up mi 5 ((mi 3 0).toNatClampNeg) 0) 6 (((up mi 5 ((mi 3 0).toNatClampNeg) 0) 3 0).toNatClampNeg) 0) 3 0).toNatClampNeg) (-1)) 3 0 (((up (up (up mi 5 ((mi 3 0).toNatClampNeg) 0) 6 (((up mi 5 ((mi 3 0).toNatClampNeg) 0) 3 0).toNatClampNeg) 0) 7 (((up (up mi 5 ((mi 3 0).toNatClampNeg) 0) 6 (((up mi 5 ((mi 3 0).toNatClampNeg) 0) 3 0).toNatClampNeg) 0) 3 0).toNatClampNeg) (-1)) 3 0) + 1)) ml z) ∧ (¬ (mi 3 0) < 6 → Q (-1) mi ml z))) : CI l (h + 1) m_La_addBeck [.ref 3] mi ml z Q := by
  show Ev l (h + 1) m_La_addBeck 0 ([.ref 3], [], st mi ml z) (qI Q)
  refine ev_aload_n (i := 0) rfl rfl (a_dec_at dc_La_addBeck 0 rfl) ?_
  refine m_getI fl_La_43 rfl sh3 (a_dec_at dc_La_addBeck 1 rfl) ?_
  refine ev_bipush (v := 6) rfl (a_dec_at dc_La_addBeck 2 rfl) ?_
  refine ev_icmp_lt (tgt := 11) (a_dec_at dc_La_addBeck 3 rfl) (by decide) (fun b1 => ?_) (fun b1 => ?_)
  · have H := H.1 b1
    refine ev_aload_n (i := 0) rfl rfl (a_dec_at dc_La_addBeck 6 rfl) ?_
    refine m_getR (y := 5) fl_La_15 rfl sh3 (mr_3_4 _) (by decide) (a_dec_at dc_La_addBeck 7 rfl) ?_
    refine ev_aload_n (i := 0) rfl rfl (a_dec_at dc_La_addBeck 8 rfl) ?_
    refine m_getI fl_La_43 rfl sh3 (a_dec_at dc_La_addBeck 9 rfl) ?_
    refine ev_iconst (v := 0) rfl (a_dec_at dc_La_addBeck 10 rfl) ?_
    obtain ⟨c2, H⟩ := H
    refine w_iast (k := (mi 3 0).toNatClampNeg) sh5 c2 rfl (a_dec_at dc_La_addBeck 11 rfl) ?_
    refine ev_aload_n (i := 0) rfl rfl (a_dec_at dc_La_addBeck 12 rfl) ?_
    refine m_getR (y := 6) fl_La_18 rfl sh3 (mr_3_5 _) (by decide) (a_dec_at dc_La_addBeck 13 rfl) ?_
    refine ev_aload_n (i := 0) rfl rfl (a_dec_at dc_La_addBeck 14 rfl) ?_
    refine m_getI fl_La_43 rfl sh3 (a_dec_at dc_La_addBeck 15 rfl) ?_
    refine ev_iconst (v := 0) rfl (a_dec_at dc_La_addBeck 16 rfl) ?_
    obtain ⟨c3, H⟩ := H
    refine w_iast (k := ((up mi 5 ((mi 3 0).toNatClampNeg) 0) 3 0).toNatClampNeg) sh6 c3 rfl (a_dec_at dc_La_addBeck 17 rfl) ?_
    refine ev_aload_n (i := 0) rfl rfl (a_dec_at dc_La_addBeck 18 rfl) ?_
    refine m_getR (y := 7) fl_La_21 rfl sh3 (mr_3_6 _) (by decide) (a_dec_at dc_La_addBeck 19 rfl) ?_
    refine ev_aload_n (i := 0) rfl rfl (a_dec_at dc_La_addBeck 20 rfl) ?_
    refine m_getI fl_La_43 rfl sh3 (a_dec_at dc_La_addBeck 21 rfl) ?_
    refine ev_iconst (v := (-1)) rfl (a_dec_at dc_La_addBeck 22 rfl) ?_
    obtain ⟨c4, H⟩ := H
    refine w_iast (k := ((up (up mi 5 ((mi 3 0).toNatClampNeg) 0) 6 (((up mi 5 ((mi 3 0).toNatClampNeg) 0) 3 0).toNatClampNeg) 0) 3 0).toNatClampNeg) sh7 c4 rfl (a_dec_at dc_La_addBeck 23 rfl) ?_
    refine ev_aload_n (i := 0) rfl rfl (a_dec_at dc_La_addBeck 24 rfl) ?_
    refine ev_dup rfl (a_dec_at dc_La_addBeck 25 rfl) ?_
    refine m_getI fl_La_43 rfl sh3 (a_dec_at dc_La_addBeck 26 rfl) ?_
    refine ev_dup_x1 rfl rfl (a_dec_at dc_La_addBeck 27 rfl) ?_
    refine ev_iconst (v := 1) rfl (a_dec_at dc_La_addBeck 28 rfl) ?_
    refine ev_iadd (a_dec_at dc_La_addBeck 29 rfl) ?_
    refine m_putI fl_La_43 rfl (fun _ _ _ h => by cases h; exact Or.inl rfl) sh3 (a_dec_at dc_La_addBeck 30 rfl) ?_
    exact m_retI (a_dec_at dc_La_addBeck 31 rfl) rfl rfl H
  · have H := H.2 b1
    refine ev_iconst (v := (-1)) rfl (a_dec_at dc_La_addBeck 4 rfl) ?_
    exact m_retI (a_dec_at dc_La_addBeck 5 rfl) rfl rfl H
set_option maxRecDepth 20000 in
theorem t_La_addRiver_3 {l : Launch} {h : Nat} (mi : TMi) (ml : TMl) (z : Nat) {Q : Int32 → TMi → TMl → Nat → Prop} (H : (((mi 3 1) < 4 → (vp_in (mi 3 1) 4) ∧ (vp_in ((up mi 9 ((mi 3 1).toNatClampNeg) 0) 3 1) 4) ∧ Q ((up (up mi 9 ((mi 3 1).toNatClampNeg) 0) 10 (((up mi 9 ((mi 3 1).toNatClampNeg) 0) 3 1).toNatClampNeg) 99) 3 1) (up (up (up mi 9 ((mi 3 1).toNatClampNeg) 0) 10 (((up mi 9 ((mi 3 1).toNatClampNeg) 0) 3 1).toNatClampNeg) 99) 3 1 (((up (up mi 9 ((mi 3 1).toNatClampNeg) 0) 10 (((up mi 9 ((mi 3 1).toNatClampNeg) 0) 3 1).toNatClampNeg) 99) 3 1) + 1)) ml z) ∧ (¬ (mi 3 1) < 4 → Q (-1) mi ml z))) : CI l (h + 1) m_La_addRiver [.ref 3] mi ml z Q := by
  show Ev l (h + 1) m_La_addRiver 0 ([.ref 3], [], st mi ml z) (qI Q)
  refine ev_aload_n (i := 0) rfl rfl (a_dec_at dc_La_addRiver 0 rfl) ?_
  refine m_getI fl_La_46 rfl sh3 (a_dec_at dc_La_addRiver 1 rfl) ?_
  refine ev_iconst (v := 4) rfl (a_dec_at dc_La_addRiver 2 rfl) ?_
  refine ev_icmp_lt (tgt := 10) (a_dec_at dc_La_addRiver 3 rfl) (by decide) (fun b1 => ?_) (fun b1 => ?_)
  · have H := H.1 b1
    refine ev_aload_n (i := 0) rfl rfl (a_dec_at dc_La_addRiver 6 rfl) ?_
    refine m_getR (y := 9) fl_La_27 rfl sh3 (mr_3_8 _) (by decide) (a_dec_at dc_La_addRiver 7 rfl) ?_
    refine ev_aload_n (i := 0) rfl rfl (a_dec_at dc_La_addRiver 8 rfl) ?_
    refine m_getI fl_La_46 rfl sh3 (a_dec_at dc_La_addRiver 9 rfl) ?_
    refine ev_iconst (v := 0) rfl (a_dec_at dc_La_addRiver 10 rfl) ?_
    obtain ⟨c2, H⟩ := H
    refine w_iast (k := (mi 3 1).toNatClampNeg) sh9 c2 rfl (a_dec_at dc_La_addRiver 11 rfl) ?_
    refine ev_aload_n (i := 0) rfl rfl (a_dec_at dc_La_addRiver 12 rfl) ?_
    refine m_getR (y := 10) fl_La_30 rfl sh3 (mr_3_9 _) (by decide) (a_dec_at dc_La_addRiver 13 rfl) ?_
    refine ev_aload_n (i := 0) rfl rfl (a_dec_at dc_La_addRiver 14 rfl) ?_
    refine m_getI fl_La_46 rfl sh3 (a_dec_at dc_La_addRiver 15 rfl) ?_
    refine ev_bipush (v := 99) rfl (a_dec_at dc_La_addRiver 16 rfl) ?_
    obtain ⟨c3, H⟩ := H
    refine w_iast (k := ((up mi 9 ((mi 3 1).toNatClampNeg) 0) 3 1).toNatClampNeg) sh10 c3 rfl (a_dec_at dc_La_addRiver 17 rfl) ?_
    refine ev_aload_n (i := 0) rfl rfl (a_dec_at dc_La_addRiver 18 rfl) ?_
    refine ev_dup rfl (a_dec_at dc_La_addRiver 19 rfl) ?_
    refine m_getI fl_La_46 rfl sh3 (a_dec_at dc_La_addRiver 20 rfl) ?_
    refine ev_dup_x1 rfl rfl (a_dec_at dc_La_addRiver 21 rfl) ?_
    refine ev_iconst (v := 1) rfl (a_dec_at dc_La_addRiver 22 rfl) ?_
    refine ev_iadd (a_dec_at dc_La_addRiver 23 rfl) ?_
    refine m_putI fl_La_46 rfl (fun _ _ _ h => by cases h; exact Or.inl rfl) sh3 (a_dec_at dc_La_addRiver 24 rfl) ?_
    exact m_retI (a_dec_at dc_La_addRiver 25 rfl) rfl rfl H
  · have H := H.2 b1
    refine ev_iconst (v := (-1)) rfl (a_dec_at dc_La_addRiver 4 rfl) ?_
    exact m_retI (a_dec_at dc_La_addRiver 5 rfl) rfl rfl H
set_option maxRecDepth 20000 in
theorem t_La_addCode_3 {l : Launch} {h : Nat} (mi : TMi) (ml : TMl) (z : Nat) (a1 : Int32) {Q : Int32 → TMi → TMl → Nat → Prop} (H : ((900 ≤ (mi 3 11) → Q ((mi 3 11) - 1) mi ml z) ∧ (¬ 900 ≤ (mi 3 11) → (vp_in (mi 3 11) 900) ∧ Q (((up (up mi 11 ((mi 3 11).toNatClampNeg) a1) 3 11 (((up mi 11 ((mi 3 11).toNatClampNeg) a1) 3 11) + 1)) 3 11) - 1) (up (up mi 11 ((mi 3 11).toNatClampNeg) a1) 3 11 (((up mi 11 ((mi 3 11).toNatClampNeg) a1) 3 11) + 1)) ml z))) : CI l (h + 1) m_La_addCode [.ref 3, .int a1] mi ml z Q := by
  show Ev l (h + 1) m_La_addCode 0 ([.ref 3, .int a1], [], st mi ml z) (qI Q)
  refine ev_aload_n (i := 0) rfl rfl (a_dec_at dc_La_addCode 0 rfl) ?_
  refine m_getI fl_La_52 rfl sh3 (a_dec_at dc_La_addCode 1 rfl) ?_
  refine ev_sipush (v := 900) rfl (a_dec_at dc_La_addCode 2 rfl) ?_
  refine ev_icmp_ge (tgt := 30) (a_dec_at dc_La_addCode 3 rfl) (by decide) (fun b1 => ?_) (fun b1 => ?_)
  · have H := H.1 b1
    refine ev_aload_n (i := 0) rfl rfl (a_dec_at dc_La_addCode 16 rfl) ?_
    refine m_getI fl_La_52 rfl sh3 (a_dec_at dc_La_addCode 17 rfl) ?_
    refine ev_iconst (v := 1) rfl (a_dec_at dc_La_addCode 18 rfl) ?_
    refine ev_isub (a_dec_at dc_La_addCode 19 rfl) ?_
    exact m_retI (a_dec_at dc_La_addCode 20 rfl) rfl rfl H
  · have H := H.2 b1
    refine ev_aload_n (i := 0) rfl rfl (a_dec_at dc_La_addCode 4 rfl) ?_
    refine m_getR (y := 11) fl_La_33 rfl sh3 (mr_3_10 _) (by decide) (a_dec_at dc_La_addCode 5 rfl) ?_
    refine ev_aload_n (i := 0) rfl rfl (a_dec_at dc_La_addCode 6 rfl) ?_
    refine m_getI fl_La_52 rfl sh3 (a_dec_at dc_La_addCode 7 rfl) ?_
    refine ev_iload_n (i := 1) rfl rfl (a_dec_at dc_La_addCode 8 rfl) ?_
    obtain ⟨c2, H⟩ := H
    refine w_iast (k := (mi 3 11).toNatClampNeg) sh11 c2 rfl (a_dec_at dc_La_addCode 9 rfl) ?_
    refine ev_aload_n (i := 0) rfl rfl (a_dec_at dc_La_addCode 10 rfl) ?_
    refine ev_dup rfl (a_dec_at dc_La_addCode 11 rfl) ?_
    refine m_getI fl_La_52 rfl sh3 (a_dec_at dc_La_addCode 12 rfl) ?_
    refine ev_iconst (v := 1) rfl (a_dec_at dc_La_addCode 13 rfl) ?_
    refine ev_iadd (a_dec_at dc_La_addCode 14 rfl) ?_
    refine m_putI fl_La_52 rfl (fun _ _ _ h => by cases h; exact Or.inl rfl) sh3 (a_dec_at dc_La_addCode 15 rfl) ?_
    refine ev_aload_n (i := 0) rfl rfl (a_dec_at dc_La_addCode 16 rfl) ?_
    refine m_getI fl_La_52 rfl sh3 (a_dec_at dc_La_addCode 17 rfl) ?_
    refine ev_iconst (v := 1) rfl (a_dec_at dc_La_addCode 18 rfl) ?_
    refine ev_isub (a_dec_at dc_La_addCode 19 rfl) ?_
    exact m_retI (a_dec_at dc_La_addCode 20 rfl) rfl rfl H
set_option maxRecDepth 20000 in
theorem t_La_hasRiver_3 {l : Launch} {h : Nat} (mi : TMi) (ml : TMl) (z : Nat) (a1 : Int32) {Q : Int32 → TMi → TMl → Nat → Prop} (H : ((a1 < 0 → Q 0 mi ml z) ∧ (¬ a1 < 0 → (((mi 3 1) ≤ a1 → Q 0 mi ml z) ∧ (¬ (mi 3 1) ≤ a1 → Q 1 mi ml z))))) : CI l (h + 1) m_La_hasRiver [.ref 3, .int a1] mi ml z Q := by
  show Ev l (h + 1) m_La_hasRiver 0 ([.ref 3, .int a1], [], st mi ml z) (qI Q)
  refine ev_iload_n (i := 1) rfl rfl (a_dec_at dc_La_hasRiver 0 rfl) ?_
  refine ev_if_lt (tgt := 16) (a_dec_at dc_La_hasRiver 1 rfl) (by decide) (fun b1 => ?_) (fun b1 => ?_)
  · have H := H.1 b1
    refine ev_iconst (v := 0) rfl (a_dec_at dc_La_hasRiver 8 rfl) ?_
    exact m_retI (a_dec_at dc_La_hasRiver 9 rfl) rfl rfl H
  · have H := H.2 b1
    refine ev_iload_n (i := 1) rfl rfl (a_dec_at dc_La_hasRiver 2 rfl) ?_
    refine ev_aload_n (i := 0) rfl rfl (a_dec_at dc_La_hasRiver 3 rfl) ?_
    refine m_getI fl_La_46 rfl sh3 (a_dec_at dc_La_hasRiver 4 rfl) ?_
    refine ev_icmp_ge (tgt := 16) (a_dec_at dc_La_hasRiver 5 rfl) (by decide) (fun b2 => ?_) (fun b2 => ?_)
    · have H := H.1 b2
      refine ev_iconst (v := 0) rfl (a_dec_at dc_La_hasRiver 8 rfl) ?_
      exact m_retI (a_dec_at dc_La_hasRiver 9 rfl) rfl rfl H
    · have H := H.2 b2
      refine ev_iconst (v := 1) rfl (a_dec_at dc_La_hasRiver 6 rfl) ?_
      refine ev_goto (tgt := 17) (a_dec_at dc_La_hasRiver 7 rfl) (by decide) ?_
      exact m_retI (a_dec_at dc_La_hasRiver 9 rfl) rfl rfl H
set_option maxRecDepth 20000 in
theorem t_La_hasBeck_18 {l : Launch} {h : Nat} (mi : TMi) (ml : TMl) (z : Nat) (a1 : Int32) {Q : Int32 → TMi → TMl → Nat → Prop} (H : ((a1 < 0 → Q 0 mi ml z) ∧ (¬ a1 < 0 → (((mi 18 0) ≤ a1 → Q 0 mi ml z) ∧ (¬ (mi 18 0) ≤ a1 → Q 1 mi ml z))))) : CI l (h + 1) m_La_hasBeck [.ref 18, .int a1] mi ml z Q := by
  show Ev l (h + 1) m_La_hasBeck 0 ([.ref 18, .int a1], [], st mi ml z) (qI Q)
  refine ev_iload_n (i := 1) rfl rfl (a_dec_at dc_La_hasBeck 0 rfl) ?_
  refine ev_if_lt (tgt := 16) (a_dec_at dc_La_hasBeck 1 rfl) (by decide) (fun b1 => ?_) (fun b1 => ?_)
  · have H := H.1 b1
    refine ev_iconst (v := 0) rfl (a_dec_at dc_La_hasBeck 8 rfl) ?_
    exact m_retI (a_dec_at dc_La_hasBeck 9 rfl) rfl rfl H
  · have H := H.2 b1
    refine ev_iload_n (i := 1) rfl rfl (a_dec_at dc_La_hasBeck 2 rfl) ?_
    refine ev_aload_n (i := 0) rfl rfl (a_dec_at dc_La_hasBeck 3 rfl) ?_
    refine m_getI fl_La_43 rfl sh18 (a_dec_at dc_La_hasBeck 4 rfl) ?_
    refine ev_icmp_ge (tgt := 16) (a_dec_at dc_La_hasBeck 5 rfl) (by decide) (fun b2 => ?_) (fun b2 => ?_)
    · have H := H.1 b2
      refine ev_iconst (v := 0) rfl (a_dec_at dc_La_hasBeck 8 rfl) ?_
      exact m_retI (a_dec_at dc_La_hasBeck 9 rfl) rfl rfl H
    · have H := H.2 b2
      refine ev_iconst (v := 1) rfl (a_dec_at dc_La_hasBeck 6 rfl) ?_
      refine ev_goto (tgt := 17) (a_dec_at dc_La_hasBeck 7 rfl) (by decide) ?_
      exact m_retI (a_dec_at dc_La_hasBeck 9 rfl) rfl rfl H
set_option maxRecDepth 20000 in
theorem t_La_hasRiver_18 {l : Launch} {h : Nat} (mi : TMi) (ml : TMl) (z : Nat) (a1 : Int32) {Q : Int32 → TMi → TMl → Nat → Prop} (H : ((a1 < 0 → Q 0 mi ml z) ∧ (¬ a1 < 0 → (((mi 18 1) ≤ a1 → Q 0 mi ml z) ∧ (¬ (mi 18 1) ≤ a1 → Q 1 mi ml z))))) : CI l (h + 1) m_La_hasRiver [.ref 18, .int a1] mi ml z Q := by
  show Ev l (h + 1) m_La_hasRiver 0 ([.ref 18, .int a1], [], st mi ml z) (qI Q)
  refine ev_iload_n (i := 1) rfl rfl (a_dec_at dc_La_hasRiver 0 rfl) ?_
  refine ev_if_lt (tgt := 16) (a_dec_at dc_La_hasRiver 1 rfl) (by decide) (fun b1 => ?_) (fun b1 => ?_)
  · have H := H.1 b1
    refine ev_iconst (v := 0) rfl (a_dec_at dc_La_hasRiver 8 rfl) ?_
    exact m_retI (a_dec_at dc_La_hasRiver 9 rfl) rfl rfl H
  · have H := H.2 b1
    refine ev_iload_n (i := 1) rfl rfl (a_dec_at dc_La_hasRiver 2 rfl) ?_
    refine ev_aload_n (i := 0) rfl rfl (a_dec_at dc_La_hasRiver 3 rfl) ?_
    refine m_getI fl_La_46 rfl sh18 (a_dec_at dc_La_hasRiver 4 rfl) ?_
    refine ev_icmp_ge (tgt := 16) (a_dec_at dc_La_hasRiver 5 rfl) (by decide) (fun b2 => ?_) (fun b2 => ?_)
    · have H := H.1 b2
      refine ev_iconst (v := 0) rfl (a_dec_at dc_La_hasRiver 8 rfl) ?_
      exact m_retI (a_dec_at dc_La_hasRiver 9 rfl) rfl rfl H
    · have H := H.2 b2
      refine ev_iconst (v := 1) rfl (a_dec_at dc_La_hasRiver 6 rfl) ?_
      refine ev_goto (tgt := 17) (a_dec_at dc_La_hasRiver 7 rfl) (by decide) ?_
      exact m_retI (a_dec_at dc_La_hasRiver 9 rfl) rfl rfl H
set_option maxRecDepth 20000 in
theorem t_La_allBecks_18 {l : Launch} {h : Nat} (mi : TMi) (ml : TMl) (z : Nat) {Q : Int32 → TMi → TMl → Nat → Prop} (H : Q (((1 : Int32) <<< ((mi 18 0) &&& 31)) - 1) mi ml z) : CI l (h + 1) m_La_allBecks [.ref 18] mi ml z Q := by
  show Ev l (h + 1) m_La_allBecks 0 ([.ref 18], [], st mi ml z) (qI Q)
  refine ev_iconst (v := 1) rfl (a_dec_at dc_La_allBecks 0 rfl) ?_
  refine ev_aload_n (i := 0) rfl rfl (a_dec_at dc_La_allBecks 1 rfl) ?_
  refine m_getI fl_La_43 rfl sh18 (a_dec_at dc_La_allBecks 2 rfl) ?_
  refine ev_ishl (a_dec_at dc_La_allBecks 3 rfl) ?_
  refine ev_iconst (v := 1) rfl (a_dec_at dc_La_allBecks 4 rfl) ?_
  refine ev_isub (a_dec_at dc_La_allBecks 5 rfl) ?_
  exact m_retI (a_dec_at dc_La_allBecks 6 rfl) rfl rfl H
set_option maxRecDepth 20000 in
theorem t_La_copyFrom_18_3 {l : Launch} {h : Nat} (mi : TMi) (ml : TMl) (z : Nat) {Q : TMi → TMl → Nat → Prop} (H : (¬ (0 : Int32) < 0 ∧ ¬ (0 : Int32) < 0 ∧ ¬ ((cpF (cpF (cpF (cpF (cpF (cpF (cpF (up (up (up (up (up (up mi 18 0 (mi 3 0)) 18 1 ((up mi 18 0 (mi 3 0)) 3 1)) 18 2 ((up (up mi 18 0 (mi 3 0)) 18 1 ((up mi 18 0 (mi 3 0)) 3 1)) 3 2)) 18 11 ((up (up (up mi 18 0 (mi 3 0)) 18 1 ((up mi 18 0 (mi 3 0)) 3 1)) 18 2 ((up (up mi 18 0 (mi 3 0)) 18 1 ((up mi 18 0 (mi 3 0)) 3 1)) 3 2)) 3 11)) 18 12 ((up (up (up (up mi 18 0 (mi 3 0)) 18 1 ((up mi 18 0 (mi 3 0)) 3 1)) 18 2 ((up (up mi 18 0 (mi 3 0)) 18 1 ((up mi 18 0 (mi 3 0)) 3 1)) 3 2)) 18 11 ((up (up (up mi 18 0 (mi 3 0)) 18 1 ((up mi 18 0 (mi 3 0)) 3 1)) 18 2 ((up (up mi 18 0 (mi 3 0)) 18 1 ((up mi 18 0 (mi 3 0)) 3 1)) 3 2)) 3 11)) 3 12)) 18 13 ((up (up (up (up (up mi 18 0 (mi 3 0)) 18 1 ((up mi 18 0 (mi 3 0)) 3 1)) 18 2 ((up (up mi 18 0 (mi 3 0)) 18 1 ((up mi 18 0 (mi 3 0)) 3 1)) 3 2)) 18 11 ((up (up (up mi 18 0 (mi 3 0)) 18 1 ((up mi 18 0 (mi 3 0)) 3 1)) 18 2 ((up (up mi 18 0 (mi 3 0)) 18 1 ((up mi 18 0 (mi 3 0)) 3 1)) 3 2)) 3 11)) 18 12 ((up (up (up (up mi 18 0 (mi 3 0)) 18 1 ((up mi 18 0 (mi 3 0)) 3 1)) 18 2 ((up (up mi 18 0 (mi 3 0)) 18 1 ((up mi 18 0 (mi 3 0)) 3 1)) 3 2)) 18 11 ((up (up (up mi 18 0 (mi 3 0)) 18 1 ((up mi 18 0 (mi 3 0)) 3 1)) 18 2 ((up (up mi 18 0 (mi 3 0)) 18 1 ((up mi 18 0 (mi 3 0)) 3 1)) 3 2)) 3 11)) 3 12)) 3 13)) 4 19 0 0 6) 5 20 0 0 6) 6 21 0 0 6) 7 22 0 0 6) 8 23 0 0 4) 9 24 0 0 4) 10 25 0 0 4) 3 11) < 0 ∧ 0 + ((cpF (cpF (cpF (cpF (cpF (cpF (cpF (up (up (up (up (up (up mi 18 0 (mi 3 0)) 18 1 ((up mi 18 0 (mi 3 0)) 3 1)) 18 2 ((up (up mi 18 0 (mi 3 0)) 18 1 ((up mi 18 0 (mi 3 0)) 3 1)) 3 2)) 18 11 ((up (up (up mi 18 0 (mi 3 0)) 18 1 ((up mi 18 0 (mi 3 0)) 3 1)) 18 2 ((up (up mi 18 0 (mi 3 0)) 18 1 ((up mi 18 0 (mi 3 0)) 3 1)) 3 2)) 3 11)) 18 12 ((up (up (up (up mi 18 0 (mi 3 0)) 18 1 ((up mi 18 0 (mi 3 0)) 3 1)) 18 2 ((up (up mi 18 0 (mi 3 0)) 18 1 ((up mi 18 0 (mi 3 0)) 3 1)) 3 2)) 18 11 ((up (up (up mi 18 0 (mi 3 0)) 18 1 ((up mi 18 0 (mi 3 0)) 3 1)) 18 2 ((up (up mi 18 0 (mi 3 0)) 18 1 ((up mi 18 0 (mi 3 0)) 3 1)) 3 2)) 3 11)) 3 12)) 18 13 ((up (up (up (up (up mi 18 0 (mi 3 0)) 18 1 ((up mi 18 0 (mi 3 0)) 3 1)) 18 2 ((up (up mi 18 0 (mi 3 0)) 18 1 ((up mi 18 0 (mi 3 0)) 3 1)) 3 2)) 18 11 ((up (up (up mi 18 0 (mi 3 0)) 18 1 ((up mi 18 0 (mi 3 0)) 3 1)) 18 2 ((up (up mi 18 0 (mi 3 0)) 18 1 ((up mi 18 0 (mi 3 0)) 3 1)) 3 2)) 3 11)) 18 12 ((up (up (up (up mi 18 0 (mi 3 0)) 18 1 ((up mi 18 0 (mi 3 0)) 3 1)) 18 2 ((up (up mi 18 0 (mi 3 0)) 18 1 ((up mi 18 0 (mi 3 0)) 3 1)) 3 2)) 18 11 ((up (up (up mi 18 0 (mi 3 0)) 18 1 ((up mi 18 0 (mi 3 0)) 3 1)) 18 2 ((up (up mi 18 0 (mi 3 0)) 18 1 ((up mi 18 0 (mi 3 0)) 3 1)) 3 2)) 3 11)) 3 12)) 3 13)) 4 19 0 0 6) 5 20 0 0 6) 6 21 0 0 6) 7 22 0 0 6) 8 23 0 0 4) 9 24 0 0 4) 10 25 0 0 4) 3 11).toNatClampNeg ≤ 900 ∧ 0 + ((cpF (cpF (cpF (cpF (cpF (cpF (cpF (up (up (up (up (up (up mi 18 0 (mi 3 0)) 18 1 ((up mi 18 0 (mi 3 0)) 3 1)) 18 2 ((up (up mi 18 0 (mi 3 0)) 18 1 ((up mi 18 0 (mi 3 0)) 3 1)) 3 2)) 18 11 ((up (up (up mi 18 0 (mi 3 0)) 18 1 ((up mi 18 0 (mi 3 0)) 3 1)) 18 2 ((up (up mi 18 0 (mi 3 0)) 18 1 ((up mi 18 0 (mi 3 0)) 3 1)) 3 2)) 3 11)) 18 12 ((up (up (up (up mi 18 0 (mi 3 0)) 18 1 ((up mi 18 0 (mi 3 0)) 3 1)) 18 2 ((up (up mi 18 0 (mi 3 0)) 18 1 ((up mi 18 0 (mi 3 0)) 3 1)) 3 2)) 18 11 ((up (up (up mi 18 0 (mi 3 0)) 18 1 ((up mi 18 0 (mi 3 0)) 3 1)) 18 2 ((up (up mi 18 0 (mi 3 0)) 18 1 ((up mi 18 0 (mi 3 0)) 3 1)) 3 2)) 3 11)) 3 12)) 18 13 ((up (up (up (up (up mi 18 0 (mi 3 0)) 18 1 ((up mi 18 0 (mi 3 0)) 3 1)) 18 2 ((up (up mi 18 0 (mi 3 0)) 18 1 ((up mi 18 0 (mi 3 0)) 3 1)) 3 2)) 18 11 ((up (up (up mi 18 0 (mi 3 0)) 18 1 ((up mi 18 0 (mi 3 0)) 3 1)) 18 2 ((up (up mi 18 0 (mi 3 0)) 18 1 ((up mi 18 0 (mi 3 0)) 3 1)) 3 2)) 3 11)) 18 12 ((up (up (up (up mi 18 0 (mi 3 0)) 18 1 ((up mi 18 0 (mi 3 0)) 3 1)) 18 2 ((up (up mi 18 0 (mi 3 0)) 18 1 ((up mi 18 0 (mi 3 0)) 3 1)) 3 2)) 18 11 ((up (up (up mi 18 0 (mi 3 0)) 18 1 ((up mi 18 0 (mi 3 0)) 3 1)) 18 2 ((up (up mi 18 0 (mi 3 0)) 18 1 ((up mi 18 0 (mi 3 0)) 3 1)) 3 2)) 3 11)) 3 12)) 3 13)) 4 19 0 0 6) 5 20 0 0 6) 6 21 0 0 6) 7 22 0 0 6) 8 23 0 0 4) 9 24 0 0 4) 10 25 0 0 4) 3 11).toNatClampNeg ≤ 900) ∧ Q (cpF (cpF (cpF (cpF (cpF (cpF (cpF (cpF (up (up (up (up (up (up mi 18 0 (mi 3 0)) 18 1 ((up mi 18 0 (mi 3 0)) 3 1)) 18 2 ((up (up mi 18 0 (mi 3 0)) 18 1 ((up mi 18 0 (mi 3 0)) 3 1)) 3 2)) 18 11 ((up (up (up mi 18 0 (mi 3 0)) 18 1 ((up mi 18 0 (mi 3 0)) 3 1)) 18 2 ((up (up mi 18 0 (mi 3 0)) 18 1 ((up mi 18 0 (mi 3 0)) 3 1)) 3 2)) 3 11)) 18 12 ((up (up (up (up mi 18 0 (mi 3 0)) 18 1 ((up mi 18 0 (mi 3 0)) 3 1)) 18 2 ((up (up mi 18 0 (mi 3 0)) 18 1 ((up mi 18 0 (mi 3 0)) 3 1)) 3 2)) 18 11 ((up (up (up mi 18 0 (mi 3 0)) 18 1 ((up mi 18 0 (mi 3 0)) 3 1)) 18 2 ((up (up mi 18 0 (mi 3 0)) 18 1 ((up mi 18 0 (mi 3 0)) 3 1)) 3 2)) 3 11)) 3 12)) 18 13 ((up (up (up (up (up mi 18 0 (mi 3 0)) 18 1 ((up mi 18 0 (mi 3 0)) 3 1)) 18 2 ((up (up mi 18 0 (mi 3 0)) 18 1 ((up mi 18 0 (mi 3 0)) 3 1)) 3 2)) 18 11 ((up (up (up mi 18 0 (mi 3 0)) 18 1 ((up mi 18 0 (mi 3 0)) 3 1)) 18 2 ((up (up mi 18 0 (mi 3 0)) 18 1 ((up mi 18 0 (mi 3 0)) 3 1)) 3 2)) 3 11)) 18 12 ((up (up (up (up mi 18 0 (mi 3 0)) 18 1 ((up mi 18 0 (mi 3 0)) 3 1)) 18 2 ((up (up mi 18 0 (mi 3 0)) 18 1 ((up mi 18 0 (mi 3 0)) 3 1)) 3 2)) 18 11 ((up (up (up mi 18 0 (mi 3 0)) 18 1 ((up mi 18 0 (mi 3 0)) 3 1)) 18 2 ((up (up mi 18 0 (mi 3 0)) 18 1 ((up mi 18 0 (mi 3 0)) 3 1)) 3 2)) 3 11)) 3 12)) 3 13)) 4 19 0 0 6) 5 20 0 0 6) 6 21 0 0 6) 7 22 0 0 6) 8 23 0 0 4) 9 24 0 0 4) 10 25 0 0 4) 11 26 0 0 (((cpF (cpF (cpF (cpF (cpF (cpF (cpF (up (up (up (up (up (up mi 18 0 (mi 3 0)) 18 1 ((up mi 18 0 (mi 3 0)) 3 1)) 18 2 ((up (up mi 18 0 (mi 3 0)) 18 1 ((up mi 18 0 (mi 3 0)) 3 1)) 3 2)) 18 11 ((up (up (up mi 18 0 (mi 3 0)) 18 1 ((up mi 18 0 (mi 3 0)) 3 1)) 18 2 ((up (up mi 18 0 (mi 3 0)) 18 1 ((up mi 18 0 (mi 3 0)) 3 1)) 3 2)) 3 11)) 18 12 ((up (up (up (up mi 18 0 (mi 3 0)) 18 1 ((up mi 18 0 (mi 3 0)) 3 1)) 18 2 ((up (up mi 18 0 (mi 3 0)) 18 1 ((up mi 18 0 (mi 3 0)) 3 1)) 3 2)) 18 11 ((up (up (up mi 18 0 (mi 3 0)) 18 1 ((up mi 18 0 (mi 3 0)) 3 1)) 18 2 ((up (up mi 18 0 (mi 3 0)) 18 1 ((up mi 18 0 (mi 3 0)) 3 1)) 3 2)) 3 11)) 3 12)) 18 13 ((up (up (up (up (up mi 18 0 (mi 3 0)) 18 1 ((up mi 18 0 (mi 3 0)) 3 1)) 18 2 ((up (up mi 18 0 (mi 3 0)) 18 1 ((up mi 18 0 (mi 3 0)) 3 1)) 3 2)) 18 11 ((up (up (up mi 18 0 (mi 3 0)) 18 1 ((up mi 18 0 (mi 3 0)) 3 1)) 18 2 ((up (up mi 18 0 (mi 3 0)) 18 1 ((up mi 18 0 (mi 3 0)) 3 1)) 3 2)) 3 11)) 18 12 ((up (up (up (up mi 18 0 (mi 3 0)) 18 1 ((up mi 18 0 (mi 3 0)) 3 1)) 18 2 ((up (up mi 18 0 (mi 3 0)) 18 1 ((up mi 18 0 (mi 3 0)) 3 1)) 3 2)) 18 11 ((up (up (up mi 18 0 (mi 3 0)) 18 1 ((up mi 18 0 (mi 3 0)) 3 1)) 18 2 ((up (up mi 18 0 (mi 3 0)) 18 1 ((up mi 18 0 (mi 3 0)) 3 1)) 3 2)) 3 11)) 3 12)) 3 13)) 4 19 0 0 6) 5 20 0 0 6) 6 21 0 0 6) 7 22 0 0 6) 8 23 0 0 4) 9 24 0 0 4) 10 25 0 0 4) 3 11).toNatClampNeg)) ml z) : CV l (h + 1) m_La_copyFrom [.ref 18, .ref 3] mi ml z Q := by
  show Ev l (h + 1) m_La_copyFrom 0 ([.ref 18, .ref 3], [], st mi ml z) (qV Q)
  refine ev_aload_n (i := 0) rfl rfl (a_dec_at dc_La_copyFrom 0 rfl) ?_
  refine ev_aload_n (i := 1) rfl rfl (a_dec_at dc_La_copyFrom 1 rfl) ?_
  refine m_getI fl_La_43 rfl sh3 (a_dec_at dc_La_copyFrom 2 rfl) ?_
  refine m_putI fl_La_43 rfl (fun _ _ _ h => by cases h; exact Or.inl rfl) sh18 (a_dec_at dc_La_copyFrom 3 rfl) ?_
  refine ev_aload_n (i := 0) rfl rfl (a_dec_at dc_La_copyFrom 4 rfl) ?_
  refine ev_aload_n (i := 1) rfl rfl (a_dec_at dc_La_copyFrom 5 rfl) ?_
  refine m_getI fl_La_46 rfl sh3 (a_dec_at dc_La_copyFrom 6 rfl) ?_
  refine m_putI fl_La_46 rfl (fun _ _ _ h => by cases h; exact Or.inl rfl) sh18 (a_dec_at dc_La_copyFrom 7 rfl) ?_
  refine ev_aload_n (i := 0) rfl rfl (a_dec_at dc_La_copyFrom 8 rfl) ?_
  refine ev_aload_n (i := 1) rfl rfl (a_dec_at dc_La_copyFrom 9 rfl) ?_
  refine m_getI fl_La_49 rfl sh3 (a_dec_at dc_La_copyFrom 10 rfl) ?_
  refine m_putI fl_La_49 rfl (fun _ _ _ h => by cases h; exact Or.inl rfl) sh18 (a_dec_at dc_La_copyFrom 11 rfl) ?_
  refine ev_aload_n (i := 0) rfl rfl (a_dec_at dc_La_copyFrom 12 rfl) ?_
  refine ev_aload_n (i := 1) rfl rfl (a_dec_at dc_La_copyFrom 13 rfl) ?_
  refine m_getI fl_La_52 rfl sh3 (a_dec_at dc_La_copyFrom 14 rfl) ?_
  refine m_putI fl_La_52 rfl (fun _ _ _ h => by cases h; exact Or.inl rfl) sh18 (a_dec_at dc_La_copyFrom 15 rfl) ?_
  refine ev_aload_n (i := 0) rfl rfl (a_dec_at dc_La_copyFrom 16 rfl) ?_
  refine ev_aload_n (i := 1) rfl rfl (a_dec_at dc_La_copyFrom 17 rfl) ?_
  refine m_getI fl_La_36 rfl sh3 (a_dec_at dc_La_copyFrom 18 rfl) ?_
  refine m_putI fl_La_36 rfl (fun _ _ _ h => by cases h; exact Or.inl rfl) sh18 (a_dec_at dc_La_copyFrom 19 rfl) ?_
  refine ev_aload_n (i := 0) rfl rfl (a_dec_at dc_La_copyFrom 20 rfl) ?_
  refine ev_aload_n (i := 1) rfl rfl (a_dec_at dc_La_copyFrom 21 rfl) ?_
  refine m_getI fl_La_40 rfl sh3 (a_dec_at dc_La_copyFrom 22 rfl) ?_
  refine m_putI fl_La_40 rfl (fun _ _ _ h => by cases h; exact Or.inl rfl) sh18 (a_dec_at dc_La_copyFrom 23 rfl) ?_
  refine ev_aload_n (i := 1) rfl rfl (a_dec_at dc_La_copyFrom 24 rfl) ?_
  refine m_getR (y := 4) fl_La_9 rfl sh3 (mr_3_3 _) (by decide) (a_dec_at dc_La_copyFrom 25 rfl) ?_
  refine ev_iconst (v := 0) rfl (a_dec_at dc_La_copyFrom 26 rfl) ?_
  refine ev_aload_n (i := 0) rfl rfl (a_dec_at dc_La_copyFrom 27 rfl) ?_
  refine m_getR (y := 19) fl_La_9 rfl sh18 (mr_18_3 _) (by decide) (a_dec_at dc_La_copyFrom 28 rfl) ?_
  refine ev_iconst (v := 0) rfl (a_dec_at dc_La_copyFrom 29 rfl) ?_
  refine ev_bipush (v := 6) rfl (a_dec_at dc_La_copyFrom 30 rfl) ?_
  refine w_copy (ks := 0) (kd := 0) (kn := 6) cs_La_55 sh4 sh19 (by decide) (by decide) (by decide) (by decide) (Nat.le_of_ble_eq_true rfl) (a_dec_at dc_La_copyFrom 31 rfl) ?_
  refine ev_aload_n (i := 1) rfl rfl (a_dec_at dc_La_copyFrom 32 rfl) ?_
  refine m_getR (y := 5) fl_La_15 rfl sh3 (mr_3_4 _) (by decide) (a_dec_at dc_La_copyFrom 33 rfl) ?_
  refine ev_iconst (v := 0) rfl (a_dec_at dc_La_copyFrom 34 rfl) ?_
  refine ev_aload_n (i := 0) rfl rfl (a_dec_at dc_La_copyFrom 35 rfl) ?_
  refine m_getR (y := 20) fl_La_15 rfl sh18 (mr_18_4 _) (by decide) (a_dec_at dc_La_copyFrom 36 rfl) ?_
  refine ev_iconst (v := 0) rfl (a_dec_at dc_La_copyFrom 37 rfl) ?_
  refine ev_bipush (v := 6) rfl (a_dec_at dc_La_copyFrom 38 rfl) ?_
  refine w_copy (ks := 0) (kd := 0) (kn := 6) cs_La_55 sh5 sh20 (by decide) (by decide) (by decide) (by decide) (Nat.le_of_ble_eq_true rfl) (a_dec_at dc_La_copyFrom 39 rfl) ?_
  refine ev_aload_n (i := 1) rfl rfl (a_dec_at dc_La_copyFrom 40 rfl) ?_
  refine m_getR (y := 6) fl_La_18 rfl sh3 (mr_3_5 _) (by decide) (a_dec_at dc_La_copyFrom 41 rfl) ?_
  refine ev_iconst (v := 0) rfl (a_dec_at dc_La_copyFrom 42 rfl) ?_
  refine ev_aload_n (i := 0) rfl rfl (a_dec_at dc_La_copyFrom 43 rfl) ?_
  refine m_getR (y := 21) fl_La_18 rfl sh18 (mr_18_5 _) (by decide) (a_dec_at dc_La_copyFrom 44 rfl) ?_
  refine ev_iconst (v := 0) rfl (a_dec_at dc_La_copyFrom 45 rfl) ?_
  refine ev_bipush (v := 6) rfl (a_dec_at dc_La_copyFrom 46 rfl) ?_
  refine w_copy (ks := 0) (kd := 0) (kn := 6) cs_La_55 sh6 sh21 (by decide) (by decide) (by decide) (by decide) (Nat.le_of_ble_eq_true rfl) (a_dec_at dc_La_copyFrom 47 rfl) ?_
  refine ev_aload_n (i := 1) rfl rfl (a_dec_at dc_La_copyFrom 48 rfl) ?_
  refine m_getR (y := 7) fl_La_21 rfl sh3 (mr_3_6 _) (by decide) (a_dec_at dc_La_copyFrom 49 rfl) ?_
  refine ev_iconst (v := 0) rfl (a_dec_at dc_La_copyFrom 50 rfl) ?_
  refine ev_aload_n (i := 0) rfl rfl (a_dec_at dc_La_copyFrom 51 rfl) ?_
  refine m_getR (y := 22) fl_La_21 rfl sh18 (mr_18_6 _) (by decide) (a_dec_at dc_La_copyFrom 52 rfl) ?_
  refine ev_iconst (v := 0) rfl (a_dec_at dc_La_copyFrom 53 rfl) ?_
  refine ev_bipush (v := 6) rfl (a_dec_at dc_La_copyFrom 54 rfl) ?_
  refine w_copy (ks := 0) (kd := 0) (kn := 6) cs_La_55 sh7 sh22 (by decide) (by decide) (by decide) (by decide) (Nat.le_of_ble_eq_true rfl) (a_dec_at dc_La_copyFrom 55 rfl) ?_
  refine ev_aload_n (i := 1) rfl rfl (a_dec_at dc_La_copyFrom 56 rfl) ?_
  refine m_getR (y := 8) fl_La_24 rfl sh3 (mr_3_7 _) (by decide) (a_dec_at dc_La_copyFrom 57 rfl) ?_
  refine ev_iconst (v := 0) rfl (a_dec_at dc_La_copyFrom 58 rfl) ?_
  refine ev_aload_n (i := 0) rfl rfl (a_dec_at dc_La_copyFrom 59 rfl) ?_
  refine m_getR (y := 23) fl_La_24 rfl sh18 (mr_18_7 _) (by decide) (a_dec_at dc_La_copyFrom 60 rfl) ?_
  refine ev_iconst (v := 0) rfl (a_dec_at dc_La_copyFrom 61 rfl) ?_
  refine ev_iconst (v := 4) rfl (a_dec_at dc_La_copyFrom 62 rfl) ?_
  refine w_copy (ks := 0) (kd := 0) (kn := 4) cs_La_55 sh8 sh23 (by decide) (by decide) (by decide) (by decide) (Nat.le_of_ble_eq_true rfl) (a_dec_at dc_La_copyFrom 63 rfl) ?_
  refine ev_aload_n (i := 1) rfl rfl (a_dec_at dc_La_copyFrom 64 rfl) ?_
  refine m_getR (y := 9) fl_La_27 rfl sh3 (mr_3_8 _) (by decide) (a_dec_at dc_La_copyFrom 65 rfl) ?_
  refine ev_iconst (v := 0) rfl (a_dec_at dc_La_copyFrom 66 rfl) ?_
  refine ev_aload_n (i := 0) rfl rfl (a_dec_at dc_La_copyFrom 67 rfl) ?_
  refine m_getR (y := 24) fl_La_27 rfl sh18 (mr_18_8 _) (by decide) (a_dec_at dc_La_copyFrom 68 rfl) ?_
  refine ev_iconst (v := 0) rfl (a_dec_at dc_La_copyFrom 69 rfl) ?_
  refine ev_iconst (v := 4) rfl (a_dec_at dc_La_copyFrom 70 rfl) ?_
  refine w_copy (ks := 0) (kd := 0) (kn := 4) cs_La_55 sh9 sh24 (by decide) (by decide) (by decide) (by decide) (Nat.le_of_ble_eq_true rfl) (a_dec_at dc_La_copyFrom 71 rfl) ?_
  refine ev_aload_n (i := 1) rfl rfl (a_dec_at dc_La_copyFrom 72 rfl) ?_
  refine m_getR (y := 10) fl_La_30 rfl sh3 (mr_3_9 _) (by decide) (a_dec_at dc_La_copyFrom 73 rfl) ?_
  refine ev_iconst (v := 0) rfl (a_dec_at dc_La_copyFrom 74 rfl) ?_
  refine ev_aload_n (i := 0) rfl rfl (a_dec_at dc_La_copyFrom 75 rfl) ?_
  refine m_getR (y := 25) fl_La_30 rfl sh18 (mr_18_9 _) (by decide) (a_dec_at dc_La_copyFrom 76 rfl) ?_
  refine ev_iconst (v := 0) rfl (a_dec_at dc_La_copyFrom 77 rfl) ?_
  refine ev_iconst (v := 4) rfl (a_dec_at dc_La_copyFrom 78 rfl) ?_
  refine w_copy (ks := 0) (kd := 0) (kn := 4) cs_La_55 sh10 sh25 (by decide) (by decide) (by decide) (by decide) (Nat.le_of_ble_eq_true rfl) (a_dec_at dc_La_copyFrom 79 rfl) ?_
  refine ev_aload_n (i := 1) rfl rfl (a_dec_at dc_La_copyFrom 80 rfl) ?_
  refine m_getR (y := 11) fl_La_33 rfl sh3 (mr_3_10 _) (by decide) (a_dec_at dc_La_copyFrom 81 rfl) ?_
  refine ev_iconst (v := 0) rfl (a_dec_at dc_La_copyFrom 82 rfl) ?_
  refine ev_aload_n (i := 0) rfl rfl (a_dec_at dc_La_copyFrom 83 rfl) ?_
  refine m_getR (y := 26) fl_La_33 rfl sh18 (mr_18_10 _) (by decide) (a_dec_at dc_La_copyFrom 84 rfl) ?_
  refine ev_iconst (v := 0) rfl (a_dec_at dc_La_copyFrom 85 rfl) ?_
  refine ev_aload_n (i := 1) rfl rfl (a_dec_at dc_La_copyFrom 86 rfl) ?_
  refine m_getI fl_La_52 rfl sh3 (a_dec_at dc_La_copyFrom 87 rfl) ?_
  obtain ⟨c1, H⟩ := H
  refine w_copy (ks := 0) (kd := 0) (kn := ((cpF (cpF (cpF (cpF (cpF (cpF (cpF (up (up (up (up (up (up mi 18 0 (mi 3 0)) 18 1 ((up mi 18 0 (mi 3 0)) 3 1)) 18 2 ((up (up mi 18 0 (mi 3 0)) 18 1 ((up mi 18 0 (mi 3 0)) 3 1)) 3 2)) 18 11 ((up (up (up mi 18 0 (mi 3 0)) 18 1 ((up mi 18 0 (mi 3 0)) 3 1)) 18 2 ((up (up mi 18 0 (mi 3 0)) 18 1 ((up mi 18 0 (mi 3 0)) 3 1)) 3 2)) 3 11)) 18 12 ((up (up (up (up mi 18 0 (mi 3 0)) 18 1 ((up mi 18 0 (mi 3 0)) 3 1)) 18 2 ((up (up mi 18 0 (mi 3 0)) 18 1 ((up mi 18 0 (mi 3 0)) 3 1)) 3 2)) 18 11 ((up (up (up mi 18 0 (mi 3 0)) 18 1 ((up mi 18 0 (mi 3 0)) 3 1)) 18 2 ((up (up mi 18 0 (mi 3 0)) 18 1 ((up mi 18 0 (mi 3 0)) 3 1)) 3 2)) 3 11)) 3 12)) 18 13 ((up (up (up (up (up mi 18 0 (mi 3 0)) 18 1 ((up mi 18 0 (mi 3 0)) 3 1)) 18 2 ((up (up mi 18 0 (mi 3 0)) 18 1 ((up mi 18 0 (mi 3 0)) 3 1)) 3 2)) 18 11 ((up (up (up mi 18 0 (mi 3 0)) 18 1 ((up mi 18 0 (mi 3 0)) 3 1)) 18 2 ((up (up mi 18 0 (mi 3 0)) 18 1 ((up mi 18 0 (mi 3 0)) 3 1)) 3 2)) 3 11)) 18 12 ((up (up (up (up mi 18 0 (mi 3 0)) 18 1 ((up mi 18 0 (mi 3 0)) 3 1)) 18 2 ((up (up mi 18 0 (mi 3 0)) 18 1 ((up mi 18 0 (mi 3 0)) 3 1)) 3 2)) 18 11 ((up (up (up mi 18 0 (mi 3 0)) 18 1 ((up mi 18 0 (mi 3 0)) 3 1)) 18 2 ((up (up mi 18 0 (mi 3 0)) 18 1 ((up mi 18 0 (mi 3 0)) 3 1)) 3 2)) 3 11)) 3 12)) 3 13)) 4 19 0 0 6) 5 20 0 0 6) 6 21 0 0 6) 7 22 0 0 6) 8 23 0 0 4) 9 24 0 0 4) 10 25 0 0 4) 3 11).toNatClampNeg) cs_La_55 sh11 sh26 (by decide) (by decide) rfl c1 (Nat.le_of_ble_eq_true rfl) (a_dec_at dc_La_copyFrom 88 rfl) ?_
  exact m_retV (a_dec_at dc_La_copyFrom 89 rfl) rfl H
set_option maxRecDepth 20000 in
theorem t_La_copyFrom_80_18 {l : Launch} {h : Nat} (mi : TMi) (ml : TMl) (z : Nat) {Q : TMi → TMl → Nat → Prop} (H : (¬ (0 : Int32) < 0 ∧ ¬ (0 : Int32) < 0 ∧ ¬ ((cpF (cpF (cpF (cpF (cpF (cpF (cpF (up (up (up (up (up (up mi 80 0 (mi 18 0)) 80 1 ((up mi 80 0 (mi 18 0)) 18 1)) 80 2 ((up (up mi 80 0 (mi 18 0)) 80 1 ((up mi 80 0 (mi 18 0)) 18 1)) 18 2)) 80 11 ((up (up (up mi 80 0 (mi 18 0)) 80 1 ((up mi 80 0 (mi 18 0)) 18 1)) 80 2 ((up (up mi 80 0 (mi 18 0)) 80 1 ((up mi 80 0 (mi 18 0)) 18 1)) 18 2)) 18 11)) 80 12 ((up (up (up (up mi 80 0 (mi 18 0)) 80 1 ((up mi 80 0 (mi 18 0)) 18 1)) 80 2 ((up (up mi 80 0 (mi 18 0)) 80 1 ((up mi 80 0 (mi 18 0)) 18 1)) 18 2)) 80 11 ((up (up (up mi 80 0 (mi 18 0)) 80 1 ((up mi 80 0 (mi 18 0)) 18 1)) 80 2 ((up (up mi 80 0 (mi 18 0)) 80 1 ((up mi 80 0 (mi 18 0)) 18 1)) 18 2)) 18 11)) 18 12)) 80 13 ((up (up (up (up (up mi 80 0 (mi 18 0)) 80 1 ((up mi 80 0 (mi 18 0)) 18 1)) 80 2 ((up (up mi 80 0 (mi 18 0)) 80 1 ((up mi 80 0 (mi 18 0)) 18 1)) 18 2)) 80 11 ((up (up (up mi 80 0 (mi 18 0)) 80 1 ((up mi 80 0 (mi 18 0)) 18 1)) 80 2 ((up (up mi 80 0 (mi 18 0)) 80 1 ((up mi 80 0 (mi 18 0)) 18 1)) 18 2)) 18 11)) 80 12 ((up (up (up (up mi 80 0 (mi 18 0)) 80 1 ((up mi 80 0 (mi 18 0)) 18 1)) 80 2 ((up (up mi 80 0 (mi 18 0)) 80 1 ((up mi 80 0 (mi 18 0)) 18 1)) 18 2)) 80 11 ((up (up (up mi 80 0 (mi 18 0)) 80 1 ((up mi 80 0 (mi 18 0)) 18 1)) 80 2 ((up (up mi 80 0 (mi 18 0)) 80 1 ((up mi 80 0 (mi 18 0)) 18 1)) 18 2)) 18 11)) 18 12)) 18 13)) 19 81 0 0 6) 20 82 0 0 6) 21 83 0 0 6) 22 84 0 0 6) 23 85 0 0 4) 24 86 0 0 4) 25 87 0 0 4) 18 11) < 0 ∧ 0 + ((cpF (cpF (cpF (cpF (cpF (cpF (cpF (up (up (up (up (up (up mi 80 0 (mi 18 0)) 80 1 ((up mi 80 0 (mi 18 0)) 18 1)) 80 2 ((up (up mi 80 0 (mi 18 0)) 80 1 ((up mi 80 0 (mi 18 0)) 18 1)) 18 2)) 80 11 ((up (up (up mi 80 0 (mi 18 0)) 80 1 ((up mi 80 0 (mi 18 0)) 18 1)) 80 2 ((up (up mi 80 0 (mi 18 0)) 80 1 ((up mi 80 0 (mi 18 0)) 18 1)) 18 2)) 18 11)) 80 12 ((up (up (up (up mi 80 0 (mi 18 0)) 80 1 ((up mi 80 0 (mi 18 0)) 18 1)) 80 2 ((up (up mi 80 0 (mi 18 0)) 80 1 ((up mi 80 0 (mi 18 0)) 18 1)) 18 2)) 80 11 ((up (up (up mi 80 0 (mi 18 0)) 80 1 ((up mi 80 0 (mi 18 0)) 18 1)) 80 2 ((up (up mi 80 0 (mi 18 0)) 80 1 ((up mi 80 0 (mi 18 0)) 18 1)) 18 2)) 18 11)) 18 12)) 80 13 ((up (up (up (up (up mi 80 0 (mi 18 0)) 80 1 ((up mi 80 0 (mi 18 0)) 18 1)) 80 2 ((up (up mi 80 0 (mi 18 0)) 80 1 ((up mi 80 0 (mi 18 0)) 18 1)) 18 2)) 80 11 ((up (up (up mi 80 0 (mi 18 0)) 80 1 ((up mi 80 0 (mi 18 0)) 18 1)) 80 2 ((up (up mi 80 0 (mi 18 0)) 80 1 ((up mi 80 0 (mi 18 0)) 18 1)) 18 2)) 18 11)) 80 12 ((up (up (up (up mi 80 0 (mi 18 0)) 80 1 ((up mi 80 0 (mi 18 0)) 18 1)) 80 2 ((up (up mi 80 0 (mi 18 0)) 80 1 ((up mi 80 0 (mi 18 0)) 18 1)) 18 2)) 80 11 ((up (up (up mi 80 0 (mi 18 0)) 80 1 ((up mi 80 0 (mi 18 0)) 18 1)) 80 2 ((up (up mi 80 0 (mi 18 0)) 80 1 ((up mi 80 0 (mi 18 0)) 18 1)) 18 2)) 18 11)) 18 12)) 18 13)) 19 81 0 0 6) 20 82 0 0 6) 21 83 0 0 6) 22 84 0 0 6) 23 85 0 0 4) 24 86 0 0 4) 25 87 0 0 4) 18 11).toNatClampNeg ≤ 900 ∧ 0 + ((cpF (cpF (cpF (cpF (cpF (cpF (cpF (up (up (up (up (up (up mi 80 0 (mi 18 0)) 80 1 ((up mi 80 0 (mi 18 0)) 18 1)) 80 2 ((up (up mi 80 0 (mi 18 0)) 80 1 ((up mi 80 0 (mi 18 0)) 18 1)) 18 2)) 80 11 ((up (up (up mi 80 0 (mi 18 0)) 80 1 ((up mi 80 0 (mi 18 0)) 18 1)) 80 2 ((up (up mi 80 0 (mi 18 0)) 80 1 ((up mi 80 0 (mi 18 0)) 18 1)) 18 2)) 18 11)) 80 12 ((up (up (up (up mi 80 0 (mi 18 0)) 80 1 ((up mi 80 0 (mi 18 0)) 18 1)) 80 2 ((up (up mi 80 0 (mi 18 0)) 80 1 ((up mi 80 0 (mi 18 0)) 18 1)) 18 2)) 80 11 ((up (up (up mi 80 0 (mi 18 0)) 80 1 ((up mi 80 0 (mi 18 0)) 18 1)) 80 2 ((up (up mi 80 0 (mi 18 0)) 80 1 ((up mi 80 0 (mi 18 0)) 18 1)) 18 2)) 18 11)) 18 12)) 80 13 ((up (up (up (up (up mi 80 0 (mi 18 0)) 80 1 ((up mi 80 0 (mi 18 0)) 18 1)) 80 2 ((up (up mi 80 0 (mi 18 0)) 80 1 ((up mi 80 0 (mi 18 0)) 18 1)) 18 2)) 80 11 ((up (up (up mi 80 0 (mi 18 0)) 80 1 ((up mi 80 0 (mi 18 0)) 18 1)) 80 2 ((up (up mi 80 0 (mi 18 0)) 80 1 ((up mi 80 0 (mi 18 0)) 18 1)) 18 2)) 18 11)) 80 12 ((up (up (up (up mi 80 0 (mi 18 0)) 80 1 ((up mi 80 0 (mi 18 0)) 18 1)) 80 2 ((up (up mi 80 0 (mi 18 0)) 80 1 ((up mi 80 0 (mi 18 0)) 18 1)) 18 2)) 80 11 ((up (up (up mi 80 0 (mi 18 0)) 80 1 ((up mi 80 0 (mi 18 0)) 18 1)) 80 2 ((up (up mi 80 0 (mi 18 0)) 80 1 ((up mi 80 0 (mi 18 0)) 18 1)) 18 2)) 18 11)) 18 12)) 18 13)) 19 81 0 0 6) 20 82 0 0 6) 21 83 0 0 6) 22 84 0 0 6) 23 85 0 0 4) 24 86 0 0 4) 25 87 0 0 4) 18 11).toNatClampNeg ≤ 900) ∧ Q (cpF (cpF (cpF (cpF (cpF (cpF (cpF (cpF (up (up (up (up (up (up mi 80 0 (mi 18 0)) 80 1 ((up mi 80 0 (mi 18 0)) 18 1)) 80 2 ((up (up mi 80 0 (mi 18 0)) 80 1 ((up mi 80 0 (mi 18 0)) 18 1)) 18 2)) 80 11 ((up (up (up mi 80 0 (mi 18 0)) 80 1 ((up mi 80 0 (mi 18 0)) 18 1)) 80 2 ((up (up mi 80 0 (mi 18 0)) 80 1 ((up mi 80 0 (mi 18 0)) 18 1)) 18 2)) 18 11)) 80 12 ((up (up (up (up mi 80 0 (mi 18 0)) 80 1 ((up mi 80 0 (mi 18 0)) 18 1)) 80 2 ((up (up mi 80 0 (mi 18 0)) 80 1 ((up mi 80 0 (mi 18 0)) 18 1)) 18 2)) 80 11 ((up (up (up mi 80 0 (mi 18 0)) 80 1 ((up mi 80 0 (mi 18 0)) 18 1)) 80 2 ((up (up mi 80 0 (mi 18 0)) 80 1 ((up mi 80 0 (mi 18 0)) 18 1)) 18 2)) 18 11)) 18 12)) 80 13 ((up (up (up (up (up mi 80 0 (mi 18 0)) 80 1 ((up mi 80 0 (mi 18 0)) 18 1)) 80 2 ((up (up mi 80 0 (mi 18 0)) 80 1 ((up mi 80 0 (mi 18 0)) 18 1)) 18 2)) 80 11 ((up (up (up mi 80 0 (mi 18 0)) 80 1 ((up mi 80 0 (mi 18 0)) 18 1)) 80 2 ((up (up mi 80 0 (mi 18 0)) 80 1 ((up mi 80 0 (mi 18 0)) 18 1)) 18 2)) 18 11)) 80 12 ((up (up (up (up mi 80 0 (mi 18 0)) 80 1 ((up mi 80 0 (mi 18 0)) 18 1)) 80 2 ((up (up mi 80 0 (mi 18 0)) 80 1 ((up mi 80 0 (mi 18 0)) 18 1)) 18 2)) 80 11 ((up (up (up mi 80 0 (mi 18 0)) 80 1 ((up mi 80 0 (mi 18 0)) 18 1)) 80 2 ((up (up mi 80 0 (mi 18 0)) 80 1 ((up mi 80 0 (mi 18 0)) 18 1)) 18 2)) 18 11)) 18 12)) 18 13)) 19 81 0 0 6) 20 82 0 0 6) 21 83 0 0 6) 22 84 0 0 6) 23 85 0 0 4) 24 86 0 0 4) 25 87 0 0 4) 26 88 0 0 (((cpF (cpF (cpF (cpF (cpF (cpF (cpF (up (up (up (up (up (up mi 80 0 (mi 18 0)) 80 1 ((up mi 80 0 (mi 18 0)) 18 1)) 80 2 ((up (up mi 80 0 (mi 18 0)) 80 1 ((up mi 80 0 (mi 18 0)) 18 1)) 18 2)) 80 11 ((up (up (up mi 80 0 (mi 18 0)) 80 1 ((up mi 80 0 (mi 18 0)) 18 1)) 80 2 ((up (up mi 80 0 (mi 18 0)) 80 1 ((up mi 80 0 (mi 18 0)) 18 1)) 18 2)) 18 11)) 80 12 ((up (up (up (up mi 80 0 (mi 18 0)) 80 1 ((up mi 80 0 (mi 18 0)) 18 1)) 80 2 ((up (up mi 80 0 (mi 18 0)) 80 1 ((up mi 80 0 (mi 18 0)) 18 1)) 18 2)) 80 11 ((up (up (up mi 80 0 (mi 18 0)) 80 1 ((up mi 80 0 (mi 18 0)) 18 1)) 80 2 ((up (up mi 80 0 (mi 18 0)) 80 1 ((up mi 80 0 (mi 18 0)) 18 1)) 18 2)) 18 11)) 18 12)) 80 13 ((up (up (up (up (up mi 80 0 (mi 18 0)) 80 1 ((up mi 80 0 (mi 18 0)) 18 1)) 80 2 ((up (up mi 80 0 (mi 18 0)) 80 1 ((up mi 80 0 (mi 18 0)) 18 1)) 18 2)) 80 11 ((up (up (up mi 80 0 (mi 18 0)) 80 1 ((up mi 80 0 (mi 18 0)) 18 1)) 80 2 ((up (up mi 80 0 (mi 18 0)) 80 1 ((up mi 80 0 (mi 18 0)) 18 1)) 18 2)) 18 11)) 80 12 ((up (up (up (up mi 80 0 (mi 18 0)) 80 1 ((up mi 80 0 (mi 18 0)) 18 1)) 80 2 ((up (up mi 80 0 (mi 18 0)) 80 1 ((up mi 80 0 (mi 18 0)) 18 1)) 18 2)) 80 11 ((up (up (up mi 80 0 (mi 18 0)) 80 1 ((up mi 80 0 (mi 18 0)) 18 1)) 80 2 ((up (up mi 80 0 (mi 18 0)) 80 1 ((up mi 80 0 (mi 18 0)) 18 1)) 18 2)) 18 11)) 18 12)) 18 13)) 19 81 0 0 6) 20 82 0 0 6) 21 83 0 0 6) 22 84 0 0 6) 23 85 0 0 4) 24 86 0 0 4) 25 87 0 0 4) 18 11).toNatClampNeg)) ml z) : CV l (h + 1) m_La_copyFrom [.ref 80, .ref 18] mi ml z Q := by
  show Ev l (h + 1) m_La_copyFrom 0 ([.ref 80, .ref 18], [], st mi ml z) (qV Q)
  refine ev_aload_n (i := 0) rfl rfl (a_dec_at dc_La_copyFrom 0 rfl) ?_
  refine ev_aload_n (i := 1) rfl rfl (a_dec_at dc_La_copyFrom 1 rfl) ?_
  refine m_getI fl_La_43 rfl sh18 (a_dec_at dc_La_copyFrom 2 rfl) ?_
  refine m_putI fl_La_43 rfl (fun _ _ _ h => by cases h; exact Or.inl rfl) sh80 (a_dec_at dc_La_copyFrom 3 rfl) ?_
  refine ev_aload_n (i := 0) rfl rfl (a_dec_at dc_La_copyFrom 4 rfl) ?_
  refine ev_aload_n (i := 1) rfl rfl (a_dec_at dc_La_copyFrom 5 rfl) ?_
  refine m_getI fl_La_46 rfl sh18 (a_dec_at dc_La_copyFrom 6 rfl) ?_
  refine m_putI fl_La_46 rfl (fun _ _ _ h => by cases h; exact Or.inl rfl) sh80 (a_dec_at dc_La_copyFrom 7 rfl) ?_
  refine ev_aload_n (i := 0) rfl rfl (a_dec_at dc_La_copyFrom 8 rfl) ?_
  refine ev_aload_n (i := 1) rfl rfl (a_dec_at dc_La_copyFrom 9 rfl) ?_
  refine m_getI fl_La_49 rfl sh18 (a_dec_at dc_La_copyFrom 10 rfl) ?_
  refine m_putI fl_La_49 rfl (fun _ _ _ h => by cases h; exact Or.inl rfl) sh80 (a_dec_at dc_La_copyFrom 11 rfl) ?_
  refine ev_aload_n (i := 0) rfl rfl (a_dec_at dc_La_copyFrom 12 rfl) ?_
  refine ev_aload_n (i := 1) rfl rfl (a_dec_at dc_La_copyFrom 13 rfl) ?_
  refine m_getI fl_La_52 rfl sh18 (a_dec_at dc_La_copyFrom 14 rfl) ?_
  refine m_putI fl_La_52 rfl (fun _ _ _ h => by cases h; exact Or.inl rfl) sh80 (a_dec_at dc_La_copyFrom 15 rfl) ?_
  refine ev_aload_n (i := 0) rfl rfl (a_dec_at dc_La_copyFrom 16 rfl) ?_
  refine ev_aload_n (i := 1) rfl rfl (a_dec_at dc_La_copyFrom 17 rfl) ?_
  refine m_getI fl_La_36 rfl sh18 (a_dec_at dc_La_copyFrom 18 rfl) ?_
  refine m_putI fl_La_36 rfl (fun _ _ _ h => by cases h; exact Or.inl rfl) sh80 (a_dec_at dc_La_copyFrom 19 rfl) ?_
  refine ev_aload_n (i := 0) rfl rfl (a_dec_at dc_La_copyFrom 20 rfl) ?_
  refine ev_aload_n (i := 1) rfl rfl (a_dec_at dc_La_copyFrom 21 rfl) ?_
  refine m_getI fl_La_40 rfl sh18 (a_dec_at dc_La_copyFrom 22 rfl) ?_
  refine m_putI fl_La_40 rfl (fun _ _ _ h => by cases h; exact Or.inl rfl) sh80 (a_dec_at dc_La_copyFrom 23 rfl) ?_
  refine ev_aload_n (i := 1) rfl rfl (a_dec_at dc_La_copyFrom 24 rfl) ?_
  refine m_getR (y := 19) fl_La_9 rfl sh18 (mr_18_3 _) (by decide) (a_dec_at dc_La_copyFrom 25 rfl) ?_
  refine ev_iconst (v := 0) rfl (a_dec_at dc_La_copyFrom 26 rfl) ?_
  refine ev_aload_n (i := 0) rfl rfl (a_dec_at dc_La_copyFrom 27 rfl) ?_
  refine m_getR (y := 81) fl_La_9 rfl sh80 (mr_80_3 _) (by decide) (a_dec_at dc_La_copyFrom 28 rfl) ?_
  refine ev_iconst (v := 0) rfl (a_dec_at dc_La_copyFrom 29 rfl) ?_
  refine ev_bipush (v := 6) rfl (a_dec_at dc_La_copyFrom 30 rfl) ?_
  refine w_copy (ks := 0) (kd := 0) (kn := 6) cs_La_55 sh19 sh81 (by decide) (by decide) (by decide) (by decide) (Nat.le_of_ble_eq_true rfl) (a_dec_at dc_La_copyFrom 31 rfl) ?_
  refine ev_aload_n (i := 1) rfl rfl (a_dec_at dc_La_copyFrom 32 rfl) ?_
  refine m_getR (y := 20) fl_La_15 rfl sh18 (mr_18_4 _) (by decide) (a_dec_at dc_La_copyFrom 33 rfl) ?_
  refine ev_iconst (v := 0) rfl (a_dec_at dc_La_copyFrom 34 rfl) ?_
  refine ev_aload_n (i := 0) rfl rfl (a_dec_at dc_La_copyFrom 35 rfl) ?_
  refine m_getR (y := 82) fl_La_15 rfl sh80 (mr_80_4 _) (by decide) (a_dec_at dc_La_copyFrom 36 rfl) ?_
  refine ev_iconst (v := 0) rfl (a_dec_at dc_La_copyFrom 37 rfl) ?_
  refine ev_bipush (v := 6) rfl (a_dec_at dc_La_copyFrom 38 rfl) ?_
  refine w_copy (ks := 0) (kd := 0) (kn := 6) cs_La_55 sh20 sh82 (by decide) (by decide) (by decide) (by decide) (Nat.le_of_ble_eq_true rfl) (a_dec_at dc_La_copyFrom 39 rfl) ?_
  refine ev_aload_n (i := 1) rfl rfl (a_dec_at dc_La_copyFrom 40 rfl) ?_
  refine m_getR (y := 21) fl_La_18 rfl sh18 (mr_18_5 _) (by decide) (a_dec_at dc_La_copyFrom 41 rfl) ?_
  refine ev_iconst (v := 0) rfl (a_dec_at dc_La_copyFrom 42 rfl) ?_
  refine ev_aload_n (i := 0) rfl rfl (a_dec_at dc_La_copyFrom 43 rfl) ?_
  refine m_getR (y := 83) fl_La_18 rfl sh80 (mr_80_5 _) (by decide) (a_dec_at dc_La_copyFrom 44 rfl) ?_
  refine ev_iconst (v := 0) rfl (a_dec_at dc_La_copyFrom 45 rfl) ?_
  refine ev_bipush (v := 6) rfl (a_dec_at dc_La_copyFrom 46 rfl) ?_
  refine w_copy (ks := 0) (kd := 0) (kn := 6) cs_La_55 sh21 sh83 (by decide) (by decide) (by decide) (by decide) (Nat.le_of_ble_eq_true rfl) (a_dec_at dc_La_copyFrom 47 rfl) ?_
  refine ev_aload_n (i := 1) rfl rfl (a_dec_at dc_La_copyFrom 48 rfl) ?_
  refine m_getR (y := 22) fl_La_21 rfl sh18 (mr_18_6 _) (by decide) (a_dec_at dc_La_copyFrom 49 rfl) ?_
  refine ev_iconst (v := 0) rfl (a_dec_at dc_La_copyFrom 50 rfl) ?_
  refine ev_aload_n (i := 0) rfl rfl (a_dec_at dc_La_copyFrom 51 rfl) ?_
  refine m_getR (y := 84) fl_La_21 rfl sh80 (mr_80_6 _) (by decide) (a_dec_at dc_La_copyFrom 52 rfl) ?_
  refine ev_iconst (v := 0) rfl (a_dec_at dc_La_copyFrom 53 rfl) ?_
  refine ev_bipush (v := 6) rfl (a_dec_at dc_La_copyFrom 54 rfl) ?_
  refine w_copy (ks := 0) (kd := 0) (kn := 6) cs_La_55 sh22 sh84 (by decide) (by decide) (by decide) (by decide) (Nat.le_of_ble_eq_true rfl) (a_dec_at dc_La_copyFrom 55 rfl) ?_
  refine ev_aload_n (i := 1) rfl rfl (a_dec_at dc_La_copyFrom 56 rfl) ?_
  refine m_getR (y := 23) fl_La_24 rfl sh18 (mr_18_7 _) (by decide) (a_dec_at dc_La_copyFrom 57 rfl) ?_
  refine ev_iconst (v := 0) rfl (a_dec_at dc_La_copyFrom 58 rfl) ?_
  refine ev_aload_n (i := 0) rfl rfl (a_dec_at dc_La_copyFrom 59 rfl) ?_
  refine m_getR (y := 85) fl_La_24 rfl sh80 (mr_80_7 _) (by decide) (a_dec_at dc_La_copyFrom 60 rfl) ?_
  refine ev_iconst (v := 0) rfl (a_dec_at dc_La_copyFrom 61 rfl) ?_
  refine ev_iconst (v := 4) rfl (a_dec_at dc_La_copyFrom 62 rfl) ?_
  refine w_copy (ks := 0) (kd := 0) (kn := 4) cs_La_55 sh23 sh85 (by decide) (by decide) (by decide) (by decide) (Nat.le_of_ble_eq_true rfl) (a_dec_at dc_La_copyFrom 63 rfl) ?_
  refine ev_aload_n (i := 1) rfl rfl (a_dec_at dc_La_copyFrom 64 rfl) ?_
  refine m_getR (y := 24) fl_La_27 rfl sh18 (mr_18_8 _) (by decide) (a_dec_at dc_La_copyFrom 65 rfl) ?_
  refine ev_iconst (v := 0) rfl (a_dec_at dc_La_copyFrom 66 rfl) ?_
  refine ev_aload_n (i := 0) rfl rfl (a_dec_at dc_La_copyFrom 67 rfl) ?_
  refine m_getR (y := 86) fl_La_27 rfl sh80 (mr_80_8 _) (by decide) (a_dec_at dc_La_copyFrom 68 rfl) ?_
  refine ev_iconst (v := 0) rfl (a_dec_at dc_La_copyFrom 69 rfl) ?_
  refine ev_iconst (v := 4) rfl (a_dec_at dc_La_copyFrom 70 rfl) ?_
  refine w_copy (ks := 0) (kd := 0) (kn := 4) cs_La_55 sh24 sh86 (by decide) (by decide) (by decide) (by decide) (Nat.le_of_ble_eq_true rfl) (a_dec_at dc_La_copyFrom 71 rfl) ?_
  refine ev_aload_n (i := 1) rfl rfl (a_dec_at dc_La_copyFrom 72 rfl) ?_
  refine m_getR (y := 25) fl_La_30 rfl sh18 (mr_18_9 _) (by decide) (a_dec_at dc_La_copyFrom 73 rfl) ?_
  refine ev_iconst (v := 0) rfl (a_dec_at dc_La_copyFrom 74 rfl) ?_
  refine ev_aload_n (i := 0) rfl rfl (a_dec_at dc_La_copyFrom 75 rfl) ?_
  refine m_getR (y := 87) fl_La_30 rfl sh80 (mr_80_9 _) (by decide) (a_dec_at dc_La_copyFrom 76 rfl) ?_
  refine ev_iconst (v := 0) rfl (a_dec_at dc_La_copyFrom 77 rfl) ?_
  refine ev_iconst (v := 4) rfl (a_dec_at dc_La_copyFrom 78 rfl) ?_
  refine w_copy (ks := 0) (kd := 0) (kn := 4) cs_La_55 sh25 sh87 (by decide) (by decide) (by decide) (by decide) (Nat.le_of_ble_eq_true rfl) (a_dec_at dc_La_copyFrom 79 rfl) ?_
  refine ev_aload_n (i := 1) rfl rfl (a_dec_at dc_La_copyFrom 80 rfl) ?_
  refine m_getR (y := 26) fl_La_33 rfl sh18 (mr_18_10 _) (by decide) (a_dec_at dc_La_copyFrom 81 rfl) ?_
  refine ev_iconst (v := 0) rfl (a_dec_at dc_La_copyFrom 82 rfl) ?_
  refine ev_aload_n (i := 0) rfl rfl (a_dec_at dc_La_copyFrom 83 rfl) ?_
  refine m_getR (y := 88) fl_La_33 rfl sh80 (mr_80_10 _) (by decide) (a_dec_at dc_La_copyFrom 84 rfl) ?_
  refine ev_iconst (v := 0) rfl (a_dec_at dc_La_copyFrom 85 rfl) ?_
  refine ev_aload_n (i := 1) rfl rfl (a_dec_at dc_La_copyFrom 86 rfl) ?_
  refine m_getI fl_La_52 rfl sh18 (a_dec_at dc_La_copyFrom 87 rfl) ?_
  obtain ⟨c1, H⟩ := H
  refine w_copy (ks := 0) (kd := 0) (kn := ((cpF (cpF (cpF (cpF (cpF (cpF (cpF (up (up (up (up (up (up mi 80 0 (mi 18 0)) 80 1 ((up mi 80 0 (mi 18 0)) 18 1)) 80 2 ((up (up mi 80 0 (mi 18 0)) 80 1 ((up mi 80 0 (mi 18 0)) 18 1)) 18 2)) 80 11 ((up (up (up mi 80 0 (mi 18 0)) 80 1 ((up mi 80 0 (mi 18 0)) 18 1)) 80 2 ((up (up mi 80 0 (mi 18 0)) 80 1 ((up mi 80 0 (mi 18 0)) 18 1)) 18 2)) 18 11)) 80 12 ((up (up (up (up mi 80 0 (mi 18 0)) 80 1 ((up mi 80 0 (mi 18 0)) 18 1)) 80 2 ((up (up mi 80 0 (mi 18 0)) 80 1 ((up mi 80 0 (mi 18 0)) 18 1)) 18 2)) 80 11 ((up (up (up mi 80 0 (mi 18 0)) 80 1 ((up mi 80 0 (mi 18 0)) 18 1)) 80 2 ((up (up mi 80 0 (mi 18 0)) 80 1 ((up mi 80 0 (mi 18 0)) 18 1)) 18 2)) 18 11)) 18 12)) 80 13 ((up (up (up (up (up mi 80 0 (mi 18 0)) 80 1 ((up mi 80 0 (mi 18 0)) 18 1)) 80 2 ((up (up mi 80 0 (mi 18 0)) 80 1 ((up mi 80 0 (mi 18 0)) 18 1)) 18 2)) 80 11 ((up (up (up mi 80 0 (mi 18 0)) 80 1 ((up mi 80 0 (mi 18 0)) 18 1)) 80 2 ((up (up mi 80 0 (mi 18 0)) 80 1 ((up mi 80 0 (mi 18 0)) 18 1)) 18 2)) 18 11)) 80 12 ((up (up (up (up mi 80 0 (mi 18 0)) 80 1 ((up mi 80 0 (mi 18 0)) 18 1)) 80 2 ((up (up mi 80 0 (mi 18 0)) 80 1 ((up mi 80 0 (mi 18 0)) 18 1)) 18 2)) 80 11 ((up (up (up mi 80 0 (mi 18 0)) 80 1 ((up mi 80 0 (mi 18 0)) 18 1)) 80 2 ((up (up mi 80 0 (mi 18 0)) 80 1 ((up mi 80 0 (mi 18 0)) 18 1)) 18 2)) 18 11)) 18 12)) 18 13)) 19 81 0 0 6) 20 82 0 0 6) 21 83 0 0 6) 22 84 0 0 6) 23 85 0 0 4) 24 86 0 0 4) 25 87 0 0 4) 18 11).toNatClampNeg) cs_La_55 sh26 sh88 (by decide) (by decide) rfl c1 (Nat.le_of_ble_eq_true rfl) (a_dec_at dc_La_copyFrom 88 rfl) ?_
  exact m_retV (a_dec_at dc_La_copyFrom 89 rfl) rfl H
set_option maxRecDepth 20000 in
theorem t_La_copyFrom_96_18 {l : Launch} {h : Nat} (mi : TMi) (ml : TMl) (z : Nat) {Q : TMi → TMl → Nat → Prop} (H : (¬ (0 : Int32) < 0 ∧ ¬ (0 : Int32) < 0 ∧ ¬ ((cpF (cpF (cpF (cpF (cpF (cpF (cpF (up (up (up (up (up (up mi 96 0 (mi 18 0)) 96 1 ((up mi 96 0 (mi 18 0)) 18 1)) 96 2 ((up (up mi 96 0 (mi 18 0)) 96 1 ((up mi 96 0 (mi 18 0)) 18 1)) 18 2)) 96 11 ((up (up (up mi 96 0 (mi 18 0)) 96 1 ((up mi 96 0 (mi 18 0)) 18 1)) 96 2 ((up (up mi 96 0 (mi 18 0)) 96 1 ((up mi 96 0 (mi 18 0)) 18 1)) 18 2)) 18 11)) 96 12 ((up (up (up (up mi 96 0 (mi 18 0)) 96 1 ((up mi 96 0 (mi 18 0)) 18 1)) 96 2 ((up (up mi 96 0 (mi 18 0)) 96 1 ((up mi 96 0 (mi 18 0)) 18 1)) 18 2)) 96 11 ((up (up (up mi 96 0 (mi 18 0)) 96 1 ((up mi 96 0 (mi 18 0)) 18 1)) 96 2 ((up (up mi 96 0 (mi 18 0)) 96 1 ((up mi 96 0 (mi 18 0)) 18 1)) 18 2)) 18 11)) 18 12)) 96 13 ((up (up (up (up (up mi 96 0 (mi 18 0)) 96 1 ((up mi 96 0 (mi 18 0)) 18 1)) 96 2 ((up (up mi 96 0 (mi 18 0)) 96 1 ((up mi 96 0 (mi 18 0)) 18 1)) 18 2)) 96 11 ((up (up (up mi 96 0 (mi 18 0)) 96 1 ((up mi 96 0 (mi 18 0)) 18 1)) 96 2 ((up (up mi 96 0 (mi 18 0)) 96 1 ((up mi 96 0 (mi 18 0)) 18 1)) 18 2)) 18 11)) 96 12 ((up (up (up (up mi 96 0 (mi 18 0)) 96 1 ((up mi 96 0 (mi 18 0)) 18 1)) 96 2 ((up (up mi 96 0 (mi 18 0)) 96 1 ((up mi 96 0 (mi 18 0)) 18 1)) 18 2)) 96 11 ((up (up (up mi 96 0 (mi 18 0)) 96 1 ((up mi 96 0 (mi 18 0)) 18 1)) 96 2 ((up (up mi 96 0 (mi 18 0)) 96 1 ((up mi 96 0 (mi 18 0)) 18 1)) 18 2)) 18 11)) 18 12)) 18 13)) 19 97 0 0 6) 20 98 0 0 6) 21 99 0 0 6) 22 100 0 0 6) 23 101 0 0 4) 24 102 0 0 4) 25 103 0 0 4) 18 11) < 0 ∧ 0 + ((cpF (cpF (cpF (cpF (cpF (cpF (cpF (up (up (up (up (up (up mi 96 0 (mi 18 0)) 96 1 ((up mi 96 0 (mi 18 0)) 18 1)) 96 2 ((up (up mi 96 0 (mi 18 0)) 96 1 ((up mi 96 0 (mi 18 0)) 18 1)) 18 2)) 96 11 ((up (up (up mi 96 0 (mi 18 0)) 96 1 ((up mi 96 0 (mi 18 0)) 18 1)) 96 2 ((up (up mi 96 0 (mi 18 0)) 96 1 ((up mi 96 0 (mi 18 0)) 18 1)) 18 2)) 18 11)) 96 12 ((up (up (up (up mi 96 0 (mi 18 0)) 96 1 ((up mi 96 0 (mi 18 0)) 18 1)) 96 2 ((up (up mi 96 0 (mi 18 0)) 96 1 ((up mi 96 0 (mi 18 0)) 18 1)) 18 2)) 96 11 ((up (up (up mi 96 0 (mi 18 0)) 96 1 ((up mi 96 0 (mi 18 0)) 18 1)) 96 2 ((up (up mi 96 0 (mi 18 0)) 96 1 ((up mi 96 0 (mi 18 0)) 18 1)) 18 2)) 18 11)) 18 12)) 96 13 ((up (up (up (up (up mi 96 0 (mi 18 0)) 96 1 ((up mi 96 0 (mi 18 0)) 18 1)) 96 2 ((up (up mi 96 0 (mi 18 0)) 96 1 ((up mi 96 0 (mi 18 0)) 18 1)) 18 2)) 96 11 ((up (up (up mi 96 0 (mi 18 0)) 96 1 ((up mi 96 0 (mi 18 0)) 18 1)) 96 2 ((up (up mi 96 0 (mi 18 0)) 96 1 ((up mi 96 0 (mi 18 0)) 18 1)) 18 2)) 18 11)) 96 12 ((up (up (up (up mi 96 0 (mi 18 0)) 96 1 ((up mi 96 0 (mi 18 0)) 18 1)) 96 2 ((up (up mi 96 0 (mi 18 0)) 96 1 ((up mi 96 0 (mi 18 0)) 18 1)) 18 2)) 96 11 ((up (up (up mi 96 0 (mi 18 0)) 96 1 ((up mi 96 0 (mi 18 0)) 18 1)) 96 2 ((up (up mi 96 0 (mi 18 0)) 96 1 ((up mi 96 0 (mi 18 0)) 18 1)) 18 2)) 18 11)) 18 12)) 18 13)) 19 97 0 0 6) 20 98 0 0 6) 21 99 0 0 6) 22 100 0 0 6) 23 101 0 0 4) 24 102 0 0 4) 25 103 0 0 4) 18 11).toNatClampNeg ≤ 900 ∧ 0 + ((cpF (cpF (cpF (cpF (cpF (cpF (cpF (up (up (up (up (up (up mi 96 0 (mi 18 0)) 96 1 ((up mi 96 0 (mi 18 0)) 18 1)) 96 2 ((up (up mi 96 0 (mi 18 0)) 96 1 ((up mi 96 0 (mi 18 0)) 18 1)) 18 2)) 96 11 ((up (up (up mi 96 0 (mi 18 0)) 96 1 ((up mi 96 0 (mi 18 0)) 18 1)) 96 2 ((up (up mi 96 0 (mi 18 0)) 96 1 ((up mi 96 0 (mi 18 0)) 18 1)) 18 2)) 18 11)) 96 12 ((up (up (up (up mi 96 0 (mi 18 0)) 96 1 ((up mi 96 0 (mi 18 0)) 18 1)) 96 2 ((up (up mi 96 0 (mi 18 0)) 96 1 ((up mi 96 0 (mi 18 0)) 18 1)) 18 2)) 96 11 ((up (up (up mi 96 0 (mi 18 0)) 96 1 ((up mi 96 0 (mi 18 0)) 18 1)) 96 2 ((up (up mi 96 0 (mi 18 0)) 96 1 ((up mi 96 0 (mi 18 0)) 18 1)) 18 2)) 18 11)) 18 12)) 96 13 ((up (up (up (up (up mi 96 0 (mi 18 0)) 96 1 ((up mi 96 0 (mi 18 0)) 18 1)) 96 2 ((up (up mi 96 0 (mi 18 0)) 96 1 ((up mi 96 0 (mi 18 0)) 18 1)) 18 2)) 96 11 ((up (up (up mi 96 0 (mi 18 0)) 96 1 ((up mi 96 0 (mi 18 0)) 18 1)) 96 2 ((up (up mi 96 0 (mi 18 0)) 96 1 ((up mi 96 0 (mi 18 0)) 18 1)) 18 2)) 18 11)) 96 12 ((up (up (up (up mi 96 0 (mi 18 0)) 96 1 ((up mi 96 0 (mi 18 0)) 18 1)) 96 2 ((up (up mi 96 0 (mi 18 0)) 96 1 ((up mi 96 0 (mi 18 0)) 18 1)) 18 2)) 96 11 ((up (up (up mi 96 0 (mi 18 0)) 96 1 ((up mi 96 0 (mi 18 0)) 18 1)) 96 2 ((up (up mi 96 0 (mi 18 0)) 96 1 ((up mi 96 0 (mi 18 0)) 18 1)) 18 2)) 18 11)) 18 12)) 18 13)) 19 97 0 0 6) 20 98 0 0 6) 21 99 0 0 6) 22 100 0 0 6) 23 101 0 0 4) 24 102 0 0 4) 25 103 0 0 4) 18 11).toNatClampNeg ≤ 900) ∧ Q (cpF (cpF (cpF (cpF (cpF (cpF (cpF (cpF (up (up (up (up (up (up mi 96 0 (mi 18 0)) 96 1 ((up mi 96 0 (mi 18 0)) 18 1)) 96 2 ((up (up mi 96 0 (mi 18 0)) 96 1 ((up mi 96 0 (mi 18 0)) 18 1)) 18 2)) 96 11 ((up (up (up mi 96 0 (mi 18 0)) 96 1 ((up mi 96 0 (mi 18 0)) 18 1)) 96 2 ((up (up mi 96 0 (mi 18 0)) 96 1 ((up mi 96 0 (mi 18 0)) 18 1)) 18 2)) 18 11)) 96 12 ((up (up (up (up mi 96 0 (mi 18 0)) 96 1 ((up mi 96 0 (mi 18 0)) 18 1)) 96 2 ((up (up mi 96 0 (mi 18 0)) 96 1 ((up mi 96 0 (mi 18 0)) 18 1)) 18 2)) 96 11 ((up (up (up mi 96 0 (mi 18 0)) 96 1 ((up mi 96 0 (mi 18 0)) 18 1)) 96 2 ((up (up mi 96 0 (mi 18 0)) 96 1 ((up mi 96 0 (mi 18 0)) 18 1)) 18 2)) 18 11)) 18 12)) 96 13 ((up (up (up (up (up mi 96 0 (mi 18 0)) 96 1 ((up mi 96 0 (mi 18 0)) 18 1)) 96 2 ((up (up mi 96 0 (mi 18 0)) 96 1 ((up mi 96 0 (mi 18 0)) 18 1)) 18 2)) 96 11 ((up (up (up mi 96 0 (mi 18 0)) 96 1 ((up mi 96 0 (mi 18 0)) 18 1)) 96 2 ((up (up mi 96 0 (mi 18 0)) 96 1 ((up mi 96 0 (mi 18 0)) 18 1)) 18 2)) 18 11)) 96 12 ((up (up (up (up mi 96 0 (mi 18 0)) 96 1 ((up mi 96 0 (mi 18 0)) 18 1)) 96 2 ((up (up mi 96 0 (mi 18 0)) 96 1 ((up mi 96 0 (mi 18 0)) 18 1)) 18 2)) 96 11 ((up (up (up mi 96 0 (mi 18 0)) 96 1 ((up mi 96 0 (mi 18 0)) 18 1)) 96 2 ((up (up mi 96 0 (mi 18 0)) 96 1 ((up mi 96 0 (mi 18 0)) 18 1)) 18 2)) 18 11)) 18 12)) 18 13)) 19 97 0 0 6) 20 98 0 0 6) 21 99 0 0 6) 22 100 0 0 6) 23 101 0 0 4) 24 102 0 0 4) 25 103 0 0 4) 26 104 0 0 (((cpF (cpF (cpF (cpF (cpF (cpF (cpF (up (up (up (up (up (up mi 96 0 (mi 18 0)) 96 1 ((up mi 96 0 (mi 18 0)) 18 1)) 96 2 ((up (up mi 96 0 (mi 18 0)) 96 1 ((up mi 96 0 (mi 18 0)) 18 1)) 18 2)) 96 11 ((up (up (up mi 96 0 (mi 18 0)) 96 1 ((up mi 96 0 (mi 18 0)) 18 1)) 96 2 ((up (up mi 96 0 (mi 18 0)) 96 1 ((up mi 96 0 (mi 18 0)) 18 1)) 18 2)) 18 11)) 96 12 ((up (up (up (up mi 96 0 (mi 18 0)) 96 1 ((up mi 96 0 (mi 18 0)) 18 1)) 96 2 ((up (up mi 96 0 (mi 18 0)) 96 1 ((up mi 96 0 (mi 18 0)) 18 1)) 18 2)) 96 11 ((up (up (up mi 96 0 (mi 18 0)) 96 1 ((up mi 96 0 (mi 18 0)) 18 1)) 96 2 ((up (up mi 96 0 (mi 18 0)) 96 1 ((up mi 96 0 (mi 18 0)) 18 1)) 18 2)) 18 11)) 18 12)) 96 13 ((up (up (up (up (up mi 96 0 (mi 18 0)) 96 1 ((up mi 96 0 (mi 18 0)) 18 1)) 96 2 ((up (up mi 96 0 (mi 18 0)) 96 1 ((up mi 96 0 (mi 18 0)) 18 1)) 18 2)) 96 11 ((up (up (up mi 96 0 (mi 18 0)) 96 1 ((up mi 96 0 (mi 18 0)) 18 1)) 96 2 ((up (up mi 96 0 (mi 18 0)) 96 1 ((up mi 96 0 (mi 18 0)) 18 1)) 18 2)) 18 11)) 96 12 ((up (up (up (up mi 96 0 (mi 18 0)) 96 1 ((up mi 96 0 (mi 18 0)) 18 1)) 96 2 ((up (up mi 96 0 (mi 18 0)) 96 1 ((up mi 96 0 (mi 18 0)) 18 1)) 18 2)) 96 11 ((up (up (up mi 96 0 (mi 18 0)) 96 1 ((up mi 96 0 (mi 18 0)) 18 1)) 96 2 ((up (up mi 96 0 (mi 18 0)) 96 1 ((up mi 96 0 (mi 18 0)) 18 1)) 18 2)) 18 11)) 18 12)) 18 13)) 19 97 0 0 6) 20 98 0 0 6) 21 99 0 0 6) 22 100 0 0 6) 23 101 0 0 4) 24 102 0 0 4) 25 103 0 0 4) 18 11).toNatClampNeg)) ml z) : CV l (h + 1) m_La_copyFrom [.ref 96, .ref 18] mi ml z Q := by
  show Ev l (h + 1) m_La_copyFrom 0 ([.ref 96, .ref 18], [], st mi ml z) (qV Q)
  refine ev_aload_n (i := 0) rfl rfl (a_dec_at dc_La_copyFrom 0 rfl) ?_
  refine ev_aload_n (i := 1) rfl rfl (a_dec_at dc_La_copyFrom 1 rfl) ?_
  refine m_getI fl_La_43 rfl sh18 (a_dec_at dc_La_copyFrom 2 rfl) ?_
  refine m_putI fl_La_43 rfl (fun _ _ _ h => by cases h; exact Or.inl rfl) sh96 (a_dec_at dc_La_copyFrom 3 rfl) ?_
  refine ev_aload_n (i := 0) rfl rfl (a_dec_at dc_La_copyFrom 4 rfl) ?_
  refine ev_aload_n (i := 1) rfl rfl (a_dec_at dc_La_copyFrom 5 rfl) ?_
  refine m_getI fl_La_46 rfl sh18 (a_dec_at dc_La_copyFrom 6 rfl) ?_
  refine m_putI fl_La_46 rfl (fun _ _ _ h => by cases h; exact Or.inl rfl) sh96 (a_dec_at dc_La_copyFrom 7 rfl) ?_
  refine ev_aload_n (i := 0) rfl rfl (a_dec_at dc_La_copyFrom 8 rfl) ?_
  refine ev_aload_n (i := 1) rfl rfl (a_dec_at dc_La_copyFrom 9 rfl) ?_
  refine m_getI fl_La_49 rfl sh18 (a_dec_at dc_La_copyFrom 10 rfl) ?_
  refine m_putI fl_La_49 rfl (fun _ _ _ h => by cases h; exact Or.inl rfl) sh96 (a_dec_at dc_La_copyFrom 11 rfl) ?_
  refine ev_aload_n (i := 0) rfl rfl (a_dec_at dc_La_copyFrom 12 rfl) ?_
  refine ev_aload_n (i := 1) rfl rfl (a_dec_at dc_La_copyFrom 13 rfl) ?_
  refine m_getI fl_La_52 rfl sh18 (a_dec_at dc_La_copyFrom 14 rfl) ?_
  refine m_putI fl_La_52 rfl (fun _ _ _ h => by cases h; exact Or.inl rfl) sh96 (a_dec_at dc_La_copyFrom 15 rfl) ?_
  refine ev_aload_n (i := 0) rfl rfl (a_dec_at dc_La_copyFrom 16 rfl) ?_
  refine ev_aload_n (i := 1) rfl rfl (a_dec_at dc_La_copyFrom 17 rfl) ?_
  refine m_getI fl_La_36 rfl sh18 (a_dec_at dc_La_copyFrom 18 rfl) ?_
  refine m_putI fl_La_36 rfl (fun _ _ _ h => by cases h; exact Or.inl rfl) sh96 (a_dec_at dc_La_copyFrom 19 rfl) ?_
  refine ev_aload_n (i := 0) rfl rfl (a_dec_at dc_La_copyFrom 20 rfl) ?_
  refine ev_aload_n (i := 1) rfl rfl (a_dec_at dc_La_copyFrom 21 rfl) ?_
  refine m_getI fl_La_40 rfl sh18 (a_dec_at dc_La_copyFrom 22 rfl) ?_
  refine m_putI fl_La_40 rfl (fun _ _ _ h => by cases h; exact Or.inl rfl) sh96 (a_dec_at dc_La_copyFrom 23 rfl) ?_
  refine ev_aload_n (i := 1) rfl rfl (a_dec_at dc_La_copyFrom 24 rfl) ?_
  refine m_getR (y := 19) fl_La_9 rfl sh18 (mr_18_3 _) (by decide) (a_dec_at dc_La_copyFrom 25 rfl) ?_
  refine ev_iconst (v := 0) rfl (a_dec_at dc_La_copyFrom 26 rfl) ?_
  refine ev_aload_n (i := 0) rfl rfl (a_dec_at dc_La_copyFrom 27 rfl) ?_
  refine m_getR (y := 97) fl_La_9 rfl sh96 (mr_96_3 _) (by decide) (a_dec_at dc_La_copyFrom 28 rfl) ?_
  refine ev_iconst (v := 0) rfl (a_dec_at dc_La_copyFrom 29 rfl) ?_
  refine ev_bipush (v := 6) rfl (a_dec_at dc_La_copyFrom 30 rfl) ?_
  refine w_copy (ks := 0) (kd := 0) (kn := 6) cs_La_55 sh19 sh97 (by decide) (by decide) (by decide) (by decide) (Nat.le_of_ble_eq_true rfl) (a_dec_at dc_La_copyFrom 31 rfl) ?_
  refine ev_aload_n (i := 1) rfl rfl (a_dec_at dc_La_copyFrom 32 rfl) ?_
  refine m_getR (y := 20) fl_La_15 rfl sh18 (mr_18_4 _) (by decide) (a_dec_at dc_La_copyFrom 33 rfl) ?_
  refine ev_iconst (v := 0) rfl (a_dec_at dc_La_copyFrom 34 rfl) ?_
  refine ev_aload_n (i := 0) rfl rfl (a_dec_at dc_La_copyFrom 35 rfl) ?_
  refine m_getR (y := 98) fl_La_15 rfl sh96 (mr_96_4 _) (by decide) (a_dec_at dc_La_copyFrom 36 rfl) ?_
  refine ev_iconst (v := 0) rfl (a_dec_at dc_La_copyFrom 37 rfl) ?_
  refine ev_bipush (v := 6) rfl (a_dec_at dc_La_copyFrom 38 rfl) ?_
  refine w_copy (ks := 0) (kd := 0) (kn := 6) cs_La_55 sh20 sh98 (by decide) (by decide) (by decide) (by decide) (Nat.le_of_ble_eq_true rfl) (a_dec_at dc_La_copyFrom 39 rfl) ?_
  refine ev_aload_n (i := 1) rfl rfl (a_dec_at dc_La_copyFrom 40 rfl) ?_
  refine m_getR (y := 21) fl_La_18 rfl sh18 (mr_18_5 _) (by decide) (a_dec_at dc_La_copyFrom 41 rfl) ?_
  refine ev_iconst (v := 0) rfl (a_dec_at dc_La_copyFrom 42 rfl) ?_
  refine ev_aload_n (i := 0) rfl rfl (a_dec_at dc_La_copyFrom 43 rfl) ?_
  refine m_getR (y := 99) fl_La_18 rfl sh96 (mr_96_5 _) (by decide) (a_dec_at dc_La_copyFrom 44 rfl) ?_
  refine ev_iconst (v := 0) rfl (a_dec_at dc_La_copyFrom 45 rfl) ?_
  refine ev_bipush (v := 6) rfl (a_dec_at dc_La_copyFrom 46 rfl) ?_
  refine w_copy (ks := 0) (kd := 0) (kn := 6) cs_La_55 sh21 sh99 (by decide) (by decide) (by decide) (by decide) (Nat.le_of_ble_eq_true rfl) (a_dec_at dc_La_copyFrom 47 rfl) ?_
  refine ev_aload_n (i := 1) rfl rfl (a_dec_at dc_La_copyFrom 48 rfl) ?_
  refine m_getR (y := 22) fl_La_21 rfl sh18 (mr_18_6 _) (by decide) (a_dec_at dc_La_copyFrom 49 rfl) ?_
  refine ev_iconst (v := 0) rfl (a_dec_at dc_La_copyFrom 50 rfl) ?_
  refine ev_aload_n (i := 0) rfl rfl (a_dec_at dc_La_copyFrom 51 rfl) ?_
  refine m_getR (y := 100) fl_La_21 rfl sh96 (mr_96_6 _) (by decide) (a_dec_at dc_La_copyFrom 52 rfl) ?_
  refine ev_iconst (v := 0) rfl (a_dec_at dc_La_copyFrom 53 rfl) ?_
  refine ev_bipush (v := 6) rfl (a_dec_at dc_La_copyFrom 54 rfl) ?_
  refine w_copy (ks := 0) (kd := 0) (kn := 6) cs_La_55 sh22 sh100 (by decide) (by decide) (by decide) (by decide) (Nat.le_of_ble_eq_true rfl) (a_dec_at dc_La_copyFrom 55 rfl) ?_
  refine ev_aload_n (i := 1) rfl rfl (a_dec_at dc_La_copyFrom 56 rfl) ?_
  refine m_getR (y := 23) fl_La_24 rfl sh18 (mr_18_7 _) (by decide) (a_dec_at dc_La_copyFrom 57 rfl) ?_
  refine ev_iconst (v := 0) rfl (a_dec_at dc_La_copyFrom 58 rfl) ?_
  refine ev_aload_n (i := 0) rfl rfl (a_dec_at dc_La_copyFrom 59 rfl) ?_
  refine m_getR (y := 101) fl_La_24 rfl sh96 (mr_96_7 _) (by decide) (a_dec_at dc_La_copyFrom 60 rfl) ?_
  refine ev_iconst (v := 0) rfl (a_dec_at dc_La_copyFrom 61 rfl) ?_
  refine ev_iconst (v := 4) rfl (a_dec_at dc_La_copyFrom 62 rfl) ?_
  refine w_copy (ks := 0) (kd := 0) (kn := 4) cs_La_55 sh23 sh101 (by decide) (by decide) (by decide) (by decide) (Nat.le_of_ble_eq_true rfl) (a_dec_at dc_La_copyFrom 63 rfl) ?_
  refine ev_aload_n (i := 1) rfl rfl (a_dec_at dc_La_copyFrom 64 rfl) ?_
  refine m_getR (y := 24) fl_La_27 rfl sh18 (mr_18_8 _) (by decide) (a_dec_at dc_La_copyFrom 65 rfl) ?_
  refine ev_iconst (v := 0) rfl (a_dec_at dc_La_copyFrom 66 rfl) ?_
  refine ev_aload_n (i := 0) rfl rfl (a_dec_at dc_La_copyFrom 67 rfl) ?_
  refine m_getR (y := 102) fl_La_27 rfl sh96 (mr_96_8 _) (by decide) (a_dec_at dc_La_copyFrom 68 rfl) ?_
  refine ev_iconst (v := 0) rfl (a_dec_at dc_La_copyFrom 69 rfl) ?_
  refine ev_iconst (v := 4) rfl (a_dec_at dc_La_copyFrom 70 rfl) ?_
  refine w_copy (ks := 0) (kd := 0) (kn := 4) cs_La_55 sh24 sh102 (by decide) (by decide) (by decide) (by decide) (Nat.le_of_ble_eq_true rfl) (a_dec_at dc_La_copyFrom 71 rfl) ?_
  refine ev_aload_n (i := 1) rfl rfl (a_dec_at dc_La_copyFrom 72 rfl) ?_
  refine m_getR (y := 25) fl_La_30 rfl sh18 (mr_18_9 _) (by decide) (a_dec_at dc_La_copyFrom 73 rfl) ?_
  refine ev_iconst (v := 0) rfl (a_dec_at dc_La_copyFrom 74 rfl) ?_
  refine ev_aload_n (i := 0) rfl rfl (a_dec_at dc_La_copyFrom 75 rfl) ?_
  refine m_getR (y := 103) fl_La_30 rfl sh96 (mr_96_9 _) (by decide) (a_dec_at dc_La_copyFrom 76 rfl) ?_
  refine ev_iconst (v := 0) rfl (a_dec_at dc_La_copyFrom 77 rfl) ?_
  refine ev_iconst (v := 4) rfl (a_dec_at dc_La_copyFrom 78 rfl) ?_
  refine w_copy (ks := 0) (kd := 0) (kn := 4) cs_La_55 sh25 sh103 (by decide) (by decide) (by decide) (by decide) (Nat.le_of_ble_eq_true rfl) (a_dec_at dc_La_copyFrom 79 rfl) ?_
  refine ev_aload_n (i := 1) rfl rfl (a_dec_at dc_La_copyFrom 80 rfl) ?_
  refine m_getR (y := 26) fl_La_33 rfl sh18 (mr_18_10 _) (by decide) (a_dec_at dc_La_copyFrom 81 rfl) ?_
  refine ev_iconst (v := 0) rfl (a_dec_at dc_La_copyFrom 82 rfl) ?_
  refine ev_aload_n (i := 0) rfl rfl (a_dec_at dc_La_copyFrom 83 rfl) ?_
  refine m_getR (y := 104) fl_La_33 rfl sh96 (mr_96_10 _) (by decide) (a_dec_at dc_La_copyFrom 84 rfl) ?_
  refine ev_iconst (v := 0) rfl (a_dec_at dc_La_copyFrom 85 rfl) ?_
  refine ev_aload_n (i := 1) rfl rfl (a_dec_at dc_La_copyFrom 86 rfl) ?_
  refine m_getI fl_La_52 rfl sh18 (a_dec_at dc_La_copyFrom 87 rfl) ?_
  obtain ⟨c1, H⟩ := H
  refine w_copy (ks := 0) (kd := 0) (kn := ((cpF (cpF (cpF (cpF (cpF (cpF (cpF (up (up (up (up (up (up mi 96 0 (mi 18 0)) 96 1 ((up mi 96 0 (mi 18 0)) 18 1)) 96 2 ((up (up mi 96 0 (mi 18 0)) 96 1 ((up mi 96 0 (mi 18 0)) 18 1)) 18 2)) 96 11 ((up (up (up mi 96 0 (mi 18 0)) 96 1 ((up mi 96 0 (mi 18 0)) 18 1)) 96 2 ((up (up mi 96 0 (mi 18 0)) 96 1 ((up mi 96 0 (mi 18 0)) 18 1)) 18 2)) 18 11)) 96 12 ((up (up (up (up mi 96 0 (mi 18 0)) 96 1 ((up mi 96 0 (mi 18 0)) 18 1)) 96 2 ((up (up mi 96 0 (mi 18 0)) 96 1 ((up mi 96 0 (mi 18 0)) 18 1)) 18 2)) 96 11 ((up (up (up mi 96 0 (mi 18 0)) 96 1 ((up mi 96 0 (mi 18 0)) 18 1)) 96 2 ((up (up mi 96 0 (mi 18 0)) 96 1 ((up mi 96 0 (mi 18 0)) 18 1)) 18 2)) 18 11)) 18 12)) 96 13 ((up (up (up (up (up mi 96 0 (mi 18 0)) 96 1 ((up mi 96 0 (mi 18 0)) 18 1)) 96 2 ((up (up mi 96 0 (mi 18 0)) 96 1 ((up mi 96 0 (mi 18 0)) 18 1)) 18 2)) 96 11 ((up (up (up mi 96 0 (mi 18 0)) 96 1 ((up mi 96 0 (mi 18 0)) 18 1)) 96 2 ((up (up mi 96 0 (mi 18 0)) 96 1 ((up mi 96 0 (mi 18 0)) 18 1)) 18 2)) 18 11)) 96 12 ((up (up (up (up mi 96 0 (mi 18 0)) 96 1 ((up mi 96 0 (mi 18 0)) 18 1)) 96 2 ((up (up mi 96 0 (mi 18 0)) 96 1 ((up mi 96 0 (mi 18 0)) 18 1)) 18 2)) 96 11 ((up (up (up mi 96 0 (mi 18 0)) 96 1 ((up mi 96 0 (mi 18 0)) 18 1)) 96 2 ((up (up mi 96 0 (mi 18 0)) 96 1 ((up mi 96 0 (mi 18 0)) 18 1)) 18 2)) 18 11)) 18 12)) 18 13)) 19 97 0 0 6) 20 98 0 0 6) 21 99 0 0 6) 22 100 0 0 6) 23 101 0 0 4) 24 102 0 0 4) 25 103 0 0 4) 18 11).toNatClampNeg) cs_La_55 sh26 sh104 (by decide) (by decide) rfl c1 (Nat.le_of_ble_eq_true rfl) (a_dec_at dc_La_copyFrom 88 rfl) ?_
  exact m_retV (a_dec_at dc_La_copyFrom 89 rfl) rfl H
set_option maxRecDepth 20000 in
theorem t_La_copyFrom_18_80 {l : Launch} {h : Nat} (mi : TMi) (ml : TMl) (z : Nat) {Q : TMi → TMl → Nat → Prop} (H : (¬ (0 : Int32) < 0 ∧ ¬ (0 : Int32) < 0 ∧ ¬ ((cpF (cpF (cpF (cpF (cpF (cpF (cpF (up (up (up (up (up (up mi 18 0 (mi 80 0)) 18 1 ((up mi 18 0 (mi 80 0)) 80 1)) 18 2 ((up (up mi 18 0 (mi 80 0)) 18 1 ((up mi 18 0 (mi 80 0)) 80 1)) 80 2)) 18 11 ((up (up (up mi 18 0 (mi 80 0)) 18 1 ((up mi 18 0 (mi 80 0)) 80 1)) 18 2 ((up (up mi 18 0 (mi 80 0)) 18 1 ((up mi 18 0 (mi 80 0)) 80 1)) 80 2)) 80 11)) 18 12 ((up (up (up (up mi 18 0 (mi 80 0)) 18 1 ((up mi 18 0 (mi 80 0)) 80 1)) 18 2 ((up (up mi 18 0 (mi 80 0)) 18 1 ((up mi 18 0 (mi 80 0)) 80 1)) 80 2)) 18 11 ((up (up (up mi 18 0 (mi 80 0)) 18 1 ((up mi 18 0 (mi 80 0)) 80 1)) 18 2 ((up (up mi 18 0 (mi 80 0)) 18 1 ((up mi 18 0 (mi 80 0)) 80 1)) 80 2)) 80 11)) 80 12)) 18 13 ((up (up (up (up (up mi 18 0 (mi 80 0)) 18 1 ((up mi 18 0 (mi 80 0)) 80 1)) 18 2 ((up (up mi 18 0 (mi 80 0)) 18 1 ((up mi 18 0 (mi 80 0)) 80 1)) 80 2)) 18 11 ((up (up (up mi 18 0 (mi 80 0)) 18 1 ((up mi 18 0 (mi 80 0)) 80 1)) 18 2 ((up (up mi 18 0 (mi 80 0)) 18 1 ((up mi 18 0 (mi 80 0)) 80 1)) 80 2)) 80 11)) 18 12 ((up (up (up (up mi 18 0 (mi 80 0)) 18 1 ((up mi 18 0 (mi 80 0)) 80 1)) 18 2 ((up (up mi 18 0 (mi 80 0)) 18 1 ((up mi 18 0 (mi 80 0)) 80 1)) 80 2)) 18 11 ((up (up (up mi 18 0 (mi 80 0)) 18 1 ((up mi 18 0 (mi 80 0)) 80 1)) 18 2 ((up (up mi 18 0 (mi 80 0)) 18 1 ((up mi 18 0 (mi 80 0)) 80 1)) 80 2)) 80 11)) 80 12)) 80 13)) 81 19 0 0 6) 82 20 0 0 6) 83 21 0 0 6) 84 22 0 0 6) 85 23 0 0 4) 86 24 0 0 4) 87 25 0 0 4) 80 11) < 0 ∧ 0 + ((cpF (cpF (cpF (cpF (cpF (cpF (cpF (up (up (up (up (up (up mi 18 0 (mi 80 0)) 18 1 ((up mi 18 0 (mi 80 0)) 80 1)) 18 2 ((up (up mi 18 0 (mi 80 0)) 18 1 ((up mi 18 0 (mi 80 0)) 80 1)) 80 2)) 18 11 ((up (up (up mi 18 0 (mi 80 0)) 18 1 ((up mi 18 0 (mi 80 0)) 80 1)) 18 2 ((up (up mi 18 0 (mi 80 0)) 18 1 ((up mi 18 0 (mi 80 0)) 80 1)) 80 2)) 80 11)) 18 12 ((up (up (up (up mi 18 0 (mi 80 0)) 18 1 ((up mi 18 0 (mi 80 0)) 80 1)) 18 2 ((up (up mi 18 0 (mi 80 0)) 18 1 ((up mi 18 0 (mi 80 0)) 80 1)) 80 2)) 18 11 ((up (up (up mi 18 0 (mi 80 0)) 18 1 ((up mi 18 0 (mi 80 0)) 80 1)) 18 2 ((up (up mi 18 0 (mi 80 0)) 18 1 ((up mi 18 0 (mi 80 0)) 80 1)) 80 2)) 80 11)) 80 12)) 18 13 ((up (up (up (up (up mi 18 0 (mi 80 0)) 18 1 ((up mi 18 0 (mi 80 0)) 80 1)) 18 2 ((up (up mi 18 0 (mi 80 0)) 18 1 ((up mi 18 0 (mi 80 0)) 80 1)) 80 2)) 18 11 ((up (up (up mi 18 0 (mi 80 0)) 18 1 ((up mi 18 0 (mi 80 0)) 80 1)) 18 2 ((up (up mi 18 0 (mi 80 0)) 18 1 ((up mi 18 0 (mi 80 0)) 80 1)) 80 2)) 80 11)) 18 12 ((up (up (up (up mi 18 0 (mi 80 0)) 18 1 ((up mi 18 0 (mi 80 0)) 80 1)) 18 2 ((up (up mi 18 0 (mi 80 0)) 18 1 ((up mi 18 0 (mi 80 0)) 80 1)) 80 2)) 18 11 ((up (up (up mi 18 0 (mi 80 0)) 18 1 ((up mi 18 0 (mi 80 0)) 80 1)) 18 2 ((up (up mi 18 0 (mi 80 0)) 18 1 ((up mi 18 0 (mi 80 0)) 80 1)) 80 2)) 80 11)) 80 12)) 80 13)) 81 19 0 0 6) 82 20 0 0 6) 83 21 0 0 6) 84 22 0 0 6) 85 23 0 0 4) 86 24 0 0 4) 87 25 0 0 4) 80 11).toNatClampNeg ≤ 900 ∧ 0 + ((cpF (cpF (cpF (cpF (cpF (cpF (cpF (up (up (up (up (up (up mi 18 0 (mi 80 0)) 18 1 ((up mi 18 0 (mi 80 0)) 80 1)) 18 2 ((up (up mi 18 0 (mi 80 0)) 18 1 ((up mi 18 0 (mi 80 0)) 80 1)) 80 2)) 18 11 ((up (up (up mi 18 0 (mi 80 0)) 18 1 ((up mi 18 0 (mi 80 0)) 80 1)) 18 2 ((up (up mi 18 0 (mi 80 0)) 18 1 ((up mi 18 0 (mi 80 0)) 80 1)) 80 2)) 80 11)) 18 12 ((up (up (up (up mi 18 0 (mi 80 0)) 18 1 ((up mi 18 0 (mi 80 0)) 80 1)) 18 2 ((up (up mi 18 0 (mi 80 0)) 18 1 ((up mi 18 0 (mi 80 0)) 80 1)) 80 2)) 18 11 ((up (up (up mi 18 0 (mi 80 0)) 18 1 ((up mi 18 0 (mi 80 0)) 80 1)) 18 2 ((up (up mi 18 0 (mi 80 0)) 18 1 ((up mi 18 0 (mi 80 0)) 80 1)) 80 2)) 80 11)) 80 12)) 18 13 ((up (up (up (up (up mi 18 0 (mi 80 0)) 18 1 ((up mi 18 0 (mi 80 0)) 80 1)) 18 2 ((up (up mi 18 0 (mi 80 0)) 18 1 ((up mi 18 0 (mi 80 0)) 80 1)) 80 2)) 18 11 ((up (up (up mi 18 0 (mi 80 0)) 18 1 ((up mi 18 0 (mi 80 0)) 80 1)) 18 2 ((up (up mi 18 0 (mi 80 0)) 18 1 ((up mi 18 0 (mi 80 0)) 80 1)) 80 2)) 80 11)) 18 12 ((up (up (up (up mi 18 0 (mi 80 0)) 18 1 ((up mi 18 0 (mi 80 0)) 80 1)) 18 2 ((up (up mi 18 0 (mi 80 0)) 18 1 ((up mi 18 0 (mi 80 0)) 80 1)) 80 2)) 18 11 ((up (up (up mi 18 0 (mi 80 0)) 18 1 ((up mi 18 0 (mi 80 0)) 80 1)) 18 2 ((up (up mi 18 0 (mi 80 0)) 18 1 ((up mi 18 0 (mi 80 0)) 80 1)) 80 2)) 80 11)) 80 12)) 80 13)) 81 19 0 0 6) 82 20 0 0 6) 83 21 0 0 6) 84 22 0 0 6) 85 23 0 0 4) 86 24 0 0 4) 87 25 0 0 4) 80 11).toNatClampNeg ≤ 900) ∧ Q (cpF (cpF (cpF (cpF (cpF (cpF (cpF (cpF (up (up (up (up (up (up mi 18 0 (mi 80 0)) 18 1 ((up mi 18 0 (mi 80 0)) 80 1)) 18 2 ((up (up mi 18 0 (mi 80 0)) 18 1 ((up mi 18 0 (mi 80 0)) 80 1)) 80 2)) 18 11 ((up (up (up mi 18 0 (mi 80 0)) 18 1 ((up mi 18 0 (mi 80 0)) 80 1)) 18 2 ((up (up mi 18 0 (mi 80 0)) 18 1 ((up mi 18 0 (mi 80 0)) 80 1)) 80 2)) 80 11)) 18 12 ((up (up (up (up mi 18 0 (mi 80 0)) 18 1 ((up mi 18 0 (mi 80 0)) 80 1)) 18 2 ((up (up mi 18 0 (mi 80 0)) 18 1 ((up mi 18 0 (mi 80 0)) 80 1)) 80 2)) 18 11 ((up (up (up mi 18 0 (mi 80 0)) 18 1 ((up mi 18 0 (mi 80 0)) 80 1)) 18 2 ((up (up mi 18 0 (mi 80 0)) 18 1 ((up mi 18 0 (mi 80 0)) 80 1)) 80 2)) 80 11)) 80 12)) 18 13 ((up (up (up (up (up mi 18 0 (mi 80 0)) 18 1 ((up mi 18 0 (mi 80 0)) 80 1)) 18 2 ((up (up mi 18 0 (mi 80 0)) 18 1 ((up mi 18 0 (mi 80 0)) 80 1)) 80 2)) 18 11 ((up (up (up mi 18 0 (mi 80 0)) 18 1 ((up mi 18 0 (mi 80 0)) 80 1)) 18 2 ((up (up mi 18 0 (mi 80 0)) 18 1 ((up mi 18 0 (mi 80 0)) 80 1)) 80 2)) 80 11)) 18 12 ((up (up (up (up mi 18 0 (mi 80 0)) 18 1 ((up mi 18 0 (mi 80 0)) 80 1)) 18 2 ((up (up mi 18 0 (mi 80 0)) 18 1 ((up mi 18 0 (mi 80 0)) 80 1)) 80 2)) 18 11 ((up (up (up mi 18 0 (mi 80 0)) 18 1 ((up mi 18 0 (mi 80 0)) 80 1)) 18 2 ((up (up mi 18 0 (mi 80 0)) 18 1 ((up mi 18 0 (mi 80 0)) 80 1)) 80 2)) 80 11)) 80 12)) 80 13)) 81 19 0 0 6) 82 20 0 0 6) 83 21 0 0 6) 84 22 0 0 6) 85 23 0 0 4) 86 24 0 0 4) 87 25 0 0 4) 88 26 0 0 (((cpF (cpF (cpF (cpF (cpF (cpF (cpF (up (up (up (up (up (up mi 18 0 (mi 80 0)) 18 1 ((up mi 18 0 (mi 80 0)) 80 1)) 18 2 ((up (up mi 18 0 (mi 80 0)) 18 1 ((up mi 18 0 (mi 80 0)) 80 1)) 80 2)) 18 11 ((up (up (up mi 18 0 (mi 80 0)) 18 1 ((up mi 18 0 (mi 80 0)) 80 1)) 18 2 ((up (up mi 18 0 (mi 80 0)) 18 1 ((up mi 18 0 (mi 80 0)) 80 1)) 80 2)) 80 11)) 18 12 ((up (up (up (up mi 18 0 (mi 80 0)) 18 1 ((up mi 18 0 (mi 80 0)) 80 1)) 18 2 ((up (up mi 18 0 (mi 80 0)) 18 1 ((up mi 18 0 (mi 80 0)) 80 1)) 80 2)) 18 11 ((up (up (up mi 18 0 (mi 80 0)) 18 1 ((up mi 18 0 (mi 80 0)) 80 1)) 18 2 ((up (up mi 18 0 (mi 80 0)) 18 1 ((up mi 18 0 (mi 80 0)) 80 1)) 80 2)) 80 11)) 80 12)) 18 13 ((up (up (up (up (up mi 18 0 (mi 80 0)) 18 1 ((up mi 18 0 (mi 80 0)) 80 1)) 18 2 ((up (up mi 18 0 (mi 80 0)) 18 1 ((up mi 18 0 (mi 80 0)) 80 1)) 80 2)) 18 11 ((up (up (up mi 18 0 (mi 80 0)) 18 1 ((up mi 18 0 (mi 80 0)) 80 1)) 18 2 ((up (up mi 18 0 (mi 80 0)) 18 1 ((up mi 18 0 (mi 80 0)) 80 1)) 80 2)) 80 11)) 18 12 ((up (up (up (up mi 18 0 (mi 80 0)) 18 1 ((up mi 18 0 (mi 80 0)) 80 1)) 18 2 ((up (up mi 18 0 (mi 80 0)) 18 1 ((up mi 18 0 (mi 80 0)) 80 1)) 80 2)) 18 11 ((up (up (up mi 18 0 (mi 80 0)) 18 1 ((up mi 18 0 (mi 80 0)) 80 1)) 18 2 ((up (up mi 18 0 (mi 80 0)) 18 1 ((up mi 18 0 (mi 80 0)) 80 1)) 80 2)) 80 11)) 80 12)) 80 13)) 81 19 0 0 6) 82 20 0 0 6) 83 21 0 0 6) 84 22 0 0 6) 85 23 0 0 4) 86 24 0 0 4) 87 25 0 0 4) 80 11).toNatClampNeg)) ml z) : CV l (h + 1) m_La_copyFrom [.ref 18, .ref 80] mi ml z Q := by
  show Ev l (h + 1) m_La_copyFrom 0 ([.ref 18, .ref 80], [], st mi ml z) (qV Q)
  refine ev_aload_n (i := 0) rfl rfl (a_dec_at dc_La_copyFrom 0 rfl) ?_
  refine ev_aload_n (i := 1) rfl rfl (a_dec_at dc_La_copyFrom 1 rfl) ?_
  refine m_getI fl_La_43 rfl sh80 (a_dec_at dc_La_copyFrom 2 rfl) ?_
  refine m_putI fl_La_43 rfl (fun _ _ _ h => by cases h; exact Or.inl rfl) sh18 (a_dec_at dc_La_copyFrom 3 rfl) ?_
  refine ev_aload_n (i := 0) rfl rfl (a_dec_at dc_La_copyFrom 4 rfl) ?_
  refine ev_aload_n (i := 1) rfl rfl (a_dec_at dc_La_copyFrom 5 rfl) ?_
  refine m_getI fl_La_46 rfl sh80 (a_dec_at dc_La_copyFrom 6 rfl) ?_
  refine m_putI fl_La_46 rfl (fun _ _ _ h => by cases h; exact Or.inl rfl) sh18 (a_dec_at dc_La_copyFrom 7 rfl) ?_
  refine ev_aload_n (i := 0) rfl rfl (a_dec_at dc_La_copyFrom 8 rfl) ?_
  refine ev_aload_n (i := 1) rfl rfl (a_dec_at dc_La_copyFrom 9 rfl) ?_
  refine m_getI fl_La_49 rfl sh80 (a_dec_at dc_La_copyFrom 10 rfl) ?_
  refine m_putI fl_La_49 rfl (fun _ _ _ h => by cases h; exact Or.inl rfl) sh18 (a_dec_at dc_La_copyFrom 11 rfl) ?_
  refine ev_aload_n (i := 0) rfl rfl (a_dec_at dc_La_copyFrom 12 rfl) ?_
  refine ev_aload_n (i := 1) rfl rfl (a_dec_at dc_La_copyFrom 13 rfl) ?_
  refine m_getI fl_La_52 rfl sh80 (a_dec_at dc_La_copyFrom 14 rfl) ?_
  refine m_putI fl_La_52 rfl (fun _ _ _ h => by cases h; exact Or.inl rfl) sh18 (a_dec_at dc_La_copyFrom 15 rfl) ?_
  refine ev_aload_n (i := 0) rfl rfl (a_dec_at dc_La_copyFrom 16 rfl) ?_
  refine ev_aload_n (i := 1) rfl rfl (a_dec_at dc_La_copyFrom 17 rfl) ?_
  refine m_getI fl_La_36 rfl sh80 (a_dec_at dc_La_copyFrom 18 rfl) ?_
  refine m_putI fl_La_36 rfl (fun _ _ _ h => by cases h; exact Or.inl rfl) sh18 (a_dec_at dc_La_copyFrom 19 rfl) ?_
  refine ev_aload_n (i := 0) rfl rfl (a_dec_at dc_La_copyFrom 20 rfl) ?_
  refine ev_aload_n (i := 1) rfl rfl (a_dec_at dc_La_copyFrom 21 rfl) ?_
  refine m_getI fl_La_40 rfl sh80 (a_dec_at dc_La_copyFrom 22 rfl) ?_
  refine m_putI fl_La_40 rfl (fun _ _ _ h => by cases h; exact Or.inl rfl) sh18 (a_dec_at dc_La_copyFrom 23 rfl) ?_
  refine ev_aload_n (i := 1) rfl rfl (a_dec_at dc_La_copyFrom 24 rfl) ?_
  refine m_getR (y := 81) fl_La_9 rfl sh80 (mr_80_3 _) (by decide) (a_dec_at dc_La_copyFrom 25 rfl) ?_
  refine ev_iconst (v := 0) rfl (a_dec_at dc_La_copyFrom 26 rfl) ?_
  refine ev_aload_n (i := 0) rfl rfl (a_dec_at dc_La_copyFrom 27 rfl) ?_
  refine m_getR (y := 19) fl_La_9 rfl sh18 (mr_18_3 _) (by decide) (a_dec_at dc_La_copyFrom 28 rfl) ?_
  refine ev_iconst (v := 0) rfl (a_dec_at dc_La_copyFrom 29 rfl) ?_
  refine ev_bipush (v := 6) rfl (a_dec_at dc_La_copyFrom 30 rfl) ?_
  refine w_copy (ks := 0) (kd := 0) (kn := 6) cs_La_55 sh81 sh19 (by decide) (by decide) (by decide) (by decide) (Nat.le_of_ble_eq_true rfl) (a_dec_at dc_La_copyFrom 31 rfl) ?_
  refine ev_aload_n (i := 1) rfl rfl (a_dec_at dc_La_copyFrom 32 rfl) ?_
  refine m_getR (y := 82) fl_La_15 rfl sh80 (mr_80_4 _) (by decide) (a_dec_at dc_La_copyFrom 33 rfl) ?_
  refine ev_iconst (v := 0) rfl (a_dec_at dc_La_copyFrom 34 rfl) ?_
  refine ev_aload_n (i := 0) rfl rfl (a_dec_at dc_La_copyFrom 35 rfl) ?_
  refine m_getR (y := 20) fl_La_15 rfl sh18 (mr_18_4 _) (by decide) (a_dec_at dc_La_copyFrom 36 rfl) ?_
  refine ev_iconst (v := 0) rfl (a_dec_at dc_La_copyFrom 37 rfl) ?_
  refine ev_bipush (v := 6) rfl (a_dec_at dc_La_copyFrom 38 rfl) ?_
  refine w_copy (ks := 0) (kd := 0) (kn := 6) cs_La_55 sh82 sh20 (by decide) (by decide) (by decide) (by decide) (Nat.le_of_ble_eq_true rfl) (a_dec_at dc_La_copyFrom 39 rfl) ?_
  refine ev_aload_n (i := 1) rfl rfl (a_dec_at dc_La_copyFrom 40 rfl) ?_
  refine m_getR (y := 83) fl_La_18 rfl sh80 (mr_80_5 _) (by decide) (a_dec_at dc_La_copyFrom 41 rfl) ?_
  refine ev_iconst (v := 0) rfl (a_dec_at dc_La_copyFrom 42 rfl) ?_
  refine ev_aload_n (i := 0) rfl rfl (a_dec_at dc_La_copyFrom 43 rfl) ?_
  refine m_getR (y := 21) fl_La_18 rfl sh18 (mr_18_5 _) (by decide) (a_dec_at dc_La_copyFrom 44 rfl) ?_
  refine ev_iconst (v := 0) rfl (a_dec_at dc_La_copyFrom 45 rfl) ?_
  refine ev_bipush (v := 6) rfl (a_dec_at dc_La_copyFrom 46 rfl) ?_
  refine w_copy (ks := 0) (kd := 0) (kn := 6) cs_La_55 sh83 sh21 (by decide) (by decide) (by decide) (by decide) (Nat.le_of_ble_eq_true rfl) (a_dec_at dc_La_copyFrom 47 rfl) ?_
  refine ev_aload_n (i := 1) rfl rfl (a_dec_at dc_La_copyFrom 48 rfl) ?_
  refine m_getR (y := 84) fl_La_21 rfl sh80 (mr_80_6 _) (by decide) (a_dec_at dc_La_copyFrom 49 rfl) ?_
  refine ev_iconst (v := 0) rfl (a_dec_at dc_La_copyFrom 50 rfl) ?_
  refine ev_aload_n (i := 0) rfl rfl (a_dec_at dc_La_copyFrom 51 rfl) ?_
  refine m_getR (y := 22) fl_La_21 rfl sh18 (mr_18_6 _) (by decide) (a_dec_at dc_La_copyFrom 52 rfl) ?_
  refine ev_iconst (v := 0) rfl (a_dec_at dc_La_copyFrom 53 rfl) ?_
  refine ev_bipush (v := 6) rfl (a_dec_at dc_La_copyFrom 54 rfl) ?_
  refine w_copy (ks := 0) (kd := 0) (kn := 6) cs_La_55 sh84 sh22 (by decide) (by decide) (by decide) (by decide) (Nat.le_of_ble_eq_true rfl) (a_dec_at dc_La_copyFrom 55 rfl) ?_
  refine ev_aload_n (i := 1) rfl rfl (a_dec_at dc_La_copyFrom 56 rfl) ?_
  refine m_getR (y := 85) fl_La_24 rfl sh80 (mr_80_7 _) (by decide) (a_dec_at dc_La_copyFrom 57 rfl) ?_
  refine ev_iconst (v := 0) rfl (a_dec_at dc_La_copyFrom 58 rfl) ?_
  refine ev_aload_n (i := 0) rfl rfl (a_dec_at dc_La_copyFrom 59 rfl) ?_
  refine m_getR (y := 23) fl_La_24 rfl sh18 (mr_18_7 _) (by decide) (a_dec_at dc_La_copyFrom 60 rfl) ?_
  refine ev_iconst (v := 0) rfl (a_dec_at dc_La_copyFrom 61 rfl) ?_
  refine ev_iconst (v := 4) rfl (a_dec_at dc_La_copyFrom 62 rfl) ?_
  refine w_copy (ks := 0) (kd := 0) (kn := 4) cs_La_55 sh85 sh23 (by decide) (by decide) (by decide) (by decide) (Nat.le_of_ble_eq_true rfl) (a_dec_at dc_La_copyFrom 63 rfl) ?_
  refine ev_aload_n (i := 1) rfl rfl (a_dec_at dc_La_copyFrom 64 rfl) ?_
  refine m_getR (y := 86) fl_La_27 rfl sh80 (mr_80_8 _) (by decide) (a_dec_at dc_La_copyFrom 65 rfl) ?_
  refine ev_iconst (v := 0) rfl (a_dec_at dc_La_copyFrom 66 rfl) ?_
  refine ev_aload_n (i := 0) rfl rfl (a_dec_at dc_La_copyFrom 67 rfl) ?_
  refine m_getR (y := 24) fl_La_27 rfl sh18 (mr_18_8 _) (by decide) (a_dec_at dc_La_copyFrom 68 rfl) ?_
  refine ev_iconst (v := 0) rfl (a_dec_at dc_La_copyFrom 69 rfl) ?_
  refine ev_iconst (v := 4) rfl (a_dec_at dc_La_copyFrom 70 rfl) ?_
  refine w_copy (ks := 0) (kd := 0) (kn := 4) cs_La_55 sh86 sh24 (by decide) (by decide) (by decide) (by decide) (Nat.le_of_ble_eq_true rfl) (a_dec_at dc_La_copyFrom 71 rfl) ?_
  refine ev_aload_n (i := 1) rfl rfl (a_dec_at dc_La_copyFrom 72 rfl) ?_
  refine m_getR (y := 87) fl_La_30 rfl sh80 (mr_80_9 _) (by decide) (a_dec_at dc_La_copyFrom 73 rfl) ?_
  refine ev_iconst (v := 0) rfl (a_dec_at dc_La_copyFrom 74 rfl) ?_
  refine ev_aload_n (i := 0) rfl rfl (a_dec_at dc_La_copyFrom 75 rfl) ?_
  refine m_getR (y := 25) fl_La_30 rfl sh18 (mr_18_9 _) (by decide) (a_dec_at dc_La_copyFrom 76 rfl) ?_
  refine ev_iconst (v := 0) rfl (a_dec_at dc_La_copyFrom 77 rfl) ?_
  refine ev_iconst (v := 4) rfl (a_dec_at dc_La_copyFrom 78 rfl) ?_
  refine w_copy (ks := 0) (kd := 0) (kn := 4) cs_La_55 sh87 sh25 (by decide) (by decide) (by decide) (by decide) (Nat.le_of_ble_eq_true rfl) (a_dec_at dc_La_copyFrom 79 rfl) ?_
  refine ev_aload_n (i := 1) rfl rfl (a_dec_at dc_La_copyFrom 80 rfl) ?_
  refine m_getR (y := 88) fl_La_33 rfl sh80 (mr_80_10 _) (by decide) (a_dec_at dc_La_copyFrom 81 rfl) ?_
  refine ev_iconst (v := 0) rfl (a_dec_at dc_La_copyFrom 82 rfl) ?_
  refine ev_aload_n (i := 0) rfl rfl (a_dec_at dc_La_copyFrom 83 rfl) ?_
  refine m_getR (y := 26) fl_La_33 rfl sh18 (mr_18_10 _) (by decide) (a_dec_at dc_La_copyFrom 84 rfl) ?_
  refine ev_iconst (v := 0) rfl (a_dec_at dc_La_copyFrom 85 rfl) ?_
  refine ev_aload_n (i := 1) rfl rfl (a_dec_at dc_La_copyFrom 86 rfl) ?_
  refine m_getI fl_La_52 rfl sh80 (a_dec_at dc_La_copyFrom 87 rfl) ?_
  obtain ⟨c1, H⟩ := H
  refine w_copy (ks := 0) (kd := 0) (kn := ((cpF (cpF (cpF (cpF (cpF (cpF (cpF (up (up (up (up (up (up mi 18 0 (mi 80 0)) 18 1 ((up mi 18 0 (mi 80 0)) 80 1)) 18 2 ((up (up mi 18 0 (mi 80 0)) 18 1 ((up mi 18 0 (mi 80 0)) 80 1)) 80 2)) 18 11 ((up (up (up mi 18 0 (mi 80 0)) 18 1 ((up mi 18 0 (mi 80 0)) 80 1)) 18 2 ((up (up mi 18 0 (mi 80 0)) 18 1 ((up mi 18 0 (mi 80 0)) 80 1)) 80 2)) 80 11)) 18 12 ((up (up (up (up mi 18 0 (mi 80 0)) 18 1 ((up mi 18 0 (mi 80 0)) 80 1)) 18 2 ((up (up mi 18 0 (mi 80 0)) 18 1 ((up mi 18 0 (mi 80 0)) 80 1)) 80 2)) 18 11 ((up (up (up mi 18 0 (mi 80 0)) 18 1 ((up mi 18 0 (mi 80 0)) 80 1)) 18 2 ((up (up mi 18 0 (mi 80 0)) 18 1 ((up mi 18 0 (mi 80 0)) 80 1)) 80 2)) 80 11)) 80 12)) 18 13 ((up (up (up (up (up mi 18 0 (mi 80 0)) 18 1 ((up mi 18 0 (mi 80 0)) 80 1)) 18 2 ((up (up mi 18 0 (mi 80 0)) 18 1 ((up mi 18 0 (mi 80 0)) 80 1)) 80 2)) 18 11 ((up (up (up mi 18 0 (mi 80 0)) 18 1 ((up mi 18 0 (mi 80 0)) 80 1)) 18 2 ((up (up mi 18 0 (mi 80 0)) 18 1 ((up mi 18 0 (mi 80 0)) 80 1)) 80 2)) 80 11)) 18 12 ((up (up (up (up mi 18 0 (mi 80 0)) 18 1 ((up mi 18 0 (mi 80 0)) 80 1)) 18 2 ((up (up mi 18 0 (mi 80 0)) 18 1 ((up mi 18 0 (mi 80 0)) 80 1)) 80 2)) 18 11 ((up (up (up mi 18 0 (mi 80 0)) 18 1 ((up mi 18 0 (mi 80 0)) 80 1)) 18 2 ((up (up mi 18 0 (mi 80 0)) 18 1 ((up mi 18 0 (mi 80 0)) 80 1)) 80 2)) 80 11)) 80 12)) 80 13)) 81 19 0 0 6) 82 20 0 0 6) 83 21 0 0 6) 84 22 0 0 6) 85 23 0 0 4) 86 24 0 0 4) 87 25 0 0 4) 80 11).toNatClampNeg) cs_La_55 sh88 sh26 (by decide) (by decide) rfl c1 (Nat.le_of_ble_eq_true rfl) (a_dec_at dc_La_copyFrom 88 rfl) ?_
  exact m_retV (a_dec_at dc_La_copyFrom 89 rfl) rfl H
set_option maxRecDepth 20000 in
theorem t_La_copyFrom_18_96 {l : Launch} {h : Nat} (mi : TMi) (ml : TMl) (z : Nat) {Q : TMi → TMl → Nat → Prop} (H : (¬ (0 : Int32) < 0 ∧ ¬ (0 : Int32) < 0 ∧ ¬ ((cpF (cpF (cpF (cpF (cpF (cpF (cpF (up (up (up (up (up (up mi 18 0 (mi 96 0)) 18 1 ((up mi 18 0 (mi 96 0)) 96 1)) 18 2 ((up (up mi 18 0 (mi 96 0)) 18 1 ((up mi 18 0 (mi 96 0)) 96 1)) 96 2)) 18 11 ((up (up (up mi 18 0 (mi 96 0)) 18 1 ((up mi 18 0 (mi 96 0)) 96 1)) 18 2 ((up (up mi 18 0 (mi 96 0)) 18 1 ((up mi 18 0 (mi 96 0)) 96 1)) 96 2)) 96 11)) 18 12 ((up (up (up (up mi 18 0 (mi 96 0)) 18 1 ((up mi 18 0 (mi 96 0)) 96 1)) 18 2 ((up (up mi 18 0 (mi 96 0)) 18 1 ((up mi 18 0 (mi 96 0)) 96 1)) 96 2)) 18 11 ((up (up (up mi 18 0 (mi 96 0)) 18 1 ((up mi 18 0 (mi 96 0)) 96 1)) 18 2 ((up (up mi 18 0 (mi 96 0)) 18 1 ((up mi 18 0 (mi 96 0)) 96 1)) 96 2)) 96 11)) 96 12)) 18 13 ((up (up (up (up (up mi 18 0 (mi 96 0)) 18 1 ((up mi 18 0 (mi 96 0)) 96 1)) 18 2 ((up (up mi 18 0 (mi 96 0)) 18 1 ((up mi 18 0 (mi 96 0)) 96 1)) 96 2)) 18 11 ((up (up (up mi 18 0 (mi 96 0)) 18 1 ((up mi 18 0 (mi 96 0)) 96 1)) 18 2 ((up (up mi 18 0 (mi 96 0)) 18 1 ((up mi 18 0 (mi 96 0)) 96 1)) 96 2)) 96 11)) 18 12 ((up (up (up (up mi 18 0 (mi 96 0)) 18 1 ((up mi 18 0 (mi 96 0)) 96 1)) 18 2 ((up (up mi 18 0 (mi 96 0)) 18 1 ((up mi 18 0 (mi 96 0)) 96 1)) 96 2)) 18 11 ((up (up (up mi 18 0 (mi 96 0)) 18 1 ((up mi 18 0 (mi 96 0)) 96 1)) 18 2 ((up (up mi 18 0 (mi 96 0)) 18 1 ((up mi 18 0 (mi 96 0)) 96 1)) 96 2)) 96 11)) 96 12)) 96 13)) 97 19 0 0 6) 98 20 0 0 6) 99 21 0 0 6) 100 22 0 0 6) 101 23 0 0 4) 102 24 0 0 4) 103 25 0 0 4) 96 11) < 0 ∧ 0 + ((cpF (cpF (cpF (cpF (cpF (cpF (cpF (up (up (up (up (up (up mi 18 0 (mi 96 0)) 18 1 ((up mi 18 0 (mi 96 0)) 96 1)) 18 2 ((up (up mi 18 0 (mi 96 0)) 18 1 ((up mi 18 0 (mi 96 0)) 96 1)) 96 2)) 18 11 ((up (up (up mi 18 0 (mi 96 0)) 18 1 ((up mi 18 0 (mi 96 0)) 96 1)) 18 2 ((up (up mi 18 0 (mi 96 0)) 18 1 ((up mi 18 0 (mi 96 0)) 96 1)) 96 2)) 96 11)) 18 12 ((up (up (up (up mi 18 0 (mi 96 0)) 18 1 ((up mi 18 0 (mi 96 0)) 96 1)) 18 2 ((up (up mi 18 0 (mi 96 0)) 18 1 ((up mi 18 0 (mi 96 0)) 96 1)) 96 2)) 18 11 ((up (up (up mi 18 0 (mi 96 0)) 18 1 ((up mi 18 0 (mi 96 0)) 96 1)) 18 2 ((up (up mi 18 0 (mi 96 0)) 18 1 ((up mi 18 0 (mi 96 0)) 96 1)) 96 2)) 96 11)) 96 12)) 18 13 ((up (up (up (up (up mi 18 0 (mi 96 0)) 18 1 ((up mi 18 0 (mi 96 0)) 96 1)) 18 2 ((up (up mi 18 0 (mi 96 0)) 18 1 ((up mi 18 0 (mi 96 0)) 96 1)) 96 2)) 18 11 ((up (up (up mi 18 0 (mi 96 0)) 18 1 ((up mi 18 0 (mi 96 0)) 96 1)) 18 2 ((up (up mi 18 0 (mi 96 0)) 18 1 ((up mi 18 0 (mi 96 0)) 96 1)) 96 2)) 96 11)) 18 12 ((up (up (up (up mi 18 0 (mi 96 0)) 18 1 ((up mi 18 0 (mi 96 0)) 96 1)) 18 2 ((up (up mi 18 0 (mi 96 0)) 18 1 ((up mi 18 0 (mi 96 0)) 96 1)) 96 2)) 18 11 ((up (up (up mi 18 0 (mi 96 0)) 18 1 ((up mi 18 0 (mi 96 0)) 96 1)) 18 2 ((up (up mi 18 0 (mi 96 0)) 18 1 ((up mi 18 0 (mi 96 0)) 96 1)) 96 2)) 96 11)) 96 12)) 96 13)) 97 19 0 0 6) 98 20 0 0 6) 99 21 0 0 6) 100 22 0 0 6) 101 23 0 0 4) 102 24 0 0 4) 103 25 0 0 4) 96 11).toNatClampNeg ≤ 900 ∧ 0 + ((cpF (cpF (cpF (cpF (cpF (cpF (cpF (up (up (up (up (up (up mi 18 0 (mi 96 0)) 18 1 ((up mi 18 0 (mi 96 0)) 96 1)) 18 2 ((up (up mi 18 0 (mi 96 0)) 18 1 ((up mi 18 0 (mi 96 0)) 96 1)) 96 2)) 18 11 ((up (up (up mi 18 0 (mi 96 0)) 18 1 ((up mi 18 0 (mi 96 0)) 96 1)) 18 2 ((up (up mi 18 0 (mi 96 0)) 18 1 ((up mi 18 0 (mi 96 0)) 96 1)) 96 2)) 96 11)) 18 12 ((up (up (up (up mi 18 0 (mi 96 0)) 18 1 ((up mi 18 0 (mi 96 0)) 96 1)) 18 2 ((up (up mi 18 0 (mi 96 0)) 18 1 ((up mi 18 0 (mi 96 0)) 96 1)) 96 2)) 18 11 ((up (up (up mi 18 0 (mi 96 0)) 18 1 ((up mi 18 0 (mi 96 0)) 96 1)) 18 2 ((up (up mi 18 0 (mi 96 0)) 18 1 ((up mi 18 0 (mi 96 0)) 96 1)) 96 2)) 96 11)) 96 12)) 18 13 ((up (up (up (up (up mi 18 0 (mi 96 0)) 18 1 ((up mi 18 0 (mi 96 0)) 96 1)) 18 2 ((up (up mi 18 0 (mi 96 0)) 18 1 ((up mi 18 0 (mi 96 0)) 96 1)) 96 2)) 18 11 ((up (up (up mi 18 0 (mi 96 0)) 18 1 ((up mi 18 0 (mi 96 0)) 96 1)) 18 2 ((up (up mi 18 0 (mi 96 0)) 18 1 ((up mi 18 0 (mi 96 0)) 96 1)) 96 2)) 96 11)) 18 12 ((up (up (up (up mi 18 0 (mi 96 0)) 18 1 ((up mi 18 0 (mi 96 0)) 96 1)) 18 2 ((up (up mi 18 0 (mi 96 0)) 18 1 ((up mi 18 0 (mi 96 0)) 96 1)) 96 2)) 18 11 ((up (up (up mi 18 0 (mi 96 0)) 18 1 ((up mi 18 0 (mi 96 0)) 96 1)) 18 2 ((up (up mi 18 0 (mi 96 0)) 18 1 ((up mi 18 0 (mi 96 0)) 96 1)) 96 2)) 96 11)) 96 12)) 96 13)) 97 19 0 0 6) 98 20 0 0 6) 99 21 0 0 6) 100 22 0 0 6) 101 23 0 0 4) 102 24 0 0 4) 103 25 0 0 4) 96 11).toNatClampNeg ≤ 900) ∧ Q (cpF (cpF (cpF (cpF (cpF (cpF (cpF (cpF (up (up (up (up (up (up mi 18 0 (mi 96 0)) 18 1 ((up mi 18 0 (mi 96 0)) 96 1)) 18 2 ((up (up mi 18 0 (mi 96 0)) 18 1 ((up mi 18 0 (mi 96 0)) 96 1)) 96 2)) 18 11 ((up (up (up mi 18 0 (mi 96 0)) 18 1 ((up mi 18 0 (mi 96 0)) 96 1)) 18 2 ((up (up mi 18 0 (mi 96 0)) 18 1 ((up mi 18 0 (mi 96 0)) 96 1)) 96 2)) 96 11)) 18 12 ((up (up (up (up mi 18 0 (mi 96 0)) 18 1 ((up mi 18 0 (mi 96 0)) 96 1)) 18 2 ((up (up mi 18 0 (mi 96 0)) 18 1 ((up mi 18 0 (mi 96 0)) 96 1)) 96 2)) 18 11 ((up (up (up mi 18 0 (mi 96 0)) 18 1 ((up mi 18 0 (mi 96 0)) 96 1)) 18 2 ((up (up mi 18 0 (mi 96 0)) 18 1 ((up mi 18 0 (mi 96 0)) 96 1)) 96 2)) 96 11)) 96 12)) 18 13 ((up (up (up (up (up mi 18 0 (mi 96 0)) 18 1 ((up mi 18 0 (mi 96 0)) 96 1)) 18 2 ((up (up mi 18 0 (mi 96 0)) 18 1 ((up mi 18 0 (mi 96 0)) 96 1)) 96 2)) 18 11 ((up (up (up mi 18 0 (mi 96 0)) 18 1 ((up mi 18 0 (mi 96 0)) 96 1)) 18 2 ((up (up mi 18 0 (mi 96 0)) 18 1 ((up mi 18 0 (mi 96 0)) 96 1)) 96 2)) 96 11)) 18 12 ((up (up (up (up mi 18 0 (mi 96 0)) 18 1 ((up mi 18 0 (mi 96 0)) 96 1)) 18 2 ((up (up mi 18 0 (mi 96 0)) 18 1 ((up mi 18 0 (mi 96 0)) 96 1)) 96 2)) 18 11 ((up (up (up mi 18 0 (mi 96 0)) 18 1 ((up mi 18 0 (mi 96 0)) 96 1)) 18 2 ((up (up mi 18 0 (mi 96 0)) 18 1 ((up mi 18 0 (mi 96 0)) 96 1)) 96 2)) 96 11)) 96 12)) 96 13)) 97 19 0 0 6) 98 20 0 0 6) 99 21 0 0 6) 100 22 0 0 6) 101 23 0 0 4) 102 24 0 0 4) 103 25 0 0 4) 104 26 0 0 (((cpF (cpF (cpF (cpF (cpF (cpF (cpF (up (up (up (up (up (up mi 18 0 (mi 96 0)) 18 1 ((up mi 18 0 (mi 96 0)) 96 1)) 18 2 ((up (up mi 18 0 (mi 96 0)) 18 1 ((up mi 18 0 (mi 96 0)) 96 1)) 96 2)) 18 11 ((up (up (up mi 18 0 (mi 96 0)) 18 1 ((up mi 18 0 (mi 96 0)) 96 1)) 18 2 ((up (up mi 18 0 (mi 96 0)) 18 1 ((up mi 18 0 (mi 96 0)) 96 1)) 96 2)) 96 11)) 18 12 ((up (up (up (up mi 18 0 (mi 96 0)) 18 1 ((up mi 18 0 (mi 96 0)) 96 1)) 18 2 ((up (up mi 18 0 (mi 96 0)) 18 1 ((up mi 18 0 (mi 96 0)) 96 1)) 96 2)) 18 11 ((up (up (up mi 18 0 (mi 96 0)) 18 1 ((up mi 18 0 (mi 96 0)) 96 1)) 18 2 ((up (up mi 18 0 (mi 96 0)) 18 1 ((up mi 18 0 (mi 96 0)) 96 1)) 96 2)) 96 11)) 96 12)) 18 13 ((up (up (up (up (up mi 18 0 (mi 96 0)) 18 1 ((up mi 18 0 (mi 96 0)) 96 1)) 18 2 ((up (up mi 18 0 (mi 96 0)) 18 1 ((up mi 18 0 (mi 96 0)) 96 1)) 96 2)) 18 11 ((up (up (up mi 18 0 (mi 96 0)) 18 1 ((up mi 18 0 (mi 96 0)) 96 1)) 18 2 ((up (up mi 18 0 (mi 96 0)) 18 1 ((up mi 18 0 (mi 96 0)) 96 1)) 96 2)) 96 11)) 18 12 ((up (up (up (up mi 18 0 (mi 96 0)) 18 1 ((up mi 18 0 (mi 96 0)) 96 1)) 18 2 ((up (up mi 18 0 (mi 96 0)) 18 1 ((up mi 18 0 (mi 96 0)) 96 1)) 96 2)) 18 11 ((up (up (up mi 18 0 (mi 96 0)) 18 1 ((up mi 18 0 (mi 96 0)) 96 1)) 18 2 ((up (up mi 18 0 (mi 96 0)) 18 1 ((up mi 18 0 (mi 96 0)) 96 1)) 96 2)) 96 11)) 96 12)) 96 13)) 97 19 0 0 6) 98 20 0 0 6) 99 21 0 0 6) 100 22 0 0 6) 101 23 0 0 4) 102 24 0 0 4) 103 25 0 0 4) 96 11).toNatClampNeg)) ml z) : CV l (h + 1) m_La_copyFrom [.ref 18, .ref 96] mi ml z Q := by
  show Ev l (h + 1) m_La_copyFrom 0 ([.ref 18, .ref 96], [], st mi ml z) (qV Q)
  refine ev_aload_n (i := 0) rfl rfl (a_dec_at dc_La_copyFrom 0 rfl) ?_
  refine ev_aload_n (i := 1) rfl rfl (a_dec_at dc_La_copyFrom 1 rfl) ?_
  refine m_getI fl_La_43 rfl sh96 (a_dec_at dc_La_copyFrom 2 rfl) ?_
  refine m_putI fl_La_43 rfl (fun _ _ _ h => by cases h; exact Or.inl rfl) sh18 (a_dec_at dc_La_copyFrom 3 rfl) ?_
  refine ev_aload_n (i := 0) rfl rfl (a_dec_at dc_La_copyFrom 4 rfl) ?_
  refine ev_aload_n (i := 1) rfl rfl (a_dec_at dc_La_copyFrom 5 rfl) ?_
  refine m_getI fl_La_46 rfl sh96 (a_dec_at dc_La_copyFrom 6 rfl) ?_
  refine m_putI fl_La_46 rfl (fun _ _ _ h => by cases h; exact Or.inl rfl) sh18 (a_dec_at dc_La_copyFrom 7 rfl) ?_
  refine ev_aload_n (i := 0) rfl rfl (a_dec_at dc_La_copyFrom 8 rfl) ?_
  refine ev_aload_n (i := 1) rfl rfl (a_dec_at dc_La_copyFrom 9 rfl) ?_
  refine m_getI fl_La_49 rfl sh96 (a_dec_at dc_La_copyFrom 10 rfl) ?_
  refine m_putI fl_La_49 rfl (fun _ _ _ h => by cases h; exact Or.inl rfl) sh18 (a_dec_at dc_La_copyFrom 11 rfl) ?_
  refine ev_aload_n (i := 0) rfl rfl (a_dec_at dc_La_copyFrom 12 rfl) ?_
  refine ev_aload_n (i := 1) rfl rfl (a_dec_at dc_La_copyFrom 13 rfl) ?_
  refine m_getI fl_La_52 rfl sh96 (a_dec_at dc_La_copyFrom 14 rfl) ?_
  refine m_putI fl_La_52 rfl (fun _ _ _ h => by cases h; exact Or.inl rfl) sh18 (a_dec_at dc_La_copyFrom 15 rfl) ?_
  refine ev_aload_n (i := 0) rfl rfl (a_dec_at dc_La_copyFrom 16 rfl) ?_
  refine ev_aload_n (i := 1) rfl rfl (a_dec_at dc_La_copyFrom 17 rfl) ?_
  refine m_getI fl_La_36 rfl sh96 (a_dec_at dc_La_copyFrom 18 rfl) ?_
  refine m_putI fl_La_36 rfl (fun _ _ _ h => by cases h; exact Or.inl rfl) sh18 (a_dec_at dc_La_copyFrom 19 rfl) ?_
  refine ev_aload_n (i := 0) rfl rfl (a_dec_at dc_La_copyFrom 20 rfl) ?_
  refine ev_aload_n (i := 1) rfl rfl (a_dec_at dc_La_copyFrom 21 rfl) ?_
  refine m_getI fl_La_40 rfl sh96 (a_dec_at dc_La_copyFrom 22 rfl) ?_
  refine m_putI fl_La_40 rfl (fun _ _ _ h => by cases h; exact Or.inl rfl) sh18 (a_dec_at dc_La_copyFrom 23 rfl) ?_
  refine ev_aload_n (i := 1) rfl rfl (a_dec_at dc_La_copyFrom 24 rfl) ?_
  refine m_getR (y := 97) fl_La_9 rfl sh96 (mr_96_3 _) (by decide) (a_dec_at dc_La_copyFrom 25 rfl) ?_
  refine ev_iconst (v := 0) rfl (a_dec_at dc_La_copyFrom 26 rfl) ?_
  refine ev_aload_n (i := 0) rfl rfl (a_dec_at dc_La_copyFrom 27 rfl) ?_
  refine m_getR (y := 19) fl_La_9 rfl sh18 (mr_18_3 _) (by decide) (a_dec_at dc_La_copyFrom 28 rfl) ?_
  refine ev_iconst (v := 0) rfl (a_dec_at dc_La_copyFrom 29 rfl) ?_
  refine ev_bipush (v := 6) rfl (a_dec_at dc_La_copyFrom 30 rfl) ?_
  refine w_copy (ks := 0) (kd := 0) (kn := 6) cs_La_55 sh97 sh19 (by decide) (by decide) (by decide) (by decide) (Nat.le_of_ble_eq_true rfl) (a_dec_at dc_La_copyFrom 31 rfl) ?_
  refine ev_aload_n (i := 1) rfl rfl (a_dec_at dc_La_copyFrom 32 rfl) ?_
  refine m_getR (y := 98) fl_La_15 rfl sh96 (mr_96_4 _) (by decide) (a_dec_at dc_La_copyFrom 33 rfl) ?_
  refine ev_iconst (v := 0) rfl (a_dec_at dc_La_copyFrom 34 rfl) ?_
  refine ev_aload_n (i := 0) rfl rfl (a_dec_at dc_La_copyFrom 35 rfl) ?_
  refine m_getR (y := 20) fl_La_15 rfl sh18 (mr_18_4 _) (by decide) (a_dec_at dc_La_copyFrom 36 rfl) ?_
  refine ev_iconst (v := 0) rfl (a_dec_at dc_La_copyFrom 37 rfl) ?_
  refine ev_bipush (v := 6) rfl (a_dec_at dc_La_copyFrom 38 rfl) ?_
  refine w_copy (ks := 0) (kd := 0) (kn := 6) cs_La_55 sh98 sh20 (by decide) (by decide) (by decide) (by decide) (Nat.le_of_ble_eq_true rfl) (a_dec_at dc_La_copyFrom 39 rfl) ?_
  refine ev_aload_n (i := 1) rfl rfl (a_dec_at dc_La_copyFrom 40 rfl) ?_
  refine m_getR (y := 99) fl_La_18 rfl sh96 (mr_96_5 _) (by decide) (a_dec_at dc_La_copyFrom 41 rfl) ?_
  refine ev_iconst (v := 0) rfl (a_dec_at dc_La_copyFrom 42 rfl) ?_
  refine ev_aload_n (i := 0) rfl rfl (a_dec_at dc_La_copyFrom 43 rfl) ?_
  refine m_getR (y := 21) fl_La_18 rfl sh18 (mr_18_5 _) (by decide) (a_dec_at dc_La_copyFrom 44 rfl) ?_
  refine ev_iconst (v := 0) rfl (a_dec_at dc_La_copyFrom 45 rfl) ?_
  refine ev_bipush (v := 6) rfl (a_dec_at dc_La_copyFrom 46 rfl) ?_
  refine w_copy (ks := 0) (kd := 0) (kn := 6) cs_La_55 sh99 sh21 (by decide) (by decide) (by decide) (by decide) (Nat.le_of_ble_eq_true rfl) (a_dec_at dc_La_copyFrom 47 rfl) ?_
  refine ev_aload_n (i := 1) rfl rfl (a_dec_at dc_La_copyFrom 48 rfl) ?_
  refine m_getR (y := 100) fl_La_21 rfl sh96 (mr_96_6 _) (by decide) (a_dec_at dc_La_copyFrom 49 rfl) ?_
  refine ev_iconst (v := 0) rfl (a_dec_at dc_La_copyFrom 50 rfl) ?_
  refine ev_aload_n (i := 0) rfl rfl (a_dec_at dc_La_copyFrom 51 rfl) ?_
  refine m_getR (y := 22) fl_La_21 rfl sh18 (mr_18_6 _) (by decide) (a_dec_at dc_La_copyFrom 52 rfl) ?_
  refine ev_iconst (v := 0) rfl (a_dec_at dc_La_copyFrom 53 rfl) ?_
  refine ev_bipush (v := 6) rfl (a_dec_at dc_La_copyFrom 54 rfl) ?_
  refine w_copy (ks := 0) (kd := 0) (kn := 6) cs_La_55 sh100 sh22 (by decide) (by decide) (by decide) (by decide) (Nat.le_of_ble_eq_true rfl) (a_dec_at dc_La_copyFrom 55 rfl) ?_
  refine ev_aload_n (i := 1) rfl rfl (a_dec_at dc_La_copyFrom 56 rfl) ?_
  refine m_getR (y := 101) fl_La_24 rfl sh96 (mr_96_7 _) (by decide) (a_dec_at dc_La_copyFrom 57 rfl) ?_
  refine ev_iconst (v := 0) rfl (a_dec_at dc_La_copyFrom 58 rfl) ?_
  refine ev_aload_n (i := 0) rfl rfl (a_dec_at dc_La_copyFrom 59 rfl) ?_
  refine m_getR (y := 23) fl_La_24 rfl sh18 (mr_18_7 _) (by decide) (a_dec_at dc_La_copyFrom 60 rfl) ?_
  refine ev_iconst (v := 0) rfl (a_dec_at dc_La_copyFrom 61 rfl) ?_
  refine ev_iconst (v := 4) rfl (a_dec_at dc_La_copyFrom 62 rfl) ?_
  refine w_copy (ks := 0) (kd := 0) (kn := 4) cs_La_55 sh101 sh23 (by decide) (by decide) (by decide) (by decide) (Nat.le_of_ble_eq_true rfl) (a_dec_at dc_La_copyFrom 63 rfl) ?_
  refine ev_aload_n (i := 1) rfl rfl (a_dec_at dc_La_copyFrom 64 rfl) ?_
  refine m_getR (y := 102) fl_La_27 rfl sh96 (mr_96_8 _) (by decide) (a_dec_at dc_La_copyFrom 65 rfl) ?_
  refine ev_iconst (v := 0) rfl (a_dec_at dc_La_copyFrom 66 rfl) ?_
  refine ev_aload_n (i := 0) rfl rfl (a_dec_at dc_La_copyFrom 67 rfl) ?_
  refine m_getR (y := 24) fl_La_27 rfl sh18 (mr_18_8 _) (by decide) (a_dec_at dc_La_copyFrom 68 rfl) ?_
  refine ev_iconst (v := 0) rfl (a_dec_at dc_La_copyFrom 69 rfl) ?_
  refine ev_iconst (v := 4) rfl (a_dec_at dc_La_copyFrom 70 rfl) ?_
  refine w_copy (ks := 0) (kd := 0) (kn := 4) cs_La_55 sh102 sh24 (by decide) (by decide) (by decide) (by decide) (Nat.le_of_ble_eq_true rfl) (a_dec_at dc_La_copyFrom 71 rfl) ?_
  refine ev_aload_n (i := 1) rfl rfl (a_dec_at dc_La_copyFrom 72 rfl) ?_
  refine m_getR (y := 103) fl_La_30 rfl sh96 (mr_96_9 _) (by decide) (a_dec_at dc_La_copyFrom 73 rfl) ?_
  refine ev_iconst (v := 0) rfl (a_dec_at dc_La_copyFrom 74 rfl) ?_
  refine ev_aload_n (i := 0) rfl rfl (a_dec_at dc_La_copyFrom 75 rfl) ?_
  refine m_getR (y := 25) fl_La_30 rfl sh18 (mr_18_9 _) (by decide) (a_dec_at dc_La_copyFrom 76 rfl) ?_
  refine ev_iconst (v := 0) rfl (a_dec_at dc_La_copyFrom 77 rfl) ?_
  refine ev_iconst (v := 4) rfl (a_dec_at dc_La_copyFrom 78 rfl) ?_
  refine w_copy (ks := 0) (kd := 0) (kn := 4) cs_La_55 sh103 sh25 (by decide) (by decide) (by decide) (by decide) (Nat.le_of_ble_eq_true rfl) (a_dec_at dc_La_copyFrom 79 rfl) ?_
  refine ev_aload_n (i := 1) rfl rfl (a_dec_at dc_La_copyFrom 80 rfl) ?_
  refine m_getR (y := 104) fl_La_33 rfl sh96 (mr_96_10 _) (by decide) (a_dec_at dc_La_copyFrom 81 rfl) ?_
  refine ev_iconst (v := 0) rfl (a_dec_at dc_La_copyFrom 82 rfl) ?_
  refine ev_aload_n (i := 0) rfl rfl (a_dec_at dc_La_copyFrom 83 rfl) ?_
  refine m_getR (y := 26) fl_La_33 rfl sh18 (mr_18_10 _) (by decide) (a_dec_at dc_La_copyFrom 84 rfl) ?_
  refine ev_iconst (v := 0) rfl (a_dec_at dc_La_copyFrom 85 rfl) ?_
  refine ev_aload_n (i := 1) rfl rfl (a_dec_at dc_La_copyFrom 86 rfl) ?_
  refine m_getI fl_La_52 rfl sh96 (a_dec_at dc_La_copyFrom 87 rfl) ?_
  obtain ⟨c1, H⟩ := H
  refine w_copy (ks := 0) (kd := 0) (kn := ((cpF (cpF (cpF (cpF (cpF (cpF (cpF (up (up (up (up (up (up mi 18 0 (mi 96 0)) 18 1 ((up mi 18 0 (mi 96 0)) 96 1)) 18 2 ((up (up mi 18 0 (mi 96 0)) 18 1 ((up mi 18 0 (mi 96 0)) 96 1)) 96 2)) 18 11 ((up (up (up mi 18 0 (mi 96 0)) 18 1 ((up mi 18 0 (mi 96 0)) 96 1)) 18 2 ((up (up mi 18 0 (mi 96 0)) 18 1 ((up mi 18 0 (mi 96 0)) 96 1)) 96 2)) 96 11)) 18 12 ((up (up (up (up mi 18 0 (mi 96 0)) 18 1 ((up mi 18 0 (mi 96 0)) 96 1)) 18 2 ((up (up mi 18 0 (mi 96 0)) 18 1 ((up mi 18 0 (mi 96 0)) 96 1)) 96 2)) 18 11 ((up (up (up mi 18 0 (mi 96 0)) 18 1 ((up mi 18 0 (mi 96 0)) 96 1)) 18 2 ((up (up mi 18 0 (mi 96 0)) 18 1 ((up mi 18 0 (mi 96 0)) 96 1)) 96 2)) 96 11)) 96 12)) 18 13 ((up (up (up (up (up mi 18 0 (mi 96 0)) 18 1 ((up mi 18 0 (mi 96 0)) 96 1)) 18 2 ((up (up mi 18 0 (mi 96 0)) 18 1 ((up mi 18 0 (mi 96 0)) 96 1)) 96 2)) 18 11 ((up (up (up mi 18 0 (mi 96 0)) 18 1 ((up mi 18 0 (mi 96 0)) 96 1)) 18 2 ((up (up mi 18 0 (mi 96 0)) 18 1 ((up mi 18 0 (mi 96 0)) 96 1)) 96 2)) 96 11)) 18 12 ((up (up (up (up mi 18 0 (mi 96 0)) 18 1 ((up mi 18 0 (mi 96 0)) 96 1)) 18 2 ((up (up mi 18 0 (mi 96 0)) 18 1 ((up mi 18 0 (mi 96 0)) 96 1)) 96 2)) 18 11 ((up (up (up mi 18 0 (mi 96 0)) 18 1 ((up mi 18 0 (mi 96 0)) 96 1)) 18 2 ((up (up mi 18 0 (mi 96 0)) 18 1 ((up mi 18 0 (mi 96 0)) 96 1)) 96 2)) 96 11)) 96 12)) 96 13)) 97 19 0 0 6) 98 20 0 0 6) 99 21 0 0 6) 100 22 0 0 6) 101 23 0 0 4) 102 24 0 0 4) 103 25 0 0 4) 96 11).toNatClampNeg) cs_La_55 sh104 sh26 (by decide) (by decide) rfl c1 (Nat.le_of_ble_eq_true rfl) (a_dec_at dc_La_copyFrom 88 rfl) ?_
  exact m_retV (a_dec_at dc_La_copyFrom 89 rfl) rfl H
set_option maxRecDepth 20000 in
theorem t_Lw_setBeck {l : Launch} {h : Nat} (mi : TMi) (ml : TMl) (z : Nat) (a1 : Int32) (a2 : Int32) (a3 : Int32) {Q : TMi → TMl → Nat → Prop} (H : Q (up (up (up mi 15 0 a1) 15 1 a2) 15 2 a3) ml z) : CV l (h + 1) m_Lw_setBeck [.ref 14, .int a1, .int a2, .int a3] mi ml z Q := by
  show Ev l (h + 1) m_Lw_setBeck 0 ([.ref 14, .int a1, .int a2, .int a3], [], st mi ml z) (qV Q)
  refine ev_aload_n (i := 0) rfl rfl (a_dec_at dc_Lw_setBeck 0 rfl) ?_
  refine m_getR (y := 15) fl_Lw_11 rfl sh14 (mr_14_0 _) (by decide) (a_dec_at dc_Lw_setBeck 1 rfl) ?_
  refine ev_iconst (v := 0) rfl (a_dec_at dc_Lw_setBeck 2 rfl) ?_
  refine ev_iload_n (i := 1) rfl rfl (a_dec_at dc_Lw_setBeck 3 rfl) ?_
  refine w_iast (k := 0) sh15 (by unfold vp_in; decide) (by decide) (a_dec_at dc_Lw_setBeck 4 rfl) ?_
  refine ev_aload_n (i := 0) rfl rfl (a_dec_at dc_Lw_setBeck 5 rfl) ?_
  refine m_getR (y := 15) fl_Lw_11 rfl sh14 (mr_14_0 _) (by decide) (a_dec_at dc_Lw_setBeck 6 rfl) ?_
  refine ev_iconst (v := 1) rfl (a_dec_at dc_Lw_setBeck 7 rfl) ?_
  refine ev_iload_n (i := 2) rfl rfl (a_dec_at dc_Lw_setBeck 8 rfl) ?_
  refine w_iast (k := 1) sh15 (by unfold vp_in; decide) (by decide) (a_dec_at dc_Lw_setBeck 9 rfl) ?_
  refine ev_aload_n (i := 0) rfl rfl (a_dec_at dc_Lw_setBeck 10 rfl) ?_
  refine m_getR (y := 15) fl_Lw_11 rfl sh14 (mr_14_0 _) (by decide) (a_dec_at dc_Lw_setBeck 11 rfl) ?_
  refine ev_iconst (v := 2) rfl (a_dec_at dc_Lw_setBeck 12 rfl) ?_
  refine ev_iload_n (i := 3) rfl rfl (a_dec_at dc_Lw_setBeck 13 rfl) ?_
  refine w_iast (k := 2) sh15 (by unfold vp_in; decide) (by decide) (a_dec_at dc_Lw_setBeck 14 rfl) ?_
  exact m_retV (a_dec_at dc_Lw_setBeck 15 rfl) rfl H
set_option maxRecDepth 20000 in
theorem t_Lw_setRiver {l : Launch} {h : Nat} (mi : TMi) (ml : TMl) (z : Nat) (a1 : Int32) (a2 : Int32) (a3 : Int32) {Q : TMi → TMl → Nat → Prop} (H : Q (up (up (up mi 15 3 a1) 15 4 a2) 15 5 a3) ml z) : CV l (h + 1) m_Lw_setRiver [.ref 14, .int a1, .int a2, .int a3] mi ml z Q := by
  show Ev l (h + 1) m_Lw_setRiver 0 ([.ref 14, .int a1, .int a2, .int a3], [], st mi ml z) (qV Q)
  refine ev_aload_n (i := 0) rfl rfl (a_dec_at dc_Lw_setRiver 0 rfl) ?_
  refine m_getR (y := 15) fl_Lw_11 rfl sh14 (mr_14_0 _) (by decide) (a_dec_at dc_Lw_setRiver 1 rfl) ?_
  refine ev_iconst (v := 3) rfl (a_dec_at dc_Lw_setRiver 2 rfl) ?_
  refine ev_iload_n (i := 1) rfl rfl (a_dec_at dc_Lw_setRiver 3 rfl) ?_
  refine w_iast (k := 3) sh15 (by unfold vp_in; decide) (by decide) (a_dec_at dc_Lw_setRiver 4 rfl) ?_
  refine ev_aload_n (i := 0) rfl rfl (a_dec_at dc_Lw_setRiver 5 rfl) ?_
  refine m_getR (y := 15) fl_Lw_11 rfl sh14 (mr_14_0 _) (by decide) (a_dec_at dc_Lw_setRiver 6 rfl) ?_
  refine ev_iconst (v := 4) rfl (a_dec_at dc_Lw_setRiver 7 rfl) ?_
  refine ev_iload_n (i := 2) rfl rfl (a_dec_at dc_Lw_setRiver 8 rfl) ?_
  refine w_iast (k := 4) sh15 (by unfold vp_in; decide) (by decide) (a_dec_at dc_Lw_setRiver 9 rfl) ?_
  refine ev_aload_n (i := 0) rfl rfl (a_dec_at dc_Lw_setRiver 10 rfl) ?_
  refine m_getR (y := 15) fl_Lw_11 rfl sh14 (mr_14_0 _) (by decide) (a_dec_at dc_Lw_setRiver 11 rfl) ?_
  refine ev_iconst (v := 5) rfl (a_dec_at dc_Lw_setRiver 12 rfl) ?_
  refine ev_iload_n (i := 3) rfl rfl (a_dec_at dc_Lw_setRiver 13 rfl) ?_
  refine w_iast (k := 5) sh15 (by unfold vp_in; decide) (by decide) (a_dec_at dc_Lw_setRiver 14 rfl) ?_
  exact m_retV (a_dec_at dc_Lw_setRiver 15 rfl) rfl H
set_option maxRecDepth 20000 in
theorem t_Lw_value {l : Launch} {h : Nat} (mi : TMi) (ml : TMl) (z : Nat) (a2 : Int32) {Q : Int32 → TMi → TMl → Nat → Prop} (H : ((0 ≤ a2 → Ev l (h + 1) m_Lw_value 14 ([.ref 14, .ref 26, .retAddr 0, .int a2, .int 0, .int 0, .retAddr 0], [], st mi ml z) (qI Q)) ∧ (¬ 0 ≤ a2 → Q 1 mi ml z))) : CI l (h + 1) m_Lw_value [.ref 14, .ref 26, .int a2] mi ml z Q := by
  show Ev l (h + 1) m_Lw_value 0 ([.ref 14, .ref 26, .int a2, .retAddr 0, .retAddr 0, .retAddr 0, .retAddr 0], [], st mi ml z) (qI Q)
  refine ev_iload_n (i := 2) rfl rfl (a_dec_at dc_Lw_value 0 rfl) ?_
  refine ev_if_ge (tgt := 6) (a_dec_at dc_Lw_value 1 rfl) (by decide) (fun b1 => ?_) (fun b1 => ?_)
  · have H := H.1 b1
    refine ev_iload_n (i := 2) rfl rfl (a_dec_at dc_Lw_value 4 rfl) ?_
    refine ev_istore_n (i := 3) rfl (by decide) rfl (a_dec_at dc_Lw_value 5 rfl) ?_
    refine ev_iconst (v := 0) rfl (a_dec_at dc_Lw_value 6 rfl) ?_
    refine ev_istore (by decide) rfl (a_dec_at dc_Lw_value 7 rfl) ?_
    refine ev_iconst (v := 0) rfl (a_dec_at dc_Lw_value 8 rfl) ?_
    refine ev_istore (by decide) rfl (a_dec_at dc_Lw_value 9 rfl) ?_
    exact Ev.drop (L' := [.ref 14, .ref 26, .retAddr 0, .int a2, .int 0, .int 0, .retAddr 0]) (And.intro rfl (And.intro rfl (And.intro rfl (And.intro rfl (And.intro rfl trivial))))) H
  · have H := H.2 b1
    refine ev_iconst (v := 1) rfl (a_dec_at dc_Lw_value 2 rfl) ?_
    exact m_retI (a_dec_at dc_Lw_value 3 rfl) rfl rfl H
set_option maxRecDepth 20000 in
theorem t_Lw_value_14 {l : Launch} {h : Nat} (mi : TMi) (ml : TMl) (z : Nat) (v3 : Int32) (v4 : Int32) (v5 : Int32) {Q : Int32 → TMi → TMl → Nat → Prop} (H : ((900 ≤ v5 → ((v4 ≤ 0 → Q 0 mi ml z) ∧ (¬ v4 ≤ 0 → (vp_in (v4 - 1) 64) ∧ Q (mi 16 ((v4 - 1).toNatClampNeg)) mi ml z))) ∧ (¬ 900 ≤ v5 → (((nI 900) ≤ v3 → ((v4 ≤ 0 → Q 0 mi ml z) ∧ (¬ v4 ≤ 0 → (vp_in (v4 - 1) 64) ∧ Q (mi 16 ((v4 - 1).toNatClampNeg)) mi ml z))) ∧ (¬ (nI 900) ≤ v3 → (vp_in v3 900) ∧ ((2000 ≤ (mi 26 v3.toNatClampNeg) → (((mi 26 v3.toNatClampNeg) < 6000 → ((¬ (mi 26 v3.toNatClampNeg) = 5000 → (((mi 26 v3.toNatClampNeg) < 3000 → (((mi 26 v3.toNatClampNeg) < 2000 → ((v4 ≤ 0 → Q 0 mi ml z) ∧ (¬ v4 ≤ 0 → (vp_in (v4 - 1) 64) ∧ Q (mi 16 ((v4 - 1).toNatClampNeg)) mi ml z))) ∧ (¬ (mi 26 v3.toNatClampNeg) < 2000 → ((3000 ≤ (mi 26 v3.toNatClampNeg) → ((v4 ≤ 0 → Q 0 mi ml z) ∧ (¬ v4 ≤ 0 → (vp_in (v4 - 1) 64) ∧ Q (mi 16 ((v4 - 1).toNatClampNeg)) mi ml z))) ∧ (¬ 3000 ≤ (mi 26 v3.toNatClampNeg) → Ev l (h + 1) m_Lw_value 14 ([.ref 14, .ref 26, .retAddr 0, .int ((mi 26 v3.toNatClampNeg) - 2000), .int v4, .int (v5 + 1), .retAddr 0], [], st mi ml z) (qI Q)))))) ∧ (¬ (mi 26 v3.toNatClampNeg) < 3000 → ((4000 ≤ (mi 26 v3.toNatClampNeg) → (((mi 26 v3.toNatClampNeg) < 2000 → ((v4 ≤ 0 → Q 0 mi ml z) ∧ (¬ v4 ≤ 0 → (vp_in (v4 - 1) 64) ∧ Q (mi 16 ((v4 - 1).toNatClampNeg)) mi ml z))) ∧ (¬ (mi 26 v3.toNatClampNeg) < 2000 → ((3000 ≤ (mi 26 v3.toNatClampNeg) → ((v4 ≤ 0 → Q 0 mi ml z) ∧ (¬ v4 ≤ 0 → (vp_in (v4 - 1) 64) ∧ Q (mi 16 ((v4 - 1).toNatClampNeg)) mi ml z))) ∧ (¬ 3000 ≤ (mi 26 v3.toNatClampNeg) → Ev l (h + 1) m_Lw_value 14 ([.ref 14, .ref 26, .retAddr 0, .int ((mi 26 v3.toNatClampNeg) - 2000), .int v4, .int (v5 + 1), .retAddr 0], [], st mi ml z) (qI Q)))))) ∧ (¬ 4000 ≤ (mi 26 v3.toNatClampNeg) → ((v4 ≤ 0 → (((mi 26 v3.toNatClampNeg) < 2000 → ((v4 ≤ 0 → Q 0 mi ml z) ∧ (¬ v4 ≤ 0 → (vp_in (v4 - 1) 64) ∧ Q (mi 16 ((v4 - 1).toNatClampNeg)) mi ml z))) ∧ (¬ (mi 26 v3.toNatClampNeg) < 2000 → ((3000 ≤ (mi 26 v3.toNatClampNeg) → ((v4 ≤ 0 → Q 0 mi ml z) ∧ (¬ v4 ≤ 0 → (vp_in (v4 - 1) 64) ∧ Q (mi 16 ((v4 - 1).toNatClampNeg)) mi ml z))) ∧ (¬ 3000 ≤ (mi 26 v3.toNatClampNeg) → Ev l (h + 1) m_Lw_value 14 ([.ref 14, .ref 26, .retAddr 0, .int ((mi 26 v3.toNatClampNeg) - 2000), .int v4, .int (v5 + 1), .retAddr 0], [], st mi ml z) (qI Q)))))) ∧ (¬ v4 ≤ 0 → (vp_in (v4 + (-1)) 64) ∧ ((¬ (mi 16 ((v4 + (-1)).toNatClampNeg)) = 0 → Ev l (h + 1) m_Lw_value 14 ([.ref 14, .ref 26, .retAddr 0, .int (v3 + 1), .int (v4 + (-1)), .int (v5 + 1), .retAddr 0], [], st mi ml z) (qI Q)) ∧ ((mi 16 ((v4 + (-1)).toNatClampNeg)) = 0 → Ev l (h + 1) m_Lw_value 14 ([.ref 14, .ref 26, .retAddr 0, .int ((mi 26 v3.toNatClampNeg) - 3000), .int (v4 + (-1)), .int (v5 + 1), .retAddr 0], [], st mi ml z) (qI Q)))))))))) ∧ ((mi 26 v3.toNatClampNeg) = 5000 → ((v4 ≤ 0 → (((mi 26 v3.toNatClampNeg) < 3000 → (((mi 26 v3.toNatClampNeg) < 2000 → ((v4 ≤ 0 → Q 0 mi ml z) ∧ (¬ v4 ≤ 0 → (vp_in (v4 - 1) 64) ∧ Q (mi 16 ((v4 - 1).toNatClampNeg)) mi ml z))) ∧ (¬ (mi 26 v3.toNatClampNeg) < 2000 → ((3000 ≤ (mi 26 v3.toNatClampNeg) → ((v4 ≤ 0 → Q 0 mi ml z) ∧ (¬ v4 ≤ 0 → (vp_in (v4 - 1) 64) ∧ Q (mi 16 ((v4 - 1).toNatClampNeg)) mi ml z))) ∧ (¬ 3000 ≤ (mi 26 v3.toNatClampNeg) → Ev l (h + 1) m_Lw_value 14 ([.ref 14, .ref 26, .retAddr 0, .int ((mi 26 v3.toNatClampNeg) - 2000), .int v4, .int (v5 + 1), .retAddr 0], [], st mi ml z) (qI Q)))))) ∧ (¬ (mi 26 v3.toNatClampNeg) < 3000 → ((4000 ≤ (mi 26 v3.toNatClampNeg) → (((mi 26 v3.toNatClampNeg) < 2000 → ((v4 ≤ 0 → Q 0 mi ml z) ∧ (¬ v4 ≤ 0 → (vp_in (v4 - 1) 64) ∧ Q (mi 16 ((v4 - 1).toNatClampNeg)) mi ml z))) ∧ (¬ (mi 26 v3.toNatClampNeg) < 2000 → ((3000 ≤ (mi 26 v3.toNatClampNeg) → ((v4 ≤ 0 → Q 0 mi ml z) ∧ (¬ v4 ≤ 0 → (vp_in (v4 - 1) 64) ∧ Q (mi 16 ((v4 - 1).toNatClampNeg)) mi ml z))) ∧ (¬ 3000 ≤ (mi 26 v3.toNatClampNeg) → Ev l (h + 1) m_Lw_value 14 ([.ref 14, .ref 26, .retAddr 0, .int ((mi 26 v3.toNatClampNeg) - 2000), .int v4, .int (v5 + 1), .retAddr 0], [], st mi ml z) (qI Q)))))) ∧ (¬ 4000 ≤ (mi 26 v3.toNatClampNeg) → ((v4 ≤ 0 → (((mi 26 v3.toNatClampNeg) < 2000 → ((v4 ≤ 0 → Q 0 mi ml z) ∧ (¬ v4 ≤ 0 → (vp_in (v4 - 1) 64) ∧ Q (mi 16 ((v4 - 1).toNatClampNeg)) mi ml z))) ∧ (¬ (mi 26 v3.toNatClampNeg) < 2000 → ((3000 ≤ (mi 26 v3.toNatClampNeg) → ((v4 ≤ 0 → Q 0 mi ml z) ∧ (¬ v4 ≤ 0 → (vp_in (v4 - 1) 64) ∧ Q (mi 16 ((v4 - 1).toNatClampNeg)) mi ml z))) ∧ (¬ 3000 ≤ (mi 26 v3.toNatClampNeg) → Ev l (h + 1) m_Lw_value 14 ([.ref 14, .ref 26, .retAddr 0, .int ((mi 26 v3.toNatClampNeg) - 2000), .int v4, .int (v5 + 1), .retAddr 0], [], st mi ml z) (qI Q)))))) ∧ (¬ v4 ≤ 0 → (vp_in (v4 + (-1)) 64) ∧ ((¬ (mi 16 ((v4 + (-1)).toNatClampNeg)) = 0 → Ev l (h + 1) m_Lw_value 14 ([.ref 14, .ref 26, .retAddr 0, .int (v3 + 1), .int (v4 + (-1)), .int (v5 + 1), .retAddr 0], [], st mi ml z) (qI Q)) ∧ ((mi 16 ((v4 + (-1)).toNatClampNeg)) = 0 → Ev l (h + 1) m_Lw_value 14 ([.ref 14, .ref 26, .retAddr 0, .int ((mi 26 v3.toNatClampNeg) - 3000), .int (v4 + (-1)), .int (v5 + 1), .retAddr 0], [], st mi ml z) (qI Q)))))))))) ∧ (¬ v4 ≤ 0 → (vp_in (v4 - 1) 64) ∧ (vp_in (v4 - 1) 64) ∧ Ev l (h + 1) m_Lw_value 14 ([.ref 14, .ref 26, .retAddr 0, .int (v3 + 1), .int v4, .int (v5 + 1), .retAddr 0], [], st (up mi 16 ((v4 - 1).toNatClampNeg) (1 - (mi 16 ((v4 - 1).toNatClampNeg)))) ml z) (qI Q)))))) ∧ (¬ (mi 26 v3.toNatClampNeg) < 6000 → ((v4 ≤ 1 → ((¬ (mi 26 v3.toNatClampNeg) = 5000 → (((mi 26 v3.toNatClampNeg) < 3000 → (((mi 26 v3.toNatClampNeg) < 2000 → ((v4 ≤ 0 → Q 0 mi ml z) ∧ (¬ v4 ≤ 0 → (vp_in (v4 - 1) 64) ∧ Q (mi 16 ((v4 - 1).toNatClampNeg)) mi ml z))) ∧ (¬ (mi 26 v3.toNatClampNeg) < 2000 → ((3000 ≤ (mi 26 v3.toNatClampNeg) → ((v4 ≤ 0 → Q 0 mi ml z) ∧ (¬ v4 ≤ 0 → (vp_in (v4 - 1) 64) ∧ Q (mi 16 ((v4 - 1).toNatClampNeg)) mi ml z))) ∧ (¬ 3000 ≤ (mi 26 v3.toNatClampNeg) → Ev l (h + 1) m_Lw_value 14 ([.ref 14, .ref 26, .retAddr 0, .int ((mi 26 v3.toNatClampNeg) - 2000), .int v4, .int (v5 + 1), .retAddr 0], [], st mi ml z) (qI Q)))))) ∧ (¬ (mi 26 v3.toNatClampNeg) < 3000 → ((4000 ≤ (mi 26 v3.toNatClampNeg) → (((mi 26 v3.toNatClampNeg) < 2000 → ((v4 ≤ 0 → Q 0 mi ml z) ∧ (¬ v4 ≤ 0 → (vp_in (v4 - 1) 64) ∧ Q (mi 16 ((v4 - 1).toNatClampNeg)) mi ml z))) ∧ (¬ (mi 26 v3.toNatClampNeg) < 2000 → ((3000 ≤ (mi 26 v3.toNatClampNeg) → ((v4 ≤ 0 → Q 0 mi ml z) ∧ (¬ v4 ≤ 0 → (vp_in (v4 - 1) 64) ∧ Q (mi 16 ((v4 - 1).toNatClampNeg)) mi ml z))) ∧ (¬ 3000 ≤ (mi 26 v3.toNatClampNeg) → Ev l (h + 1) m_Lw_value 14 ([.ref 14, .ref 26, .retAddr 0, .int ((mi 26 v3.toNatClampNeg) - 2000), .int v4, .int (v5 + 1), .retAddr 0], [], st mi ml z) (qI Q)))))) ∧ (¬ 4000 ≤ (mi 26 v3.toNatClampNeg) → ((v4 ≤ 0 → (((mi 26 v3.toNatClampNeg) < 2000 → ((v4 ≤ 0 → Q 0 mi ml z) ∧ (¬ v4 ≤ 0 → (vp_in (v4 - 1) 64) ∧ Q (mi 16 ((v4 - 1).toNatClampNeg)) mi ml z))) ∧ (¬ (mi 26 v3.toNatClampNeg) < 2000 → ((3000 ≤ (mi 26 v3.toNatClampNeg) → ((v4 ≤ 0 → Q 0 mi ml z) ∧ (¬ v4 ≤ 0 → (vp_in (v4 - 1) 64) ∧ Q (mi 16 ((v4 - 1).toNatClampNeg)) mi ml z))) ∧ (¬ 3000 ≤ (mi 26 v3.toNatClampNeg) → Ev l (h + 1) m_Lw_value 14 ([.ref 14, .ref 26, .retAddr 0, .int ((mi 26 v3.toNatClampNeg) - 2000), .int v4, .int (v5 + 1), .retAddr 0], [], st mi ml z) (qI Q)))))) ∧ (¬ v4 ≤ 0 → (vp_in (v4 + (-1)) 64) ∧ ((¬ (mi 16 ((v4 + (-1)).toNatClampNeg)) = 0 → Ev l (h + 1) m_Lw_value 14 ([.ref 14, .ref 26, .retAddr 0, .int (v3 + 1), .int (v4 + (-1)), .int (v5 + 1), .retAddr 0], [], st mi ml z) (qI Q)) ∧ ((mi 16 ((v4 + (-1)).toNatClampNeg)) = 0 → Ev l (h + 1) m_Lw_value 14 ([.ref 14, .ref 26, .retAddr 0, .int ((mi 26 v3.toNatClampNeg) - 3000), .int (v4 + (-1)), .int (v5 + 1), .retAddr 0], [], st mi ml z) (qI Q)))))))))) ∧ ((mi 26 v3.toNatClampNeg) = 5000 → ((v4 ≤ 0 → (((mi 26 v3.toNatClampNeg) < 3000 → (((mi 26 v3.toNatClampNeg) < 2000 → ((v4 ≤ 0 → Q 0 mi ml z) ∧ (¬ v4 ≤ 0 → (vp_in (v4 - 1) 64) ∧ Q (mi 16 ((v4 - 1).toNatClampNeg)) mi ml z))) ∧ (¬ (mi 26 v3.toNatClampNeg) < 2000 → ((3000 ≤ (mi 26 v3.toNatClampNeg) → ((v4 ≤ 0 → Q 0 mi ml z) ∧ (¬ v4 ≤ 0 → (vp_in (v4 - 1) 64) ∧ Q (mi 16 ((v4 - 1).toNatClampNeg)) mi ml z))) ∧ (¬ 3000 ≤ (mi 26 v3.toNatClampNeg) → Ev l (h + 1) m_Lw_value 14 ([.ref 14, .ref 26, .retAddr 0, .int ((mi 26 v3.toNatClampNeg) - 2000), .int v4, .int (v5 + 1), .retAddr 0], [], st mi ml z) (qI Q)))))) ∧ (¬ (mi 26 v3.toNatClampNeg) < 3000 → ((4000 ≤ (mi 26 v3.toNatClampNeg) → (((mi 26 v3.toNatClampNeg) < 2000 → ((v4 ≤ 0 → Q 0 mi ml z) ∧ (¬ v4 ≤ 0 → (vp_in (v4 - 1) 64) ∧ Q (mi 16 ((v4 - 1).toNatClampNeg)) mi ml z))) ∧ (¬ (mi 26 v3.toNatClampNeg) < 2000 → ((3000 ≤ (mi 26 v3.toNatClampNeg) → ((v4 ≤ 0 → Q 0 mi ml z) ∧ (¬ v4 ≤ 0 → (vp_in (v4 - 1) 64) ∧ Q (mi 16 ((v4 - 1).toNatClampNeg)) mi ml z))) ∧ (¬ 3000 ≤ (mi 26 v3.toNatClampNeg) → Ev l (h + 1) m_Lw_value 14 ([.ref 14, .ref 26, .retAddr 0, .int ((mi 26 v3.toNatClampNeg) - 2000), .int v4, .int (v5 + 1), .retAddr 0], [], st mi ml z) (qI Q)))))) ∧ (¬ 4000 ≤ (mi 26 v3.toNatClampNeg) → ((v4 ≤ 0 → (((mi 26 v3.toNatClampNeg) < 2000 → ((v4 ≤ 0 → Q 0 mi ml z) ∧ (¬ v4 ≤ 0 → (vp_in (v4 - 1) 64) ∧ Q (mi 16 ((v4 - 1).toNatClampNeg)) mi ml z))) ∧ (¬ (mi 26 v3.toNatClampNeg) < 2000 → ((3000 ≤ (mi 26 v3.toNatClampNeg) → ((v4 ≤ 0 → Q 0 mi ml z) ∧ (¬ v4 ≤ 0 → (vp_in (v4 - 1) 64) ∧ Q (mi 16 ((v4 - 1).toNatClampNeg)) mi ml z))) ∧ (¬ 3000 ≤ (mi 26 v3.toNatClampNeg) → Ev l (h + 1) m_Lw_value 14 ([.ref 14, .ref 26, .retAddr 0, .int ((mi 26 v3.toNatClampNeg) - 2000), .int v4, .int (v5 + 1), .retAddr 0], [], st mi ml z) (qI Q)))))) ∧ (¬ v4 ≤ 0 → (vp_in (v4 + (-1)) 64) ∧ ((¬ (mi 16 ((v4 + (-1)).toNatClampNeg)) = 0 → Ev l (h + 1) m_Lw_value 14 ([.ref 14, .ref 26, .retAddr 0, .int (v3 + 1), .int (v4 + (-1)), .int (v5 + 1), .retAddr 0], [], st mi ml z) (qI Q)) ∧ ((mi 16 ((v4 + (-1)).toNatClampNeg)) = 0 → Ev l (h + 1) m_Lw_value 14 ([.ref 14, .ref 26, .retAddr 0, .int ((mi 26 v3.toNatClampNeg) - 3000), .int (v4 + (-1)), .int (v5 + 1), .retAddr 0], [], st mi ml z) (qI Q)))))))))) ∧ (¬ v4 ≤ 0 → (vp_in (v4 - 1) 64) ∧ (vp_in (v4 - 1) 64) ∧ Ev l (h + 1) m_Lw_value 14 ([.ref 14, .ref 26, .retAddr 0, .int (v3 + 1), .int v4, .int (v5 + 1), .retAddr 0], [], st (up mi 16 ((v4 - 1).toNatClampNeg) (1 - (mi 16 ((v4 - 1).toNatClampNeg)))) ml z) (qI Q)))))) ∧ (¬ v4 ≤ 1 → (vp_in ((v4 + (-1)) - 1) 64) ∧ (vp_in (v4 + (-1)) 64) ∧ CI l h m_Lw_joined [.int (mi 26 v3.toNatClampNeg), .int (mi 16 (((v4 + (-1)) - 1).toNatClampNeg)), .int (mi 16 ((v4 + (-1)).toNatClampNeg))] mi ml z (fun x113 mi113 ml113 z113 => (vp_in ((v4 + (-1)) - 1) 64) ∧ Ev l (h + 1) m_Lw_value 14 ([.ref 14, .ref 26, .retAddr 0, .int (v3 + 1), .int (v4 + (-1)), .int (v5 + 1), .retAddr 0], [], st (up mi113 16 (((v4 + (-1)) - 1).toNatClampNeg) x113) ml113 z113) (qI Q))))))) ∧ (¬ 2000 ≤ (mi 26 v3.toNatClampNeg) → ((64 ≤ v4 → (((mi 26 v3.toNatClampNeg) < 6000 → ((¬ (mi 26 v3.toNatClampNeg) = 5000 → (((mi 26 v3.toNatClampNeg) < 3000 → (((mi 26 v3.toNatClampNeg) < 2000 → ((v4 ≤ 0 → Q 0 mi ml z) ∧ (¬ v4 ≤ 0 → (vp_in (v4 - 1) 64) ∧ Q (mi 16 ((v4 - 1).toNatClampNeg)) mi ml z))) ∧ (¬ (mi 26 v3.toNatClampNeg) < 2000 → ((3000 ≤ (mi 26 v3.toNatClampNeg) → ((v4 ≤ 0 → Q 0 mi ml z) ∧ (¬ v4 ≤ 0 → (vp_in (v4 - 1) 64) ∧ Q (mi 16 ((v4 - 1).toNatClampNeg)) mi ml z))) ∧ (¬ 3000 ≤ (mi 26 v3.toNatClampNeg) → Ev l (h + 1) m_Lw_value 14 ([.ref 14, .ref 26, .retAddr 0, .int ((mi 26 v3.toNatClampNeg) - 2000), .int v4, .int (v5 + 1), .retAddr 0], [], st mi ml z) (qI Q)))))) ∧ (¬ (mi 26 v3.toNatClampNeg) < 3000 → ((4000 ≤ (mi 26 v3.toNatClampNeg) → (((mi 26 v3.toNatClampNeg) < 2000 → ((v4 ≤ 0 → Q 0 mi ml z) ∧ (¬ v4 ≤ 0 → (vp_in (v4 - 1) 64) ∧ Q (mi 16 ((v4 - 1).toNatClampNeg)) mi ml z))) ∧ (¬ (mi 26 v3.toNatClampNeg) < 2000 → ((3000 ≤ (mi 26 v3.toNatClampNeg) → ((v4 ≤ 0 → Q 0 mi ml z) ∧ (¬ v4 ≤ 0 → (vp_in (v4 - 1) 64) ∧ Q (mi 16 ((v4 - 1).toNatClampNeg)) mi ml z))) ∧ (¬ 3000 ≤ (mi 26 v3.toNatClampNeg) → Ev l (h + 1) m_Lw_value 14 ([.ref 14, .ref 26, .retAddr 0, .int ((mi 26 v3.toNatClampNeg) - 2000), .int v4, .int (v5 + 1), .retAddr 0], [], st mi ml z) (qI Q)))))) ∧ (¬ 4000 ≤ (mi 26 v3.toNatClampNeg) → ((v4 ≤ 0 → (((mi 26 v3.toNatClampNeg) < 2000 → ((v4 ≤ 0 → Q 0 mi ml z) ∧ (¬ v4 ≤ 0 → (vp_in (v4 - 1) 64) ∧ Q (mi 16 ((v4 - 1).toNatClampNeg)) mi ml z))) ∧ (¬ (mi 26 v3.toNatClampNeg) < 2000 → ((3000 ≤ (mi 26 v3.toNatClampNeg) → ((v4 ≤ 0 → Q 0 mi ml z) ∧ (¬ v4 ≤ 0 → (vp_in (v4 - 1) 64) ∧ Q (mi 16 ((v4 - 1).toNatClampNeg)) mi ml z))) ∧ (¬ 3000 ≤ (mi 26 v3.toNatClampNeg) → Ev l (h + 1) m_Lw_value 14 ([.ref 14, .ref 26, .retAddr 0, .int ((mi 26 v3.toNatClampNeg) - 2000), .int v4, .int (v5 + 1), .retAddr 0], [], st mi ml z) (qI Q)))))) ∧ (¬ v4 ≤ 0 → (vp_in (v4 + (-1)) 64) ∧ ((¬ (mi 16 ((v4 + (-1)).toNatClampNeg)) = 0 → Ev l (h + 1) m_Lw_value 14 ([.ref 14, .ref 26, .retAddr 0, .int (v3 + 1), .int (v4 + (-1)), .int (v5 + 1), .retAddr 0], [], st mi ml z) (qI Q)) ∧ ((mi 16 ((v4 + (-1)).toNatClampNeg)) = 0 → Ev l (h + 1) m_Lw_value 14 ([.ref 14, .ref 26, .retAddr 0, .int ((mi 26 v3.toNatClampNeg) - 3000), .int (v4 + (-1)), .int (v5 + 1), .retAddr 0], [], st mi ml z) (qI Q)))))))))) ∧ ((mi 26 v3.toNatClampNeg) = 5000 → ((v4 ≤ 0 → (((mi 26 v3.toNatClampNeg) < 3000 → (((mi 26 v3.toNatClampNeg) < 2000 → ((v4 ≤ 0 → Q 0 mi ml z) ∧ (¬ v4 ≤ 0 → (vp_in (v4 - 1) 64) ∧ Q (mi 16 ((v4 - 1).toNatClampNeg)) mi ml z))) ∧ (¬ (mi 26 v3.toNatClampNeg) < 2000 → ((3000 ≤ (mi 26 v3.toNatClampNeg) → ((v4 ≤ 0 → Q 0 mi ml z) ∧ (¬ v4 ≤ 0 → (vp_in (v4 - 1) 64) ∧ Q (mi 16 ((v4 - 1).toNatClampNeg)) mi ml z))) ∧ (¬ 3000 ≤ (mi 26 v3.toNatClampNeg) → Ev l (h + 1) m_Lw_value 14 ([.ref 14, .ref 26, .retAddr 0, .int ((mi 26 v3.toNatClampNeg) - 2000), .int v4, .int (v5 + 1), .retAddr 0], [], st mi ml z) (qI Q)))))) ∧ (¬ (mi 26 v3.toNatClampNeg) < 3000 → ((4000 ≤ (mi 26 v3.toNatClampNeg) → (((mi 26 v3.toNatClampNeg) < 2000 → ((v4 ≤ 0 → Q 0 mi ml z) ∧ (¬ v4 ≤ 0 → (vp_in (v4 - 1) 64) ∧ Q (mi 16 ((v4 - 1).toNatClampNeg)) mi ml z))) ∧ (¬ (mi 26 v3.toNatClampNeg) < 2000 → ((3000 ≤ (mi 26 v3.toNatClampNeg) → ((v4 ≤ 0 → Q 0 mi ml z) ∧ (¬ v4 ≤ 0 → (vp_in (v4 - 1) 64) ∧ Q (mi 16 ((v4 - 1).toNatClampNeg)) mi ml z))) ∧ (¬ 3000 ≤ (mi 26 v3.toNatClampNeg) → Ev l (h + 1) m_Lw_value 14 ([.ref 14, .ref 26, .retAddr 0, .int ((mi 26 v3.toNatClampNeg) - 2000), .int v4, .int (v5 + 1), .retAddr 0], [], st mi ml z) (qI Q)))))) ∧ (¬ 4000 ≤ (mi 26 v3.toNatClampNeg) → ((v4 ≤ 0 → (((mi 26 v3.toNatClampNeg) < 2000 → ((v4 ≤ 0 → Q 0 mi ml z) ∧ (¬ v4 ≤ 0 → (vp_in (v4 - 1) 64) ∧ Q (mi 16 ((v4 - 1).toNatClampNeg)) mi ml z))) ∧ (¬ (mi 26 v3.toNatClampNeg) < 2000 → ((3000 ≤ (mi 26 v3.toNatClampNeg) → ((v4 ≤ 0 → Q 0 mi ml z) ∧ (¬ v4 ≤ 0 → (vp_in (v4 - 1) 64) ∧ Q (mi 16 ((v4 - 1).toNatClampNeg)) mi ml z))) ∧ (¬ 3000 ≤ (mi 26 v3.toNatClampNeg) → Ev l (h + 1) m_Lw_value 14 ([.ref 14, .ref 26, .retAddr 0, .int ((mi 26 v3.toNatClampNeg) - 2000), .int v4, .int (v5 + 1), .retAddr 0], [], st mi ml z) (qI Q)))))) ∧ (¬ v4 ≤ 0 → (vp_in (v4 + (-1)) 64) ∧ ((¬ (mi 16 ((v4 + (-1)).toNatClampNeg)) = 0 → Ev l (h + 1) m_Lw_value 14 ([.ref 14, .ref 26, .retAddr 0, .int (v3 + 1), .int (v4 + (-1)), .int (v5 + 1), .retAddr 0], [], st mi ml z) (qI Q)) ∧ ((mi 16 ((v4 + (-1)).toNatClampNeg)) = 0 → Ev l (h + 1) m_Lw_value 14 ([.ref 14, .ref 26, .retAddr 0, .int ((mi 26 v3.toNatClampNeg) - 3000), .int (v4 + (-1)), .int (v5 + 1), .retAddr 0], [], st mi ml z) (qI Q)))))))))) ∧ (¬ v4 ≤ 0 → (vp_in (v4 - 1) 64) ∧ (vp_in (v4 - 1) 64) ∧ Ev l (h + 1) m_Lw_value 14 ([.ref 14, .ref 26, .retAddr 0, .int (v3 + 1), .int v4, .int (v5 + 1), .retAddr 0], [], st (up mi 16 ((v4 - 1).toNatClampNeg) (1 - (mi 16 ((v4 - 1).toNatClampNeg)))) ml z) (qI Q)))))) ∧ (¬ (mi 26 v3.toNatClampNeg) < 6000 → ((v4 ≤ 1 → ((¬ (mi 26 v3.toNatClampNeg) = 5000 → (((mi 26 v3.toNatClampNeg) < 3000 → (((mi 26 v3.toNatClampNeg) < 2000 → ((v4 ≤ 0 → Q 0 mi ml z) ∧ (¬ v4 ≤ 0 → (vp_in (v4 - 1) 64) ∧ Q (mi 16 ((v4 - 1).toNatClampNeg)) mi ml z))) ∧ (¬ (mi 26 v3.toNatClampNeg) < 2000 → ((3000 ≤ (mi 26 v3.toNatClampNeg) → ((v4 ≤ 0 → Q 0 mi ml z) ∧ (¬ v4 ≤ 0 → (vp_in (v4 - 1) 64) ∧ Q (mi 16 ((v4 - 1).toNatClampNeg)) mi ml z))) ∧ (¬ 3000 ≤ (mi 26 v3.toNatClampNeg) → Ev l (h + 1) m_Lw_value 14 ([.ref 14, .ref 26, .retAddr 0, .int ((mi 26 v3.toNatClampNeg) - 2000), .int v4, .int (v5 + 1), .retAddr 0], [], st mi ml z) (qI Q)))))) ∧ (¬ (mi 26 v3.toNatClampNeg) < 3000 → ((4000 ≤ (mi 26 v3.toNatClampNeg) → (((mi 26 v3.toNatClampNeg) < 2000 → ((v4 ≤ 0 → Q 0 mi ml z) ∧ (¬ v4 ≤ 0 → (vp_in (v4 - 1) 64) ∧ Q (mi 16 ((v4 - 1).toNatClampNeg)) mi ml z))) ∧ (¬ (mi 26 v3.toNatClampNeg) < 2000 → ((3000 ≤ (mi 26 v3.toNatClampNeg) → ((v4 ≤ 0 → Q 0 mi ml z) ∧ (¬ v4 ≤ 0 → (vp_in (v4 - 1) 64) ∧ Q (mi 16 ((v4 - 1).toNatClampNeg)) mi ml z))) ∧ (¬ 3000 ≤ (mi 26 v3.toNatClampNeg) → Ev l (h + 1) m_Lw_value 14 ([.ref 14, .ref 26, .retAddr 0, .int ((mi 26 v3.toNatClampNeg) - 2000), .int v4, .int (v5 + 1), .retAddr 0], [], st mi ml z) (qI Q)))))) ∧ (¬ 4000 ≤ (mi 26 v3.toNatClampNeg) → ((v4 ≤ 0 → (((mi 26 v3.toNatClampNeg) < 2000 → ((v4 ≤ 0 → Q 0 mi ml z) ∧ (¬ v4 ≤ 0 → (vp_in (v4 - 1) 64) ∧ Q (mi 16 ((v4 - 1).toNatClampNeg)) mi ml z))) ∧ (¬ (mi 26 v3.toNatClampNeg) < 2000 → ((3000 ≤ (mi 26 v3.toNatClampNeg) → ((v4 ≤ 0 → Q 0 mi ml z) ∧ (¬ v4 ≤ 0 → (vp_in (v4 - 1) 64) ∧ Q (mi 16 ((v4 - 1).toNatClampNeg)) mi ml z))) ∧ (¬ 3000 ≤ (mi 26 v3.toNatClampNeg) → Ev l (h + 1) m_Lw_value 14 ([.ref 14, .ref 26, .retAddr 0, .int ((mi 26 v3.toNatClampNeg) - 2000), .int v4, .int (v5 + 1), .retAddr 0], [], st mi ml z) (qI Q)))))) ∧ (¬ v4 ≤ 0 → (vp_in (v4 + (-1)) 64) ∧ ((¬ (mi 16 ((v4 + (-1)).toNatClampNeg)) = 0 → Ev l (h + 1) m_Lw_value 14 ([.ref 14, .ref 26, .retAddr 0, .int (v3 + 1), .int (v4 + (-1)), .int (v5 + 1), .retAddr 0], [], st mi ml z) (qI Q)) ∧ ((mi 16 ((v4 + (-1)).toNatClampNeg)) = 0 → Ev l (h + 1) m_Lw_value 14 ([.ref 14, .ref 26, .retAddr 0, .int ((mi 26 v3.toNatClampNeg) - 3000), .int (v4 + (-1)), .int (v5 + 1), .retAddr 0], [], st mi ml z) (qI Q)))))))))) ∧ ((mi 26 v3.toNatClampNeg) = 5000 → ((v4 ≤ 0 → (((mi 26 v3.toNatClampNeg) < 3000 → (((mi 26 v3.toNatClampNeg) < 2000 → ((v4 ≤ 0 → Q 0 mi ml z) ∧ (¬ v4 ≤ 0 → (vp_in (v4 - 1) 64) ∧ Q (mi 16 ((v4 - 1).toNatClampNeg)) mi ml z))) ∧ (¬ (mi 26 v3.toNatClampNeg) < 2000 → ((3000 ≤ (mi 26 v3.toNatClampNeg) → ((v4 ≤ 0 → Q 0 mi ml z) ∧ (¬ v4 ≤ 0 → (vp_in (v4 - 1) 64) ∧ Q (mi 16 ((v4 - 1).toNatClampNeg)) mi ml z))) ∧ (¬ 3000 ≤ (mi 26 v3.toNatClampNeg) → Ev l (h + 1) m_Lw_value 14 ([.ref 14, .ref 26, .retAddr 0, .int ((mi 26 v3.toNatClampNeg) - 2000), .int v4, .int (v5 + 1), .retAddr 0], [], st mi ml z) (qI Q)))))) ∧ (¬ (mi 26 v3.toNatClampNeg) < 3000 → ((4000 ≤ (mi 26 v3.toNatClampNeg) → (((mi 26 v3.toNatClampNeg) < 2000 → ((v4 ≤ 0 → Q 0 mi ml z) ∧ (¬ v4 ≤ 0 → (vp_in (v4 - 1) 64) ∧ Q (mi 16 ((v4 - 1).toNatClampNeg)) mi ml z))) ∧ (¬ (mi 26 v3.toNatClampNeg) < 2000 → ((3000 ≤ (mi 26 v3.toNatClampNeg) → ((v4 ≤ 0 → Q 0 mi ml z) ∧ (¬ v4 ≤ 0 → (vp_in (v4 - 1) 64) ∧ Q (mi 16 ((v4 - 1).toNatClampNeg)) mi ml z))) ∧ (¬ 3000 ≤ (mi 26 v3.toNatClampNeg) → Ev l (h + 1) m_Lw_value 14 ([.ref 14, .ref 26, .retAddr 0, .int ((mi 26 v3.toNatClampNeg) - 2000), .int v4, .int (v5 + 1), .retAddr 0], [], st mi ml z) (qI Q)))))) ∧ (¬ 4000 ≤ (mi 26 v3.toNatClampNeg) → ((v4 ≤ 0 → (((mi 26 v3.toNatClampNeg) < 2000 → ((v4 ≤ 0 → Q 0 mi ml z) ∧ (¬ v4 ≤ 0 → (vp_in (v4 - 1) 64) ∧ Q (mi 16 ((v4 - 1).toNatClampNeg)) mi ml z))) ∧ (¬ (mi 26 v3.toNatClampNeg) < 2000 → ((3000 ≤ (mi 26 v3.toNatClampNeg) → ((v4 ≤ 0 → Q 0 mi ml z) ∧ (¬ v4 ≤ 0 → (vp_in (v4 - 1) 64) ∧ Q (mi 16 ((v4 - 1).toNatClampNeg)) mi ml z))) ∧ (¬ 3000 ≤ (mi 26 v3.toNatClampNeg) → Ev l (h + 1) m_Lw_value 14 ([.ref 14, .ref 26, .retAddr 0, .int ((mi 26 v3.toNatClampNeg) - 2000), .int v4, .int (v5 + 1), .retAddr 0], [], st mi ml z) (qI Q)))))) ∧ (¬ v4 ≤ 0 → (vp_in (v4 + (-1)) 64) ∧ ((¬ (mi 16 ((v4 + (-1)).toNatClampNeg)) = 0 → Ev l (h + 1) m_Lw_value 14 ([.ref 14, .ref 26, .retAddr 0, .int (v3 + 1), .int (v4 + (-1)), .int (v5 + 1), .retAddr 0], [], st mi ml z) (qI Q)) ∧ ((mi 16 ((v4 + (-1)).toNatClampNeg)) = 0 → Ev l (h + 1) m_Lw_value 14 ([.ref 14, .ref 26, .retAddr 0, .int ((mi 26 v3.toNatClampNeg) - 3000), .int (v4 + (-1)), .int (v5 + 1), .retAddr 0], [], st mi ml z) (qI Q)))))))))) ∧ (¬ v4 ≤ 0 → (vp_in (v4 - 1) 64) ∧ (vp_in (v4 - 1) 64) ∧ Ev l (h + 1) m_Lw_value 14 ([.ref 14, .ref 26, .retAddr 0, .int (v3 + 1), .int v4, .int (v5 + 1), .retAddr 0], [], st (up mi 16 ((v4 - 1).toNatClampNeg) (1 - (mi 16 ((v4 - 1).toNatClampNeg)))) ml z) (qI Q)))))) ∧ (¬ v4 ≤ 1 → (vp_in ((v4 + (-1)) - 1) 64) ∧ (vp_in (v4 + (-1)) 64) ∧ CI l h m_Lw_joined [.int (mi 26 v3.toNatClampNeg), .int (mi 16 (((v4 + (-1)) - 1).toNatClampNeg)), .int (mi 16 ((v4 + (-1)).toNatClampNeg))] mi ml z (fun x220 mi220 ml220 z220 => (vp_in ((v4 + (-1)) - 1) 64) ∧ Ev l (h + 1) m_Lw_value 14 ([.ref 14, .ref 26, .retAddr 0, .int (v3 + 1), .int (v4 + (-1)), .int (v5 + 1), .retAddr 0], [], st (up mi220 16 (((v4 + (-1)) - 1).toNatClampNeg) x220) ml220 z220) (qI Q))))))) ∧ (¬ 64 ≤ v4 → ((1000 ≤ (mi 26 v3.toNatClampNeg) → CI l h m_Lw_valueOf [.ref 14, .int ((mi 26 v3.toNatClampNeg) - 1000)] mi ml z (fun x223 mi223 ml223 z223 => (vp_in v4 64) ∧ Ev l (h + 1) m_Lw_value 14 ([.ref 14, .ref 26, .retAddr 0, .int (v3 + 1), .int (v4 + 1), .int (v5 + 1), .retAddr 0], [], st (up mi223 16 v4.toNatClampNeg x223) ml223 z223) (qI Q))) ∧ (¬ 1000 ≤ (mi 26 v3.toNatClampNeg) → (vp_in v4 64) ∧ Ev l (h + 1) m_Lw_value 14 ([.ref 14, .ref 26, .retAddr 0, .int (v3 + 1), .int (v4 + 1), .int (v5 + 1), .retAddr 0], [], st (up mi 16 v4.toNatClampNeg (mi 26 v3.toNatClampNeg)) ml z) (qI Q)))))))))))) : Ev l (h + 1) m_Lw_value 14 ([.ref 14, .ref 26, .retAddr 0, .int v3, .int v4, .int v5, .retAddr 0], [], st mi ml z) (qI Q) := by
  refine ev_iload rfl (a_dec_at dc_Lw_value 10 rfl) ?_
  refine ev_sipush (v := 900) rfl (a_dec_at dc_Lw_value 11 rfl) ?_
  refine ev_icmp_ge (tgt := 250) (a_dec_at dc_Lw_value 12 rfl) (by decide) (fun b1 => ?_) (fun b1 => ?_)
  · have H := H.1 b1
    refine ev_iload rfl (a_dec_at dc_Lw_value 123 rfl) ?_
    refine ev_if_le (tgt := 267) (a_dec_at dc_Lw_value 124 rfl) (by decide) (fun b2 => ?_) (fun b2 => ?_)
    · have H := H.1 b2
      refine ev_iconst (v := 0) rfl (a_dec_at dc_Lw_value 132 rfl) ?_
      exact m_retI (a_dec_at dc_Lw_value 133 rfl) rfl rfl H
    · have H := H.2 b2
      refine ev_aload_n (i := 0) rfl rfl (a_dec_at dc_Lw_value 125 rfl) ?_
      refine m_getR (y := 16) fl_Lw_15 rfl sh14 (mr_14_1 _) (by decide) (a_dec_at dc_Lw_value 126 rfl) ?_
      refine ev_iload rfl (a_dec_at dc_Lw_value 127 rfl) ?_
      refine ev_iconst (v := 1) rfl (a_dec_at dc_Lw_value 128 rfl) ?_
      refine ev_isub (a_dec_at dc_Lw_value 129 rfl) ?_
      obtain ⟨c3, H⟩ := H
      refine w_iald (k := (v4 - 1).toNatClampNeg) sh16 c3 rfl (a_dec_at dc_Lw_value 130 rfl) ?_
      refine ev_goto (tgt := 268) (a_dec_at dc_Lw_value 131 rfl) (by decide) ?_
      exact m_retI (a_dec_at dc_Lw_value 133 rfl) rfl rfl H
  · have H := H.2 b1
    refine ev_iload_n (i := 3) rfl rfl (a_dec_at dc_Lw_value 13 rfl) ?_
    refine ev_aload_n (i := 1) rfl rfl (a_dec_at dc_Lw_value 14 rfl) ?_
    refine m_alen (by decide) sh26 (a_dec_at dc_Lw_value 15 rfl) ?_
    refine ev_icmp_ge (tgt := 250) (a_dec_at dc_Lw_value 16 rfl) (by decide) (fun b4 => ?_) (fun b4 => ?_)
    · have H := H.1 b4
      refine ev_iload rfl (a_dec_at dc_Lw_value 123 rfl) ?_
      refine ev_if_le (tgt := 267) (a_dec_at dc_Lw_value 124 rfl) (by decide) (fun b5 => ?_) (fun b5 => ?_)
      · have H := H.1 b5
        refine ev_iconst (v := 0) rfl (a_dec_at dc_Lw_value 132 rfl) ?_
        exact m_retI (a_dec_at dc_Lw_value 133 rfl) rfl rfl H
      · have H := H.2 b5
        refine ev_aload_n (i := 0) rfl rfl (a_dec_at dc_Lw_value 125 rfl) ?_
        refine m_getR (y := 16) fl_Lw_15 rfl sh14 (mr_14_1 _) (by decide) (a_dec_at dc_Lw_value 126 rfl) ?_
        refine ev_iload rfl (a_dec_at dc_Lw_value 127 rfl) ?_
        refine ev_iconst (v := 1) rfl (a_dec_at dc_Lw_value 128 rfl) ?_
        refine ev_isub (a_dec_at dc_Lw_value 129 rfl) ?_
        obtain ⟨c6, H⟩ := H
        refine w_iald (k := (v4 - 1).toNatClampNeg) sh16 c6 rfl (a_dec_at dc_Lw_value 130 rfl) ?_
        refine ev_goto (tgt := 268) (a_dec_at dc_Lw_value 131 rfl) (by decide) ?_
        exact m_retI (a_dec_at dc_Lw_value 133 rfl) rfl rfl H
    · have H := H.2 b4
      refine ev_aload_n (i := 1) rfl rfl (a_dec_at dc_Lw_value 17 rfl) ?_
      refine ev_iload_n (i := 3) rfl rfl (a_dec_at dc_Lw_value 18 rfl) ?_
      obtain ⟨c7, H⟩ := H
      refine w_iald (k := v3.toNatClampNeg) sh26 c7 rfl (a_dec_at dc_Lw_value 19 rfl) ?_
      refine ev_istore (by decide) rfl (a_dec_at dc_Lw_value 20 rfl) ?_
      refine ev_iinc (v := 1) rfl rfl (by decide) rfl (a_dec_at dc_Lw_value 21 rfl) ?_
      refine ev_iload rfl (a_dec_at dc_Lw_value 22 rfl) ?_
      refine ev_sipush (v := 2000) rfl (a_dec_at dc_Lw_value 23 rfl) ?_
      refine ev_icmp_ge (tgt := 87) (a_dec_at dc_Lw_value 24 rfl) (by decide) (fun b8 => ?_) (fun b8 => ?_)
      · have H := H.1 b8
        refine ev_iload rfl (a_dec_at dc_Lw_value 44 rfl) ?_
        refine ev_sipush (v := 6000) rfl (a_dec_at dc_Lw_value 45 rfl) ?_
        refine ev_icmp_lt (tgt := 137) (a_dec_at dc_Lw_value 46 rfl) (by decide) (fun b9 => ?_) (fun b9 => ?_)
        · have H := H.1 b9
          refine ev_iload rfl (a_dec_at dc_Lw_value 70 rfl) ?_
          refine ev_sipush (v := 5000) rfl (a_dec_at dc_Lw_value 71 rfl) ?_
          refine ev_icmp_ne (tgt := 173) (a_dec_at dc_Lw_value 72 rfl) (by decide) (fun b10 => ?_) (fun b10 => ?_)
          · have H := H.1 b10
            refine ev_iload rfl (a_dec_at dc_Lw_value 90 rfl) ?_
            refine ev_sipush (v := 3000) rfl (a_dec_at dc_Lw_value 91 rfl) ?_
            refine ev_icmp_lt (tgt := 221) (a_dec_at dc_Lw_value 92 rfl) (by decide) (fun b11 => ?_) (fun b11 => ?_)
            · have H := H.1 b11
              refine ev_iload rfl (a_dec_at dc_Lw_value 111 rfl) ?_
              refine ev_sipush (v := 2000) rfl (a_dec_at dc_Lw_value 112 rfl) ?_
              refine ev_icmp_lt (tgt := 250) (a_dec_at dc_Lw_value 113 rfl) (by decide) (fun b12 => ?_) (fun b12 => ?_)
              · have H := H.1 b12
                refine ev_iload rfl (a_dec_at dc_Lw_value 123 rfl) ?_
                refine ev_if_le (tgt := 267) (a_dec_at dc_Lw_value 124 rfl) (by decide) (fun b13 => ?_) (fun b13 => ?_)
                · have H := H.1 b13
                  refine ev_iconst (v := 0) rfl (a_dec_at dc_Lw_value 132 rfl) ?_
                  exact m_retI (a_dec_at dc_Lw_value 133 rfl) rfl rfl H
                · have H := H.2 b13
                  refine ev_aload_n (i := 0) rfl rfl (a_dec_at dc_Lw_value 125 rfl) ?_
                  refine m_getR (y := 16) fl_Lw_15 rfl sh14 (mr_14_1 _) (by decide) (a_dec_at dc_Lw_value 126 rfl) ?_
                  refine ev_iload rfl (a_dec_at dc_Lw_value 127 rfl) ?_
                  refine ev_iconst (v := 1) rfl (a_dec_at dc_Lw_value 128 rfl) ?_
                  refine ev_isub (a_dec_at dc_Lw_value 129 rfl) ?_
                  obtain ⟨c14, H⟩ := H
                  refine w_iald (k := (v4 - 1).toNatClampNeg) sh16 c14 rfl (a_dec_at dc_Lw_value 130 rfl) ?_
                  refine ev_goto (tgt := 268) (a_dec_at dc_Lw_value 131 rfl) (by decide) ?_
                  exact m_retI (a_dec_at dc_Lw_value 133 rfl) rfl rfl H
              · have H := H.2 b12
                refine ev_iload rfl (a_dec_at dc_Lw_value 114 rfl) ?_
                refine ev_sipush (v := 3000) rfl (a_dec_at dc_Lw_value 115 rfl) ?_
                refine ev_icmp_ge (tgt := 250) (a_dec_at dc_Lw_value 116 rfl) (by decide) (fun b15 => ?_) (fun b15 => ?_)
                · have H := H.1 b15
                  refine ev_iload rfl (a_dec_at dc_Lw_value 123 rfl) ?_
                  refine ev_if_le (tgt := 267) (a_dec_at dc_Lw_value 124 rfl) (by decide) (fun b16 => ?_) (fun b16 => ?_)
                  · have H := H.1 b16
                    refine ev_iconst (v := 0) rfl (a_dec_at dc_Lw_value 132 rfl) ?_
                    exact m_retI (a_dec_at dc_Lw_value 133 rfl) rfl rfl H
                  · have H := H.2 b16
                    refine ev_aload_n (i := 0) rfl rfl (a_dec_at dc_Lw_value 125 rfl) ?_
                    refine m_getR (y := 16) fl_Lw_15 rfl sh14 (mr_14_1 _) (by decide) (a_dec_at dc_Lw_value 126 rfl) ?_
                    refine ev_iload rfl (a_dec_at dc_Lw_value 127 rfl) ?_
                    refine ev_iconst (v := 1) rfl (a_dec_at dc_Lw_value 128 rfl) ?_
                    refine ev_isub (a_dec_at dc_Lw_value 129 rfl) ?_
                    obtain ⟨c17, H⟩ := H
                    refine w_iald (k := (v4 - 1).toNatClampNeg) sh16 c17 rfl (a_dec_at dc_Lw_value 130 rfl) ?_
                    refine ev_goto (tgt := 268) (a_dec_at dc_Lw_value 131 rfl) (by decide) ?_
                    exact m_retI (a_dec_at dc_Lw_value 133 rfl) rfl rfl H
                · have H := H.2 b15
                  refine ev_iload rfl (a_dec_at dc_Lw_value 117 rfl) ?_
                  refine ev_sipush (v := 2000) rfl (a_dec_at dc_Lw_value 118 rfl) ?_
                  refine ev_isub (a_dec_at dc_Lw_value 119 rfl) ?_
                  refine ev_istore_n (i := 3) rfl (by decide) rfl (a_dec_at dc_Lw_value 120 rfl) ?_
                  refine ev_iinc (v := 1) rfl rfl (by decide) rfl (a_dec_at dc_Lw_value 121 rfl) ?_
                  refine ev_goto (tgt := 14) (a_dec_at dc_Lw_value 122 rfl) (by decide) ?_
                  exact Ev.drop (L' := [.ref 14, .ref 26, .retAddr 0, .int ((mi 26 v3.toNatClampNeg) - 2000), .int v4, .int (v5 + 1), .retAddr 0]) (And.intro rfl (And.intro rfl (And.intro rfl (And.intro rfl (And.intro rfl trivial))))) H
            · have H := H.2 b11
              refine ev_iload rfl (a_dec_at dc_Lw_value 93 rfl) ?_
              refine ev_sipush (v := 4000) rfl (a_dec_at dc_Lw_value 94 rfl) ?_
              refine ev_icmp_ge (tgt := 221) (a_dec_at dc_Lw_value 95 rfl) (by decide) (fun b18 => ?_) (fun b18 => ?_)
              · have H := H.1 b18
                refine ev_iload rfl (a_dec_at dc_Lw_value 111 rfl) ?_
                refine ev_sipush (v := 2000) rfl (a_dec_at dc_Lw_value 112 rfl) ?_
                refine ev_icmp_lt (tgt := 250) (a_dec_at dc_Lw_value 113 rfl) (by decide) (fun b19 => ?_) (fun b19 => ?_)
                · have H := H.1 b19
                  refine ev_iload rfl (a_dec_at dc_Lw_value 123 rfl) ?_
                  refine ev_if_le (tgt := 267) (a_dec_at dc_Lw_value 124 rfl) (by decide) (fun b20 => ?_) (fun b20 => ?_)
                  · have H := H.1 b20
                    refine ev_iconst (v := 0) rfl (a_dec_at dc_Lw_value 132 rfl) ?_
                    exact m_retI (a_dec_at dc_Lw_value 133 rfl) rfl rfl H
                  · have H := H.2 b20
                    refine ev_aload_n (i := 0) rfl rfl (a_dec_at dc_Lw_value 125 rfl) ?_
                    refine m_getR (y := 16) fl_Lw_15 rfl sh14 (mr_14_1 _) (by decide) (a_dec_at dc_Lw_value 126 rfl) ?_
                    refine ev_iload rfl (a_dec_at dc_Lw_value 127 rfl) ?_
                    refine ev_iconst (v := 1) rfl (a_dec_at dc_Lw_value 128 rfl) ?_
                    refine ev_isub (a_dec_at dc_Lw_value 129 rfl) ?_
                    obtain ⟨c21, H⟩ := H
                    refine w_iald (k := (v4 - 1).toNatClampNeg) sh16 c21 rfl (a_dec_at dc_Lw_value 130 rfl) ?_
                    refine ev_goto (tgt := 268) (a_dec_at dc_Lw_value 131 rfl) (by decide) ?_
                    exact m_retI (a_dec_at dc_Lw_value 133 rfl) rfl rfl H
                · have H := H.2 b19
                  refine ev_iload rfl (a_dec_at dc_Lw_value 114 rfl) ?_
                  refine ev_sipush (v := 3000) rfl (a_dec_at dc_Lw_value 115 rfl) ?_
                  refine ev_icmp_ge (tgt := 250) (a_dec_at dc_Lw_value 116 rfl) (by decide) (fun b22 => ?_) (fun b22 => ?_)
                  · have H := H.1 b22
                    refine ev_iload rfl (a_dec_at dc_Lw_value 123 rfl) ?_
                    refine ev_if_le (tgt := 267) (a_dec_at dc_Lw_value 124 rfl) (by decide) (fun b23 => ?_) (fun b23 => ?_)
                    · have H := H.1 b23
                      refine ev_iconst (v := 0) rfl (a_dec_at dc_Lw_value 132 rfl) ?_
                      exact m_retI (a_dec_at dc_Lw_value 133 rfl) rfl rfl H
                    · have H := H.2 b23
                      refine ev_aload_n (i := 0) rfl rfl (a_dec_at dc_Lw_value 125 rfl) ?_
                      refine m_getR (y := 16) fl_Lw_15 rfl sh14 (mr_14_1 _) (by decide) (a_dec_at dc_Lw_value 126 rfl) ?_
                      refine ev_iload rfl (a_dec_at dc_Lw_value 127 rfl) ?_
                      refine ev_iconst (v := 1) rfl (a_dec_at dc_Lw_value 128 rfl) ?_
                      refine ev_isub (a_dec_at dc_Lw_value 129 rfl) ?_
                      obtain ⟨c24, H⟩ := H
                      refine w_iald (k := (v4 - 1).toNatClampNeg) sh16 c24 rfl (a_dec_at dc_Lw_value 130 rfl) ?_
                      refine ev_goto (tgt := 268) (a_dec_at dc_Lw_value 131 rfl) (by decide) ?_
                      exact m_retI (a_dec_at dc_Lw_value 133 rfl) rfl rfl H
                  · have H := H.2 b22
                    refine ev_iload rfl (a_dec_at dc_Lw_value 117 rfl) ?_
                    refine ev_sipush (v := 2000) rfl (a_dec_at dc_Lw_value 118 rfl) ?_
                    refine ev_isub (a_dec_at dc_Lw_value 119 rfl) ?_
                    refine ev_istore_n (i := 3) rfl (by decide) rfl (a_dec_at dc_Lw_value 120 rfl) ?_
                    refine ev_iinc (v := 1) rfl rfl (by decide) rfl (a_dec_at dc_Lw_value 121 rfl) ?_
                    refine ev_goto (tgt := 14) (a_dec_at dc_Lw_value 122 rfl) (by decide) ?_
                    exact Ev.drop (L' := [.ref 14, .ref 26, .retAddr 0, .int ((mi 26 v3.toNatClampNeg) - 2000), .int v4, .int (v5 + 1), .retAddr 0]) (And.intro rfl (And.intro rfl (And.intro rfl (And.intro rfl (And.intro rfl trivial))))) H
              · have H := H.2 b18
                refine ev_iload rfl (a_dec_at dc_Lw_value 96 rfl) ?_
                refine ev_if_le (tgt := 221) (a_dec_at dc_Lw_value 97 rfl) (by decide) (fun b25 => ?_) (fun b25 => ?_)
                · have H := H.1 b25
                  refine ev_iload rfl (a_dec_at dc_Lw_value 111 rfl) ?_
                  refine ev_sipush (v := 2000) rfl (a_dec_at dc_Lw_value 112 rfl) ?_
                  refine ev_icmp_lt (tgt := 250) (a_dec_at dc_Lw_value 113 rfl) (by decide) (fun b26 => ?_) (fun b26 => ?_)
                  · have H := H.1 b26
                    refine ev_iload rfl (a_dec_at dc_Lw_value 123 rfl) ?_
                    refine ev_if_le (tgt := 267) (a_dec_at dc_Lw_value 124 rfl) (by decide) (fun b27 => ?_) (fun b27 => ?_)
                    · have H := H.1 b27
                      refine ev_iconst (v := 0) rfl (a_dec_at dc_Lw_value 132 rfl) ?_
                      exact m_retI (a_dec_at dc_Lw_value 133 rfl) rfl rfl H
                    · have H := H.2 b27
                      refine ev_aload_n (i := 0) rfl rfl (a_dec_at dc_Lw_value 125 rfl) ?_
                      refine m_getR (y := 16) fl_Lw_15 rfl sh14 (mr_14_1 _) (by decide) (a_dec_at dc_Lw_value 126 rfl) ?_
                      refine ev_iload rfl (a_dec_at dc_Lw_value 127 rfl) ?_
                      refine ev_iconst (v := 1) rfl (a_dec_at dc_Lw_value 128 rfl) ?_
                      refine ev_isub (a_dec_at dc_Lw_value 129 rfl) ?_
                      obtain ⟨c28, H⟩ := H
                      refine w_iald (k := (v4 - 1).toNatClampNeg) sh16 c28 rfl (a_dec_at dc_Lw_value 130 rfl) ?_
                      refine ev_goto (tgt := 268) (a_dec_at dc_Lw_value 131 rfl) (by decide) ?_
                      exact m_retI (a_dec_at dc_Lw_value 133 rfl) rfl rfl H
                  · have H := H.2 b26
                    refine ev_iload rfl (a_dec_at dc_Lw_value 114 rfl) ?_
                    refine ev_sipush (v := 3000) rfl (a_dec_at dc_Lw_value 115 rfl) ?_
                    refine ev_icmp_ge (tgt := 250) (a_dec_at dc_Lw_value 116 rfl) (by decide) (fun b29 => ?_) (fun b29 => ?_)
                    · have H := H.1 b29
                      refine ev_iload rfl (a_dec_at dc_Lw_value 123 rfl) ?_
                      refine ev_if_le (tgt := 267) (a_dec_at dc_Lw_value 124 rfl) (by decide) (fun b30 => ?_) (fun b30 => ?_)
                      · have H := H.1 b30
                        refine ev_iconst (v := 0) rfl (a_dec_at dc_Lw_value 132 rfl) ?_
                        exact m_retI (a_dec_at dc_Lw_value 133 rfl) rfl rfl H
                      · have H := H.2 b30
                        refine ev_aload_n (i := 0) rfl rfl (a_dec_at dc_Lw_value 125 rfl) ?_
                        refine m_getR (y := 16) fl_Lw_15 rfl sh14 (mr_14_1 _) (by decide) (a_dec_at dc_Lw_value 126 rfl) ?_
                        refine ev_iload rfl (a_dec_at dc_Lw_value 127 rfl) ?_
                        refine ev_iconst (v := 1) rfl (a_dec_at dc_Lw_value 128 rfl) ?_
                        refine ev_isub (a_dec_at dc_Lw_value 129 rfl) ?_
                        obtain ⟨c31, H⟩ := H
                        refine w_iald (k := (v4 - 1).toNatClampNeg) sh16 c31 rfl (a_dec_at dc_Lw_value 130 rfl) ?_
                        refine ev_goto (tgt := 268) (a_dec_at dc_Lw_value 131 rfl) (by decide) ?_
                        exact m_retI (a_dec_at dc_Lw_value 133 rfl) rfl rfl H
                    · have H := H.2 b29
                      refine ev_iload rfl (a_dec_at dc_Lw_value 117 rfl) ?_
                      refine ev_sipush (v := 2000) rfl (a_dec_at dc_Lw_value 118 rfl) ?_
                      refine ev_isub (a_dec_at dc_Lw_value 119 rfl) ?_
                      refine ev_istore_n (i := 3) rfl (by decide) rfl (a_dec_at dc_Lw_value 120 rfl) ?_
                      refine ev_iinc (v := 1) rfl rfl (by decide) rfl (a_dec_at dc_Lw_value 121 rfl) ?_
                      refine ev_goto (tgt := 14) (a_dec_at dc_Lw_value 122 rfl) (by decide) ?_
                      exact Ev.drop (L' := [.ref 14, .ref 26, .retAddr 0, .int ((mi 26 v3.toNatClampNeg) - 2000), .int v4, .int (v5 + 1), .retAddr 0]) (And.intro rfl (And.intro rfl (And.intro rfl (And.intro rfl (And.intro rfl trivial))))) H
                · have H := H.2 b25
                  refine ev_iinc (v := (-1)) rfl rfl (by decide) rfl (a_dec_at dc_Lw_value 98 rfl) ?_
                  refine ev_aload_n (i := 0) rfl rfl (a_dec_at dc_Lw_value 99 rfl) ?_
                  refine m_getR (y := 16) fl_Lw_15 rfl sh14 (mr_14_1 _) (by decide) (a_dec_at dc_Lw_value 100 rfl) ?_
                  refine ev_iload rfl (a_dec_at dc_Lw_value 101 rfl) ?_
                  obtain ⟨c32, H⟩ := H
                  refine w_iald (k := (v4 + (-1)).toNatClampNeg) sh16 c32 rfl (a_dec_at dc_Lw_value 102 rfl) ?_
                  refine ev_if_ne (tgt := 216) (a_dec_at dc_Lw_value 103 rfl) (by decide) (fun b33 => ?_) (fun b33 => ?_)
                  · have H := H.1 b33
                    refine ev_iload_n (i := 3) rfl rfl (a_dec_at dc_Lw_value 108 rfl) ?_
                    refine ev_istore_n (i := 3) rfl (by decide) rfl (a_dec_at dc_Lw_value 109 rfl) ?_
                    refine ev_goto (tgt := 244) (a_dec_at dc_Lw_value 110 rfl) (by decide) ?_
                    refine ev_iinc (v := 1) rfl rfl (by decide) rfl (a_dec_at dc_Lw_value 121 rfl) ?_
                    refine ev_goto (tgt := 14) (a_dec_at dc_Lw_value 122 rfl) (by decide) ?_
                    exact Ev.drop (L' := [.ref 14, .ref 26, .retAddr 0, .int (v3 + 1), .int (v4 + (-1)), .int (v5 + 1), .retAddr 0]) (And.intro rfl (And.intro rfl (And.intro rfl (And.intro rfl (And.intro rfl trivial))))) H
                  · have H := H.2 b33
                    refine ev_iload rfl (a_dec_at dc_Lw_value 104 rfl) ?_
                    refine ev_sipush (v := 3000) rfl (a_dec_at dc_Lw_value 105 rfl) ?_
                    refine ev_isub (a_dec_at dc_Lw_value 106 rfl) ?_
                    refine ev_goto (tgt := 217) (a_dec_at dc_Lw_value 107 rfl) (by decide) ?_
                    refine ev_istore_n (i := 3) rfl (by decide) rfl (a_dec_at dc_Lw_value 109 rfl) ?_
                    refine ev_goto (tgt := 244) (a_dec_at dc_Lw_value 110 rfl) (by decide) ?_
                    refine ev_iinc (v := 1) rfl rfl (by decide) rfl (a_dec_at dc_Lw_value 121 rfl) ?_
                    refine ev_goto (tgt := 14) (a_dec_at dc_Lw_value 122 rfl) (by decide) ?_
                    exact Ev.drop (L' := [.ref 14, .ref 26, .retAddr 0, .int ((mi 26 v3.toNatClampNeg) - 3000), .int (v4 + (-1)), .int (v5 + 1), .retAddr 0]) (And.intro rfl (And.intro rfl (And.intro rfl (And.intro rfl (And.intro rfl trivial))))) H
          · have H := H.2 b10
            refine ev_iload rfl (a_dec_at dc_Lw_value 73 rfl) ?_
            refine ev_if_le (tgt := 173) (a_dec_at dc_Lw_value 74 rfl) (by decide) (fun b34 => ?_) (fun b34 => ?_)
            · have H := H.1 b34
              refine ev_iload rfl (a_dec_at dc_Lw_value 90 rfl) ?_
              refine ev_sipush (v := 3000) rfl (a_dec_at dc_Lw_value 91 rfl) ?_
              refine ev_icmp_lt (tgt := 221) (a_dec_at dc_Lw_value 92 rfl) (by decide) (fun b35 => ?_) (fun b35 => ?_)
              · have H := H.1 b35
                refine ev_iload rfl (a_dec_at dc_Lw_value 111 rfl) ?_
                refine ev_sipush (v := 2000) rfl (a_dec_at dc_Lw_value 112 rfl) ?_
                refine ev_icmp_lt (tgt := 250) (a_dec_at dc_Lw_value 113 rfl) (by decide) (fun b36 => ?_) (fun b36 => ?_)
                · have H := H.1 b36
                  refine ev_iload rfl (a_dec_at dc_Lw_value 123 rfl) ?_
                  refine ev_if_le (tgt := 267) (a_dec_at dc_Lw_value 124 rfl) (by decide) (fun b37 => ?_) (fun b37 => ?_)
                  · have H := H.1 b37
                    refine ev_iconst (v := 0) rfl (a_dec_at dc_Lw_value 132 rfl) ?_
                    exact m_retI (a_dec_at dc_Lw_value 133 rfl) rfl rfl H
                  · have H := H.2 b37
                    refine ev_aload_n (i := 0) rfl rfl (a_dec_at dc_Lw_value 125 rfl) ?_
                    refine m_getR (y := 16) fl_Lw_15 rfl sh14 (mr_14_1 _) (by decide) (a_dec_at dc_Lw_value 126 rfl) ?_
                    refine ev_iload rfl (a_dec_at dc_Lw_value 127 rfl) ?_
                    refine ev_iconst (v := 1) rfl (a_dec_at dc_Lw_value 128 rfl) ?_
                    refine ev_isub (a_dec_at dc_Lw_value 129 rfl) ?_
                    obtain ⟨c38, H⟩ := H
                    refine w_iald (k := (v4 - 1).toNatClampNeg) sh16 c38 rfl (a_dec_at dc_Lw_value 130 rfl) ?_
                    refine ev_goto (tgt := 268) (a_dec_at dc_Lw_value 131 rfl) (by decide) ?_
                    exact m_retI (a_dec_at dc_Lw_value 133 rfl) rfl rfl H
                · have H := H.2 b36
                  refine ev_iload rfl (a_dec_at dc_Lw_value 114 rfl) ?_
                  refine ev_sipush (v := 3000) rfl (a_dec_at dc_Lw_value 115 rfl) ?_
                  refine ev_icmp_ge (tgt := 250) (a_dec_at dc_Lw_value 116 rfl) (by decide) (fun b39 => ?_) (fun b39 => ?_)
                  · have H := H.1 b39
                    refine ev_iload rfl (a_dec_at dc_Lw_value 123 rfl) ?_
                    refine ev_if_le (tgt := 267) (a_dec_at dc_Lw_value 124 rfl) (by decide) (fun b40 => ?_) (fun b40 => ?_)
                    · have H := H.1 b40
                      refine ev_iconst (v := 0) rfl (a_dec_at dc_Lw_value 132 rfl) ?_
                      exact m_retI (a_dec_at dc_Lw_value 133 rfl) rfl rfl H
                    · have H := H.2 b40
                      refine ev_aload_n (i := 0) rfl rfl (a_dec_at dc_Lw_value 125 rfl) ?_
                      refine m_getR (y := 16) fl_Lw_15 rfl sh14 (mr_14_1 _) (by decide) (a_dec_at dc_Lw_value 126 rfl) ?_
                      refine ev_iload rfl (a_dec_at dc_Lw_value 127 rfl) ?_
                      refine ev_iconst (v := 1) rfl (a_dec_at dc_Lw_value 128 rfl) ?_
                      refine ev_isub (a_dec_at dc_Lw_value 129 rfl) ?_
                      obtain ⟨c41, H⟩ := H
                      refine w_iald (k := (v4 - 1).toNatClampNeg) sh16 c41 rfl (a_dec_at dc_Lw_value 130 rfl) ?_
                      refine ev_goto (tgt := 268) (a_dec_at dc_Lw_value 131 rfl) (by decide) ?_
                      exact m_retI (a_dec_at dc_Lw_value 133 rfl) rfl rfl H
                  · have H := H.2 b39
                    refine ev_iload rfl (a_dec_at dc_Lw_value 117 rfl) ?_
                    refine ev_sipush (v := 2000) rfl (a_dec_at dc_Lw_value 118 rfl) ?_
                    refine ev_isub (a_dec_at dc_Lw_value 119 rfl) ?_
                    refine ev_istore_n (i := 3) rfl (by decide) rfl (a_dec_at dc_Lw_value 120 rfl) ?_
                    refine ev_iinc (v := 1) rfl rfl (by decide) rfl (a_dec_at dc_Lw_value 121 rfl) ?_
                    refine ev_goto (tgt := 14) (a_dec_at dc_Lw_value 122 rfl) (by decide) ?_
                    exact Ev.drop (L' := [.ref 14, .ref 26, .retAddr 0, .int ((mi 26 v3.toNatClampNeg) - 2000), .int v4, .int (v5 + 1), .retAddr 0]) (And.intro rfl (And.intro rfl (And.intro rfl (And.intro rfl (And.intro rfl trivial))))) H
              · have H := H.2 b35
                refine ev_iload rfl (a_dec_at dc_Lw_value 93 rfl) ?_
                refine ev_sipush (v := 4000) rfl (a_dec_at dc_Lw_value 94 rfl) ?_
                refine ev_icmp_ge (tgt := 221) (a_dec_at dc_Lw_value 95 rfl) (by decide) (fun b42 => ?_) (fun b42 => ?_)
                · have H := H.1 b42
                  refine ev_iload rfl (a_dec_at dc_Lw_value 111 rfl) ?_
                  refine ev_sipush (v := 2000) rfl (a_dec_at dc_Lw_value 112 rfl) ?_
                  refine ev_icmp_lt (tgt := 250) (a_dec_at dc_Lw_value 113 rfl) (by decide) (fun b43 => ?_) (fun b43 => ?_)
                  · have H := H.1 b43
                    refine ev_iload rfl (a_dec_at dc_Lw_value 123 rfl) ?_
                    refine ev_if_le (tgt := 267) (a_dec_at dc_Lw_value 124 rfl) (by decide) (fun b44 => ?_) (fun b44 => ?_)
                    · have H := H.1 b44
                      refine ev_iconst (v := 0) rfl (a_dec_at dc_Lw_value 132 rfl) ?_
                      exact m_retI (a_dec_at dc_Lw_value 133 rfl) rfl rfl H
                    · have H := H.2 b44
                      refine ev_aload_n (i := 0) rfl rfl (a_dec_at dc_Lw_value 125 rfl) ?_
                      refine m_getR (y := 16) fl_Lw_15 rfl sh14 (mr_14_1 _) (by decide) (a_dec_at dc_Lw_value 126 rfl) ?_
                      refine ev_iload rfl (a_dec_at dc_Lw_value 127 rfl) ?_
                      refine ev_iconst (v := 1) rfl (a_dec_at dc_Lw_value 128 rfl) ?_
                      refine ev_isub (a_dec_at dc_Lw_value 129 rfl) ?_
                      obtain ⟨c45, H⟩ := H
                      refine w_iald (k := (v4 - 1).toNatClampNeg) sh16 c45 rfl (a_dec_at dc_Lw_value 130 rfl) ?_
                      refine ev_goto (tgt := 268) (a_dec_at dc_Lw_value 131 rfl) (by decide) ?_
                      exact m_retI (a_dec_at dc_Lw_value 133 rfl) rfl rfl H
                  · have H := H.2 b43
                    refine ev_iload rfl (a_dec_at dc_Lw_value 114 rfl) ?_
                    refine ev_sipush (v := 3000) rfl (a_dec_at dc_Lw_value 115 rfl) ?_
                    refine ev_icmp_ge (tgt := 250) (a_dec_at dc_Lw_value 116 rfl) (by decide) (fun b46 => ?_) (fun b46 => ?_)
                    · have H := H.1 b46
                      refine ev_iload rfl (a_dec_at dc_Lw_value 123 rfl) ?_
                      refine ev_if_le (tgt := 267) (a_dec_at dc_Lw_value 124 rfl) (by decide) (fun b47 => ?_) (fun b47 => ?_)
                      · have H := H.1 b47
                        refine ev_iconst (v := 0) rfl (a_dec_at dc_Lw_value 132 rfl) ?_
                        exact m_retI (a_dec_at dc_Lw_value 133 rfl) rfl rfl H
                      · have H := H.2 b47
                        refine ev_aload_n (i := 0) rfl rfl (a_dec_at dc_Lw_value 125 rfl) ?_
                        refine m_getR (y := 16) fl_Lw_15 rfl sh14 (mr_14_1 _) (by decide) (a_dec_at dc_Lw_value 126 rfl) ?_
                        refine ev_iload rfl (a_dec_at dc_Lw_value 127 rfl) ?_
                        refine ev_iconst (v := 1) rfl (a_dec_at dc_Lw_value 128 rfl) ?_
                        refine ev_isub (a_dec_at dc_Lw_value 129 rfl) ?_
                        obtain ⟨c48, H⟩ := H
                        refine w_iald (k := (v4 - 1).toNatClampNeg) sh16 c48 rfl (a_dec_at dc_Lw_value 130 rfl) ?_
                        refine ev_goto (tgt := 268) (a_dec_at dc_Lw_value 131 rfl) (by decide) ?_
                        exact m_retI (a_dec_at dc_Lw_value 133 rfl) rfl rfl H
                    · have H := H.2 b46
                      refine ev_iload rfl (a_dec_at dc_Lw_value 117 rfl) ?_
                      refine ev_sipush (v := 2000) rfl (a_dec_at dc_Lw_value 118 rfl) ?_
                      refine ev_isub (a_dec_at dc_Lw_value 119 rfl) ?_
                      refine ev_istore_n (i := 3) rfl (by decide) rfl (a_dec_at dc_Lw_value 120 rfl) ?_
                      refine ev_iinc (v := 1) rfl rfl (by decide) rfl (a_dec_at dc_Lw_value 121 rfl) ?_
                      refine ev_goto (tgt := 14) (a_dec_at dc_Lw_value 122 rfl) (by decide) ?_
                      exact Ev.drop (L' := [.ref 14, .ref 26, .retAddr 0, .int ((mi 26 v3.toNatClampNeg) - 2000), .int v4, .int (v5 + 1), .retAddr 0]) (And.intro rfl (And.intro rfl (And.intro rfl (And.intro rfl (And.intro rfl trivial))))) H
                · have H := H.2 b42
                  refine ev_iload rfl (a_dec_at dc_Lw_value 96 rfl) ?_
                  refine ev_if_le (tgt := 221) (a_dec_at dc_Lw_value 97 rfl) (by decide) (fun b49 => ?_) (fun b49 => ?_)
                  · have H := H.1 b49
                    refine ev_iload rfl (a_dec_at dc_Lw_value 111 rfl) ?_
                    refine ev_sipush (v := 2000) rfl (a_dec_at dc_Lw_value 112 rfl) ?_
                    refine ev_icmp_lt (tgt := 250) (a_dec_at dc_Lw_value 113 rfl) (by decide) (fun b50 => ?_) (fun b50 => ?_)
                    · have H := H.1 b50
                      refine ev_iload rfl (a_dec_at dc_Lw_value 123 rfl) ?_
                      refine ev_if_le (tgt := 267) (a_dec_at dc_Lw_value 124 rfl) (by decide) (fun b51 => ?_) (fun b51 => ?_)
                      · have H := H.1 b51
                        refine ev_iconst (v := 0) rfl (a_dec_at dc_Lw_value 132 rfl) ?_
                        exact m_retI (a_dec_at dc_Lw_value 133 rfl) rfl rfl H
                      · have H := H.2 b51
                        refine ev_aload_n (i := 0) rfl rfl (a_dec_at dc_Lw_value 125 rfl) ?_
                        refine m_getR (y := 16) fl_Lw_15 rfl sh14 (mr_14_1 _) (by decide) (a_dec_at dc_Lw_value 126 rfl) ?_
                        refine ev_iload rfl (a_dec_at dc_Lw_value 127 rfl) ?_
                        refine ev_iconst (v := 1) rfl (a_dec_at dc_Lw_value 128 rfl) ?_
                        refine ev_isub (a_dec_at dc_Lw_value 129 rfl) ?_
                        obtain ⟨c52, H⟩ := H
                        refine w_iald (k := (v4 - 1).toNatClampNeg) sh16 c52 rfl (a_dec_at dc_Lw_value 130 rfl) ?_
                        refine ev_goto (tgt := 268) (a_dec_at dc_Lw_value 131 rfl) (by decide) ?_
                        exact m_retI (a_dec_at dc_Lw_value 133 rfl) rfl rfl H
                    · have H := H.2 b50
                      refine ev_iload rfl (a_dec_at dc_Lw_value 114 rfl) ?_
                      refine ev_sipush (v := 3000) rfl (a_dec_at dc_Lw_value 115 rfl) ?_
                      refine ev_icmp_ge (tgt := 250) (a_dec_at dc_Lw_value 116 rfl) (by decide) (fun b53 => ?_) (fun b53 => ?_)
                      · have H := H.1 b53
                        refine ev_iload rfl (a_dec_at dc_Lw_value 123 rfl) ?_
                        refine ev_if_le (tgt := 267) (a_dec_at dc_Lw_value 124 rfl) (by decide) (fun b54 => ?_) (fun b54 => ?_)
                        · have H := H.1 b54
                          refine ev_iconst (v := 0) rfl (a_dec_at dc_Lw_value 132 rfl) ?_
                          exact m_retI (a_dec_at dc_Lw_value 133 rfl) rfl rfl H
                        · have H := H.2 b54
                          refine ev_aload_n (i := 0) rfl rfl (a_dec_at dc_Lw_value 125 rfl) ?_
                          refine m_getR (y := 16) fl_Lw_15 rfl sh14 (mr_14_1 _) (by decide) (a_dec_at dc_Lw_value 126 rfl) ?_
                          refine ev_iload rfl (a_dec_at dc_Lw_value 127 rfl) ?_
                          refine ev_iconst (v := 1) rfl (a_dec_at dc_Lw_value 128 rfl) ?_
                          refine ev_isub (a_dec_at dc_Lw_value 129 rfl) ?_
                          obtain ⟨c55, H⟩ := H
                          refine w_iald (k := (v4 - 1).toNatClampNeg) sh16 c55 rfl (a_dec_at dc_Lw_value 130 rfl) ?_
                          refine ev_goto (tgt := 268) (a_dec_at dc_Lw_value 131 rfl) (by decide) ?_
                          exact m_retI (a_dec_at dc_Lw_value 133 rfl) rfl rfl H
                      · have H := H.2 b53
                        refine ev_iload rfl (a_dec_at dc_Lw_value 117 rfl) ?_
                        refine ev_sipush (v := 2000) rfl (a_dec_at dc_Lw_value 118 rfl) ?_
                        refine ev_isub (a_dec_at dc_Lw_value 119 rfl) ?_
                        refine ev_istore_n (i := 3) rfl (by decide) rfl (a_dec_at dc_Lw_value 120 rfl) ?_
                        refine ev_iinc (v := 1) rfl rfl (by decide) rfl (a_dec_at dc_Lw_value 121 rfl) ?_
                        refine ev_goto (tgt := 14) (a_dec_at dc_Lw_value 122 rfl) (by decide) ?_
                        exact Ev.drop (L' := [.ref 14, .ref 26, .retAddr 0, .int ((mi 26 v3.toNatClampNeg) - 2000), .int v4, .int (v5 + 1), .retAddr 0]) (And.intro rfl (And.intro rfl (And.intro rfl (And.intro rfl (And.intro rfl trivial))))) H
                  · have H := H.2 b49
                    refine ev_iinc (v := (-1)) rfl rfl (by decide) rfl (a_dec_at dc_Lw_value 98 rfl) ?_
                    refine ev_aload_n (i := 0) rfl rfl (a_dec_at dc_Lw_value 99 rfl) ?_
                    refine m_getR (y := 16) fl_Lw_15 rfl sh14 (mr_14_1 _) (by decide) (a_dec_at dc_Lw_value 100 rfl) ?_
                    refine ev_iload rfl (a_dec_at dc_Lw_value 101 rfl) ?_
                    obtain ⟨c56, H⟩ := H
                    refine w_iald (k := (v4 + (-1)).toNatClampNeg) sh16 c56 rfl (a_dec_at dc_Lw_value 102 rfl) ?_
                    refine ev_if_ne (tgt := 216) (a_dec_at dc_Lw_value 103 rfl) (by decide) (fun b57 => ?_) (fun b57 => ?_)
                    · have H := H.1 b57
                      refine ev_iload_n (i := 3) rfl rfl (a_dec_at dc_Lw_value 108 rfl) ?_
                      refine ev_istore_n (i := 3) rfl (by decide) rfl (a_dec_at dc_Lw_value 109 rfl) ?_
                      refine ev_goto (tgt := 244) (a_dec_at dc_Lw_value 110 rfl) (by decide) ?_
                      refine ev_iinc (v := 1) rfl rfl (by decide) rfl (a_dec_at dc_Lw_value 121 rfl) ?_
                      refine ev_goto (tgt := 14) (a_dec_at dc_Lw_value 122 rfl) (by decide) ?_
                      exact Ev.drop (L' := [.ref 14, .ref 26, .retAddr 0, .int (v3 + 1), .int (v4 + (-1)), .int (v5 + 1), .retAddr 0]) (And.intro rfl (And.intro rfl (And.intro rfl (And.intro rfl (And.intro rfl trivial))))) H
                    · have H := H.2 b57
                      refine ev_iload rfl (a_dec_at dc_Lw_value 104 rfl) ?_
                      refine ev_sipush (v := 3000) rfl (a_dec_at dc_Lw_value 105 rfl) ?_
                      refine ev_isub (a_dec_at dc_Lw_value 106 rfl) ?_
                      refine ev_goto (tgt := 217) (a_dec_at dc_Lw_value 107 rfl) (by decide) ?_
                      refine ev_istore_n (i := 3) rfl (by decide) rfl (a_dec_at dc_Lw_value 109 rfl) ?_
                      refine ev_goto (tgt := 244) (a_dec_at dc_Lw_value 110 rfl) (by decide) ?_
                      refine ev_iinc (v := 1) rfl rfl (by decide) rfl (a_dec_at dc_Lw_value 121 rfl) ?_
                      refine ev_goto (tgt := 14) (a_dec_at dc_Lw_value 122 rfl) (by decide) ?_
                      exact Ev.drop (L' := [.ref 14, .ref 26, .retAddr 0, .int ((mi 26 v3.toNatClampNeg) - 3000), .int (v4 + (-1)), .int (v5 + 1), .retAddr 0]) (And.intro rfl (And.intro rfl (And.intro rfl (And.intro rfl (And.intro rfl trivial))))) H
            · have H := H.2 b34
              refine ev_aload_n (i := 0) rfl rfl (a_dec_at dc_Lw_value 75 rfl) ?_
              refine m_getR (y := 16) fl_Lw_15 rfl sh14 (mr_14_1 _) (by decide) (a_dec_at dc_Lw_value 76 rfl) ?_
              refine ev_iload rfl (a_dec_at dc_Lw_value 77 rfl) ?_
              refine ev_iconst (v := 1) rfl (a_dec_at dc_Lw_value 78 rfl) ?_
              refine ev_isub (a_dec_at dc_Lw_value 79 rfl) ?_
              refine ev_iconst (v := 1) rfl (a_dec_at dc_Lw_value 80 rfl) ?_
              refine ev_aload_n (i := 0) rfl rfl (a_dec_at dc_Lw_value 81 rfl) ?_
              refine m_getR (y := 16) fl_Lw_15 rfl sh14 (mr_14_1 _) (by decide) (a_dec_at dc_Lw_value 82 rfl) ?_
              refine ev_iload rfl (a_dec_at dc_Lw_value 83 rfl) ?_
              refine ev_iconst (v := 1) rfl (a_dec_at dc_Lw_value 84 rfl) ?_
              refine ev_isub (a_dec_at dc_Lw_value 85 rfl) ?_
              obtain ⟨c58, H⟩ := H
              refine w_iald (k := (v4 - 1).toNatClampNeg) sh16 c58 rfl (a_dec_at dc_Lw_value 86 rfl) ?_
              refine ev_isub (a_dec_at dc_Lw_value 87 rfl) ?_
              obtain ⟨c59, H⟩ := H
              refine w_iast (k := (v4 - 1).toNatClampNeg) sh16 c59 rfl (a_dec_at dc_Lw_value 88 rfl) ?_
              refine ev_goto (tgt := 244) (a_dec_at dc_Lw_value 89 rfl) (by decide) ?_
              refine ev_iinc (v := 1) rfl rfl (by decide) rfl (a_dec_at dc_Lw_value 121 rfl) ?_
              refine ev_goto (tgt := 14) (a_dec_at dc_Lw_value 122 rfl) (by decide) ?_
              exact Ev.drop (L' := [.ref 14, .ref 26, .retAddr 0, .int (v3 + 1), .int v4, .int (v5 + 1), .retAddr 0]) (And.intro rfl (And.intro rfl (And.intro rfl (And.intro rfl (And.intro rfl trivial))))) H
        · have H := H.2 b9
          refine ev_iload rfl (a_dec_at dc_Lw_value 47 rfl) ?_
          refine ev_iconst (v := 1) rfl (a_dec_at dc_Lw_value 48 rfl) ?_
          refine ev_icmp_le (tgt := 137) (a_dec_at dc_Lw_value 49 rfl) (by decide) (fun b60 => ?_) (fun b60 => ?_)
          · have H := H.1 b60
            refine ev_iload rfl (a_dec_at dc_Lw_value 70 rfl) ?_
            refine ev_sipush (v := 5000) rfl (a_dec_at dc_Lw_value 71 rfl) ?_
            refine ev_icmp_ne (tgt := 173) (a_dec_at dc_Lw_value 72 rfl) (by decide) (fun b61 => ?_) (fun b61 => ?_)
            · have H := H.1 b61
              refine ev_iload rfl (a_dec_at dc_Lw_value 90 rfl) ?_
              refine ev_sipush (v := 3000) rfl (a_dec_at dc_Lw_value 91 rfl) ?_
              refine ev_icmp_lt (tgt := 221) (a_dec_at dc_Lw_value 92 rfl) (by decide) (fun b62 => ?_) (fun b62 => ?_)
              · have H := H.1 b62
                refine ev_iload rfl (a_dec_at dc_Lw_value 111 rfl) ?_
                refine ev_sipush (v := 2000) rfl (a_dec_at dc_Lw_value 112 rfl) ?_
                refine ev_icmp_lt (tgt := 250) (a_dec_at dc_Lw_value 113 rfl) (by decide) (fun b63 => ?_) (fun b63 => ?_)
                · have H := H.1 b63
                  refine ev_iload rfl (a_dec_at dc_Lw_value 123 rfl) ?_
                  refine ev_if_le (tgt := 267) (a_dec_at dc_Lw_value 124 rfl) (by decide) (fun b64 => ?_) (fun b64 => ?_)
                  · have H := H.1 b64
                    refine ev_iconst (v := 0) rfl (a_dec_at dc_Lw_value 132 rfl) ?_
                    exact m_retI (a_dec_at dc_Lw_value 133 rfl) rfl rfl H
                  · have H := H.2 b64
                    refine ev_aload_n (i := 0) rfl rfl (a_dec_at dc_Lw_value 125 rfl) ?_
                    refine m_getR (y := 16) fl_Lw_15 rfl sh14 (mr_14_1 _) (by decide) (a_dec_at dc_Lw_value 126 rfl) ?_
                    refine ev_iload rfl (a_dec_at dc_Lw_value 127 rfl) ?_
                    refine ev_iconst (v := 1) rfl (a_dec_at dc_Lw_value 128 rfl) ?_
                    refine ev_isub (a_dec_at dc_Lw_value 129 rfl) ?_
                    obtain ⟨c65, H⟩ := H
                    refine w_iald (k := (v4 - 1).toNatClampNeg) sh16 c65 rfl (a_dec_at dc_Lw_value 130 rfl) ?_
                    refine ev_goto (tgt := 268) (a_dec_at dc_Lw_value 131 rfl) (by decide) ?_
                    exact m_retI (a_dec_at dc_Lw_value 133 rfl) rfl rfl H
                · have H := H.2 b63
                  refine ev_iload rfl (a_dec_at dc_Lw_value 114 rfl) ?_
                  refine ev_sipush (v := 3000) rfl (a_dec_at dc_Lw_value 115 rfl) ?_
                  refine ev_icmp_ge (tgt := 250) (a_dec_at dc_Lw_value 116 rfl) (by decide) (fun b66 => ?_) (fun b66 => ?_)
                  · have H := H.1 b66
                    refine ev_iload rfl (a_dec_at dc_Lw_value 123 rfl) ?_
                    refine ev_if_le (tgt := 267) (a_dec_at dc_Lw_value 124 rfl) (by decide) (fun b67 => ?_) (fun b67 => ?_)
                    · have H := H.1 b67
                      refine ev_iconst (v := 0) rfl (a_dec_at dc_Lw_value 132 rfl) ?_
                      exact m_retI (a_dec_at dc_Lw_value 133 rfl) rfl rfl H
                    · have H := H.2 b67
                      refine ev_aload_n (i := 0) rfl rfl (a_dec_at dc_Lw_value 125 rfl) ?_
                      refine m_getR (y := 16) fl_Lw_15 rfl sh14 (mr_14_1 _) (by decide) (a_dec_at dc_Lw_value 126 rfl) ?_
                      refine ev_iload rfl (a_dec_at dc_Lw_value 127 rfl) ?_
                      refine ev_iconst (v := 1) rfl (a_dec_at dc_Lw_value 128 rfl) ?_
                      refine ev_isub (a_dec_at dc_Lw_value 129 rfl) ?_
                      obtain ⟨c68, H⟩ := H
                      refine w_iald (k := (v4 - 1).toNatClampNeg) sh16 c68 rfl (a_dec_at dc_Lw_value 130 rfl) ?_
                      refine ev_goto (tgt := 268) (a_dec_at dc_Lw_value 131 rfl) (by decide) ?_
                      exact m_retI (a_dec_at dc_Lw_value 133 rfl) rfl rfl H
                  · have H := H.2 b66
                    refine ev_iload rfl (a_dec_at dc_Lw_value 117 rfl) ?_
                    refine ev_sipush (v := 2000) rfl (a_dec_at dc_Lw_value 118 rfl) ?_
                    refine ev_isub (a_dec_at dc_Lw_value 119 rfl) ?_
                    refine ev_istore_n (i := 3) rfl (by decide) rfl (a_dec_at dc_Lw_value 120 rfl) ?_
                    refine ev_iinc (v := 1) rfl rfl (by decide) rfl (a_dec_at dc_Lw_value 121 rfl) ?_
                    refine ev_goto (tgt := 14) (a_dec_at dc_Lw_value 122 rfl) (by decide) ?_
                    exact Ev.drop (L' := [.ref 14, .ref 26, .retAddr 0, .int ((mi 26 v3.toNatClampNeg) - 2000), .int v4, .int (v5 + 1), .retAddr 0]) (And.intro rfl (And.intro rfl (And.intro rfl (And.intro rfl (And.intro rfl trivial))))) H
              · have H := H.2 b62
                refine ev_iload rfl (a_dec_at dc_Lw_value 93 rfl) ?_
                refine ev_sipush (v := 4000) rfl (a_dec_at dc_Lw_value 94 rfl) ?_
                refine ev_icmp_ge (tgt := 221) (a_dec_at dc_Lw_value 95 rfl) (by decide) (fun b69 => ?_) (fun b69 => ?_)
                · have H := H.1 b69
                  refine ev_iload rfl (a_dec_at dc_Lw_value 111 rfl) ?_
                  refine ev_sipush (v := 2000) rfl (a_dec_at dc_Lw_value 112 rfl) ?_
                  refine ev_icmp_lt (tgt := 250) (a_dec_at dc_Lw_value 113 rfl) (by decide) (fun b70 => ?_) (fun b70 => ?_)
                  · have H := H.1 b70
                    refine ev_iload rfl (a_dec_at dc_Lw_value 123 rfl) ?_
                    refine ev_if_le (tgt := 267) (a_dec_at dc_Lw_value 124 rfl) (by decide) (fun b71 => ?_) (fun b71 => ?_)
                    · have H := H.1 b71
                      refine ev_iconst (v := 0) rfl (a_dec_at dc_Lw_value 132 rfl) ?_
                      exact m_retI (a_dec_at dc_Lw_value 133 rfl) rfl rfl H
                    · have H := H.2 b71
                      refine ev_aload_n (i := 0) rfl rfl (a_dec_at dc_Lw_value 125 rfl) ?_
                      refine m_getR (y := 16) fl_Lw_15 rfl sh14 (mr_14_1 _) (by decide) (a_dec_at dc_Lw_value 126 rfl) ?_
                      refine ev_iload rfl (a_dec_at dc_Lw_value 127 rfl) ?_
                      refine ev_iconst (v := 1) rfl (a_dec_at dc_Lw_value 128 rfl) ?_
                      refine ev_isub (a_dec_at dc_Lw_value 129 rfl) ?_
                      obtain ⟨c72, H⟩ := H
                      refine w_iald (k := (v4 - 1).toNatClampNeg) sh16 c72 rfl (a_dec_at dc_Lw_value 130 rfl) ?_
                      refine ev_goto (tgt := 268) (a_dec_at dc_Lw_value 131 rfl) (by decide) ?_
                      exact m_retI (a_dec_at dc_Lw_value 133 rfl) rfl rfl H
                  · have H := H.2 b70
                    refine ev_iload rfl (a_dec_at dc_Lw_value 114 rfl) ?_
                    refine ev_sipush (v := 3000) rfl (a_dec_at dc_Lw_value 115 rfl) ?_
                    refine ev_icmp_ge (tgt := 250) (a_dec_at dc_Lw_value 116 rfl) (by decide) (fun b73 => ?_) (fun b73 => ?_)
                    · have H := H.1 b73
                      refine ev_iload rfl (a_dec_at dc_Lw_value 123 rfl) ?_
                      refine ev_if_le (tgt := 267) (a_dec_at dc_Lw_value 124 rfl) (by decide) (fun b74 => ?_) (fun b74 => ?_)
                      · have H := H.1 b74
                        refine ev_iconst (v := 0) rfl (a_dec_at dc_Lw_value 132 rfl) ?_
                        exact m_retI (a_dec_at dc_Lw_value 133 rfl) rfl rfl H
                      · have H := H.2 b74
                        refine ev_aload_n (i := 0) rfl rfl (a_dec_at dc_Lw_value 125 rfl) ?_
                        refine m_getR (y := 16) fl_Lw_15 rfl sh14 (mr_14_1 _) (by decide) (a_dec_at dc_Lw_value 126 rfl) ?_
                        refine ev_iload rfl (a_dec_at dc_Lw_value 127 rfl) ?_
                        refine ev_iconst (v := 1) rfl (a_dec_at dc_Lw_value 128 rfl) ?_
                        refine ev_isub (a_dec_at dc_Lw_value 129 rfl) ?_
                        obtain ⟨c75, H⟩ := H
                        refine w_iald (k := (v4 - 1).toNatClampNeg) sh16 c75 rfl (a_dec_at dc_Lw_value 130 rfl) ?_
                        refine ev_goto (tgt := 268) (a_dec_at dc_Lw_value 131 rfl) (by decide) ?_
                        exact m_retI (a_dec_at dc_Lw_value 133 rfl) rfl rfl H
                    · have H := H.2 b73
                      refine ev_iload rfl (a_dec_at dc_Lw_value 117 rfl) ?_
                      refine ev_sipush (v := 2000) rfl (a_dec_at dc_Lw_value 118 rfl) ?_
                      refine ev_isub (a_dec_at dc_Lw_value 119 rfl) ?_
                      refine ev_istore_n (i := 3) rfl (by decide) rfl (a_dec_at dc_Lw_value 120 rfl) ?_
                      refine ev_iinc (v := 1) rfl rfl (by decide) rfl (a_dec_at dc_Lw_value 121 rfl) ?_
                      refine ev_goto (tgt := 14) (a_dec_at dc_Lw_value 122 rfl) (by decide) ?_
                      exact Ev.drop (L' := [.ref 14, .ref 26, .retAddr 0, .int ((mi 26 v3.toNatClampNeg) - 2000), .int v4, .int (v5 + 1), .retAddr 0]) (And.intro rfl (And.intro rfl (And.intro rfl (And.intro rfl (And.intro rfl trivial))))) H
                · have H := H.2 b69
                  refine ev_iload rfl (a_dec_at dc_Lw_value 96 rfl) ?_
                  refine ev_if_le (tgt := 221) (a_dec_at dc_Lw_value 97 rfl) (by decide) (fun b76 => ?_) (fun b76 => ?_)
                  · have H := H.1 b76
                    refine ev_iload rfl (a_dec_at dc_Lw_value 111 rfl) ?_
                    refine ev_sipush (v := 2000) rfl (a_dec_at dc_Lw_value 112 rfl) ?_
                    refine ev_icmp_lt (tgt := 250) (a_dec_at dc_Lw_value 113 rfl) (by decide) (fun b77 => ?_) (fun b77 => ?_)
                    · have H := H.1 b77
                      refine ev_iload rfl (a_dec_at dc_Lw_value 123 rfl) ?_
                      refine ev_if_le (tgt := 267) (a_dec_at dc_Lw_value 124 rfl) (by decide) (fun b78 => ?_) (fun b78 => ?_)
                      · have H := H.1 b78
                        refine ev_iconst (v := 0) rfl (a_dec_at dc_Lw_value 132 rfl) ?_
                        exact m_retI (a_dec_at dc_Lw_value 133 rfl) rfl rfl H
                      · have H := H.2 b78
                        refine ev_aload_n (i := 0) rfl rfl (a_dec_at dc_Lw_value 125 rfl) ?_
                        refine m_getR (y := 16) fl_Lw_15 rfl sh14 (mr_14_1 _) (by decide) (a_dec_at dc_Lw_value 126 rfl) ?_
                        refine ev_iload rfl (a_dec_at dc_Lw_value 127 rfl) ?_
                        refine ev_iconst (v := 1) rfl (a_dec_at dc_Lw_value 128 rfl) ?_
                        refine ev_isub (a_dec_at dc_Lw_value 129 rfl) ?_
                        obtain ⟨c79, H⟩ := H
                        refine w_iald (k := (v4 - 1).toNatClampNeg) sh16 c79 rfl (a_dec_at dc_Lw_value 130 rfl) ?_
                        refine ev_goto (tgt := 268) (a_dec_at dc_Lw_value 131 rfl) (by decide) ?_
                        exact m_retI (a_dec_at dc_Lw_value 133 rfl) rfl rfl H
                    · have H := H.2 b77
                      refine ev_iload rfl (a_dec_at dc_Lw_value 114 rfl) ?_
                      refine ev_sipush (v := 3000) rfl (a_dec_at dc_Lw_value 115 rfl) ?_
                      refine ev_icmp_ge (tgt := 250) (a_dec_at dc_Lw_value 116 rfl) (by decide) (fun b80 => ?_) (fun b80 => ?_)
                      · have H := H.1 b80
                        refine ev_iload rfl (a_dec_at dc_Lw_value 123 rfl) ?_
                        refine ev_if_le (tgt := 267) (a_dec_at dc_Lw_value 124 rfl) (by decide) (fun b81 => ?_) (fun b81 => ?_)
                        · have H := H.1 b81
                          refine ev_iconst (v := 0) rfl (a_dec_at dc_Lw_value 132 rfl) ?_
                          exact m_retI (a_dec_at dc_Lw_value 133 rfl) rfl rfl H
                        · have H := H.2 b81
                          refine ev_aload_n (i := 0) rfl rfl (a_dec_at dc_Lw_value 125 rfl) ?_
                          refine m_getR (y := 16) fl_Lw_15 rfl sh14 (mr_14_1 _) (by decide) (a_dec_at dc_Lw_value 126 rfl) ?_
                          refine ev_iload rfl (a_dec_at dc_Lw_value 127 rfl) ?_
                          refine ev_iconst (v := 1) rfl (a_dec_at dc_Lw_value 128 rfl) ?_
                          refine ev_isub (a_dec_at dc_Lw_value 129 rfl) ?_
                          obtain ⟨c82, H⟩ := H
                          refine w_iald (k := (v4 - 1).toNatClampNeg) sh16 c82 rfl (a_dec_at dc_Lw_value 130 rfl) ?_
                          refine ev_goto (tgt := 268) (a_dec_at dc_Lw_value 131 rfl) (by decide) ?_
                          exact m_retI (a_dec_at dc_Lw_value 133 rfl) rfl rfl H
                      · have H := H.2 b80
                        refine ev_iload rfl (a_dec_at dc_Lw_value 117 rfl) ?_
                        refine ev_sipush (v := 2000) rfl (a_dec_at dc_Lw_value 118 rfl) ?_
                        refine ev_isub (a_dec_at dc_Lw_value 119 rfl) ?_
                        refine ev_istore_n (i := 3) rfl (by decide) rfl (a_dec_at dc_Lw_value 120 rfl) ?_
                        refine ev_iinc (v := 1) rfl rfl (by decide) rfl (a_dec_at dc_Lw_value 121 rfl) ?_
                        refine ev_goto (tgt := 14) (a_dec_at dc_Lw_value 122 rfl) (by decide) ?_
                        exact Ev.drop (L' := [.ref 14, .ref 26, .retAddr 0, .int ((mi 26 v3.toNatClampNeg) - 2000), .int v4, .int (v5 + 1), .retAddr 0]) (And.intro rfl (And.intro rfl (And.intro rfl (And.intro rfl (And.intro rfl trivial))))) H
                  · have H := H.2 b76
                    refine ev_iinc (v := (-1)) rfl rfl (by decide) rfl (a_dec_at dc_Lw_value 98 rfl) ?_
                    refine ev_aload_n (i := 0) rfl rfl (a_dec_at dc_Lw_value 99 rfl) ?_
                    refine m_getR (y := 16) fl_Lw_15 rfl sh14 (mr_14_1 _) (by decide) (a_dec_at dc_Lw_value 100 rfl) ?_
                    refine ev_iload rfl (a_dec_at dc_Lw_value 101 rfl) ?_
                    obtain ⟨c83, H⟩ := H
                    refine w_iald (k := (v4 + (-1)).toNatClampNeg) sh16 c83 rfl (a_dec_at dc_Lw_value 102 rfl) ?_
                    refine ev_if_ne (tgt := 216) (a_dec_at dc_Lw_value 103 rfl) (by decide) (fun b84 => ?_) (fun b84 => ?_)
                    · have H := H.1 b84
                      refine ev_iload_n (i := 3) rfl rfl (a_dec_at dc_Lw_value 108 rfl) ?_
                      refine ev_istore_n (i := 3) rfl (by decide) rfl (a_dec_at dc_Lw_value 109 rfl) ?_
                      refine ev_goto (tgt := 244) (a_dec_at dc_Lw_value 110 rfl) (by decide) ?_
                      refine ev_iinc (v := 1) rfl rfl (by decide) rfl (a_dec_at dc_Lw_value 121 rfl) ?_
                      refine ev_goto (tgt := 14) (a_dec_at dc_Lw_value 122 rfl) (by decide) ?_
                      exact Ev.drop (L' := [.ref 14, .ref 26, .retAddr 0, .int (v3 + 1), .int (v4 + (-1)), .int (v5 + 1), .retAddr 0]) (And.intro rfl (And.intro rfl (And.intro rfl (And.intro rfl (And.intro rfl trivial))))) H
                    · have H := H.2 b84
                      refine ev_iload rfl (a_dec_at dc_Lw_value 104 rfl) ?_
                      refine ev_sipush (v := 3000) rfl (a_dec_at dc_Lw_value 105 rfl) ?_
                      refine ev_isub (a_dec_at dc_Lw_value 106 rfl) ?_
                      refine ev_goto (tgt := 217) (a_dec_at dc_Lw_value 107 rfl) (by decide) ?_
                      refine ev_istore_n (i := 3) rfl (by decide) rfl (a_dec_at dc_Lw_value 109 rfl) ?_
                      refine ev_goto (tgt := 244) (a_dec_at dc_Lw_value 110 rfl) (by decide) ?_
                      refine ev_iinc (v := 1) rfl rfl (by decide) rfl (a_dec_at dc_Lw_value 121 rfl) ?_
                      refine ev_goto (tgt := 14) (a_dec_at dc_Lw_value 122 rfl) (by decide) ?_
                      exact Ev.drop (L' := [.ref 14, .ref 26, .retAddr 0, .int ((mi 26 v3.toNatClampNeg) - 3000), .int (v4 + (-1)), .int (v5 + 1), .retAddr 0]) (And.intro rfl (And.intro rfl (And.intro rfl (And.intro rfl (And.intro rfl trivial))))) H
            · have H := H.2 b61
              refine ev_iload rfl (a_dec_at dc_Lw_value 73 rfl) ?_
              refine ev_if_le (tgt := 173) (a_dec_at dc_Lw_value 74 rfl) (by decide) (fun b85 => ?_) (fun b85 => ?_)
              · have H := H.1 b85
                refine ev_iload rfl (a_dec_at dc_Lw_value 90 rfl) ?_
                refine ev_sipush (v := 3000) rfl (a_dec_at dc_Lw_value 91 rfl) ?_
                refine ev_icmp_lt (tgt := 221) (a_dec_at dc_Lw_value 92 rfl) (by decide) (fun b86 => ?_) (fun b86 => ?_)
                · have H := H.1 b86
                  refine ev_iload rfl (a_dec_at dc_Lw_value 111 rfl) ?_
                  refine ev_sipush (v := 2000) rfl (a_dec_at dc_Lw_value 112 rfl) ?_
                  refine ev_icmp_lt (tgt := 250) (a_dec_at dc_Lw_value 113 rfl) (by decide) (fun b87 => ?_) (fun b87 => ?_)
                  · have H := H.1 b87
                    refine ev_iload rfl (a_dec_at dc_Lw_value 123 rfl) ?_
                    refine ev_if_le (tgt := 267) (a_dec_at dc_Lw_value 124 rfl) (by decide) (fun b88 => ?_) (fun b88 => ?_)
                    · have H := H.1 b88
                      refine ev_iconst (v := 0) rfl (a_dec_at dc_Lw_value 132 rfl) ?_
                      exact m_retI (a_dec_at dc_Lw_value 133 rfl) rfl rfl H
                    · have H := H.2 b88
                      refine ev_aload_n (i := 0) rfl rfl (a_dec_at dc_Lw_value 125 rfl) ?_
                      refine m_getR (y := 16) fl_Lw_15 rfl sh14 (mr_14_1 _) (by decide) (a_dec_at dc_Lw_value 126 rfl) ?_
                      refine ev_iload rfl (a_dec_at dc_Lw_value 127 rfl) ?_
                      refine ev_iconst (v := 1) rfl (a_dec_at dc_Lw_value 128 rfl) ?_
                      refine ev_isub (a_dec_at dc_Lw_value 129 rfl) ?_
                      obtain ⟨c89, H⟩ := H
                      refine w_iald (k := (v4 - 1).toNatClampNeg) sh16 c89 rfl (a_dec_at dc_Lw_value 130 rfl) ?_
                      refine ev_goto (tgt := 268) (a_dec_at dc_Lw_value 131 rfl) (by decide) ?_
                      exact m_retI (a_dec_at dc_Lw_value 133 rfl) rfl rfl H
                  · have H := H.2 b87
                    refine ev_iload rfl (a_dec_at dc_Lw_value 114 rfl) ?_
                    refine ev_sipush (v := 3000) rfl (a_dec_at dc_Lw_value 115 rfl) ?_
                    refine ev_icmp_ge (tgt := 250) (a_dec_at dc_Lw_value 116 rfl) (by decide) (fun b90 => ?_) (fun b90 => ?_)
                    · have H := H.1 b90
                      refine ev_iload rfl (a_dec_at dc_Lw_value 123 rfl) ?_
                      refine ev_if_le (tgt := 267) (a_dec_at dc_Lw_value 124 rfl) (by decide) (fun b91 => ?_) (fun b91 => ?_)
                      · have H := H.1 b91
                        refine ev_iconst (v := 0) rfl (a_dec_at dc_Lw_value 132 rfl) ?_
                        exact m_retI (a_dec_at dc_Lw_value 133 rfl) rfl rfl H
                      · have H := H.2 b91
                        refine ev_aload_n (i := 0) rfl rfl (a_dec_at dc_Lw_value 125 rfl) ?_
                        refine m_getR (y := 16) fl_Lw_15 rfl sh14 (mr_14_1 _) (by decide) (a_dec_at dc_Lw_value 126 rfl) ?_
                        refine ev_iload rfl (a_dec_at dc_Lw_value 127 rfl) ?_
                        refine ev_iconst (v := 1) rfl (a_dec_at dc_Lw_value 128 rfl) ?_
                        refine ev_isub (a_dec_at dc_Lw_value 129 rfl) ?_
                        obtain ⟨c92, H⟩ := H
                        refine w_iald (k := (v4 - 1).toNatClampNeg) sh16 c92 rfl (a_dec_at dc_Lw_value 130 rfl) ?_
                        refine ev_goto (tgt := 268) (a_dec_at dc_Lw_value 131 rfl) (by decide) ?_
                        exact m_retI (a_dec_at dc_Lw_value 133 rfl) rfl rfl H
                    · have H := H.2 b90
                      refine ev_iload rfl (a_dec_at dc_Lw_value 117 rfl) ?_
                      refine ev_sipush (v := 2000) rfl (a_dec_at dc_Lw_value 118 rfl) ?_
                      refine ev_isub (a_dec_at dc_Lw_value 119 rfl) ?_
                      refine ev_istore_n (i := 3) rfl (by decide) rfl (a_dec_at dc_Lw_value 120 rfl) ?_
                      refine ev_iinc (v := 1) rfl rfl (by decide) rfl (a_dec_at dc_Lw_value 121 rfl) ?_
                      refine ev_goto (tgt := 14) (a_dec_at dc_Lw_value 122 rfl) (by decide) ?_
                      exact Ev.drop (L' := [.ref 14, .ref 26, .retAddr 0, .int ((mi 26 v3.toNatClampNeg) - 2000), .int v4, .int (v5 + 1), .retAddr 0]) (And.intro rfl (And.intro rfl (And.intro rfl (And.intro rfl (And.intro rfl trivial))))) H
                · have H := H.2 b86
                  refine ev_iload rfl (a_dec_at dc_Lw_value 93 rfl) ?_
                  refine ev_sipush (v := 4000) rfl (a_dec_at dc_Lw_value 94 rfl) ?_
                  refine ev_icmp_ge (tgt := 221) (a_dec_at dc_Lw_value 95 rfl) (by decide) (fun b93 => ?_) (fun b93 => ?_)
                  · have H := H.1 b93
                    refine ev_iload rfl (a_dec_at dc_Lw_value 111 rfl) ?_
                    refine ev_sipush (v := 2000) rfl (a_dec_at dc_Lw_value 112 rfl) ?_
                    refine ev_icmp_lt (tgt := 250) (a_dec_at dc_Lw_value 113 rfl) (by decide) (fun b94 => ?_) (fun b94 => ?_)
                    · have H := H.1 b94
                      refine ev_iload rfl (a_dec_at dc_Lw_value 123 rfl) ?_
                      refine ev_if_le (tgt := 267) (a_dec_at dc_Lw_value 124 rfl) (by decide) (fun b95 => ?_) (fun b95 => ?_)
                      · have H := H.1 b95
                        refine ev_iconst (v := 0) rfl (a_dec_at dc_Lw_value 132 rfl) ?_
                        exact m_retI (a_dec_at dc_Lw_value 133 rfl) rfl rfl H
                      · have H := H.2 b95
                        refine ev_aload_n (i := 0) rfl rfl (a_dec_at dc_Lw_value 125 rfl) ?_
                        refine m_getR (y := 16) fl_Lw_15 rfl sh14 (mr_14_1 _) (by decide) (a_dec_at dc_Lw_value 126 rfl) ?_
                        refine ev_iload rfl (a_dec_at dc_Lw_value 127 rfl) ?_
                        refine ev_iconst (v := 1) rfl (a_dec_at dc_Lw_value 128 rfl) ?_
                        refine ev_isub (a_dec_at dc_Lw_value 129 rfl) ?_
                        obtain ⟨c96, H⟩ := H
                        refine w_iald (k := (v4 - 1).toNatClampNeg) sh16 c96 rfl (a_dec_at dc_Lw_value 130 rfl) ?_
                        refine ev_goto (tgt := 268) (a_dec_at dc_Lw_value 131 rfl) (by decide) ?_
                        exact m_retI (a_dec_at dc_Lw_value 133 rfl) rfl rfl H
                    · have H := H.2 b94
                      refine ev_iload rfl (a_dec_at dc_Lw_value 114 rfl) ?_
                      refine ev_sipush (v := 3000) rfl (a_dec_at dc_Lw_value 115 rfl) ?_
                      refine ev_icmp_ge (tgt := 250) (a_dec_at dc_Lw_value 116 rfl) (by decide) (fun b97 => ?_) (fun b97 => ?_)
                      · have H := H.1 b97
                        refine ev_iload rfl (a_dec_at dc_Lw_value 123 rfl) ?_
                        refine ev_if_le (tgt := 267) (a_dec_at dc_Lw_value 124 rfl) (by decide) (fun b98 => ?_) (fun b98 => ?_)
                        · have H := H.1 b98
                          refine ev_iconst (v := 0) rfl (a_dec_at dc_Lw_value 132 rfl) ?_
                          exact m_retI (a_dec_at dc_Lw_value 133 rfl) rfl rfl H
                        · have H := H.2 b98
                          refine ev_aload_n (i := 0) rfl rfl (a_dec_at dc_Lw_value 125 rfl) ?_
                          refine m_getR (y := 16) fl_Lw_15 rfl sh14 (mr_14_1 _) (by decide) (a_dec_at dc_Lw_value 126 rfl) ?_
                          refine ev_iload rfl (a_dec_at dc_Lw_value 127 rfl) ?_
                          refine ev_iconst (v := 1) rfl (a_dec_at dc_Lw_value 128 rfl) ?_
                          refine ev_isub (a_dec_at dc_Lw_value 129 rfl) ?_
                          obtain ⟨c99, H⟩ := H
                          refine w_iald (k := (v4 - 1).toNatClampNeg) sh16 c99 rfl (a_dec_at dc_Lw_value 130 rfl) ?_
                          refine ev_goto (tgt := 268) (a_dec_at dc_Lw_value 131 rfl) (by decide) ?_
                          exact m_retI (a_dec_at dc_Lw_value 133 rfl) rfl rfl H
                      · have H := H.2 b97
                        refine ev_iload rfl (a_dec_at dc_Lw_value 117 rfl) ?_
                        refine ev_sipush (v := 2000) rfl (a_dec_at dc_Lw_value 118 rfl) ?_
                        refine ev_isub (a_dec_at dc_Lw_value 119 rfl) ?_
                        refine ev_istore_n (i := 3) rfl (by decide) rfl (a_dec_at dc_Lw_value 120 rfl) ?_
                        refine ev_iinc (v := 1) rfl rfl (by decide) rfl (a_dec_at dc_Lw_value 121 rfl) ?_
                        refine ev_goto (tgt := 14) (a_dec_at dc_Lw_value 122 rfl) (by decide) ?_
                        exact Ev.drop (L' := [.ref 14, .ref 26, .retAddr 0, .int ((mi 26 v3.toNatClampNeg) - 2000), .int v4, .int (v5 + 1), .retAddr 0]) (And.intro rfl (And.intro rfl (And.intro rfl (And.intro rfl (And.intro rfl trivial))))) H
                  · have H := H.2 b93
                    refine ev_iload rfl (a_dec_at dc_Lw_value 96 rfl) ?_
                    refine ev_if_le (tgt := 221) (a_dec_at dc_Lw_value 97 rfl) (by decide) (fun b100 => ?_) (fun b100 => ?_)
                    · have H := H.1 b100
                      refine ev_iload rfl (a_dec_at dc_Lw_value 111 rfl) ?_
                      refine ev_sipush (v := 2000) rfl (a_dec_at dc_Lw_value 112 rfl) ?_
                      refine ev_icmp_lt (tgt := 250) (a_dec_at dc_Lw_value 113 rfl) (by decide) (fun b101 => ?_) (fun b101 => ?_)
                      · have H := H.1 b101
                        refine ev_iload rfl (a_dec_at dc_Lw_value 123 rfl) ?_
                        refine ev_if_le (tgt := 267) (a_dec_at dc_Lw_value 124 rfl) (by decide) (fun b102 => ?_) (fun b102 => ?_)
                        · have H := H.1 b102
                          refine ev_iconst (v := 0) rfl (a_dec_at dc_Lw_value 132 rfl) ?_
                          exact m_retI (a_dec_at dc_Lw_value 133 rfl) rfl rfl H
                        · have H := H.2 b102
                          refine ev_aload_n (i := 0) rfl rfl (a_dec_at dc_Lw_value 125 rfl) ?_
                          refine m_getR (y := 16) fl_Lw_15 rfl sh14 (mr_14_1 _) (by decide) (a_dec_at dc_Lw_value 126 rfl) ?_
                          refine ev_iload rfl (a_dec_at dc_Lw_value 127 rfl) ?_
                          refine ev_iconst (v := 1) rfl (a_dec_at dc_Lw_value 128 rfl) ?_
                          refine ev_isub (a_dec_at dc_Lw_value 129 rfl) ?_
                          obtain ⟨c103, H⟩ := H
                          refine w_iald (k := (v4 - 1).toNatClampNeg) sh16 c103 rfl (a_dec_at dc_Lw_value 130 rfl) ?_
                          refine ev_goto (tgt := 268) (a_dec_at dc_Lw_value 131 rfl) (by decide) ?_
                          exact m_retI (a_dec_at dc_Lw_value 133 rfl) rfl rfl H
                      · have H := H.2 b101
                        refine ev_iload rfl (a_dec_at dc_Lw_value 114 rfl) ?_
                        refine ev_sipush (v := 3000) rfl (a_dec_at dc_Lw_value 115 rfl) ?_
                        refine ev_icmp_ge (tgt := 250) (a_dec_at dc_Lw_value 116 rfl) (by decide) (fun b104 => ?_) (fun b104 => ?_)
                        · have H := H.1 b104
                          refine ev_iload rfl (a_dec_at dc_Lw_value 123 rfl) ?_
                          refine ev_if_le (tgt := 267) (a_dec_at dc_Lw_value 124 rfl) (by decide) (fun b105 => ?_) (fun b105 => ?_)
                          · have H := H.1 b105
                            refine ev_iconst (v := 0) rfl (a_dec_at dc_Lw_value 132 rfl) ?_
                            exact m_retI (a_dec_at dc_Lw_value 133 rfl) rfl rfl H
                          · have H := H.2 b105
                            refine ev_aload_n (i := 0) rfl rfl (a_dec_at dc_Lw_value 125 rfl) ?_
                            refine m_getR (y := 16) fl_Lw_15 rfl sh14 (mr_14_1 _) (by decide) (a_dec_at dc_Lw_value 126 rfl) ?_
                            refine ev_iload rfl (a_dec_at dc_Lw_value 127 rfl) ?_
                            refine ev_iconst (v := 1) rfl (a_dec_at dc_Lw_value 128 rfl) ?_
                            refine ev_isub (a_dec_at dc_Lw_value 129 rfl) ?_
                            obtain ⟨c106, H⟩ := H
                            refine w_iald (k := (v4 - 1).toNatClampNeg) sh16 c106 rfl (a_dec_at dc_Lw_value 130 rfl) ?_
                            refine ev_goto (tgt := 268) (a_dec_at dc_Lw_value 131 rfl) (by decide) ?_
                            exact m_retI (a_dec_at dc_Lw_value 133 rfl) rfl rfl H
                        · have H := H.2 b104
                          refine ev_iload rfl (a_dec_at dc_Lw_value 117 rfl) ?_
                          refine ev_sipush (v := 2000) rfl (a_dec_at dc_Lw_value 118 rfl) ?_
                          refine ev_isub (a_dec_at dc_Lw_value 119 rfl) ?_
                          refine ev_istore_n (i := 3) rfl (by decide) rfl (a_dec_at dc_Lw_value 120 rfl) ?_
                          refine ev_iinc (v := 1) rfl rfl (by decide) rfl (a_dec_at dc_Lw_value 121 rfl) ?_
                          refine ev_goto (tgt := 14) (a_dec_at dc_Lw_value 122 rfl) (by decide) ?_
                          exact Ev.drop (L' := [.ref 14, .ref 26, .retAddr 0, .int ((mi 26 v3.toNatClampNeg) - 2000), .int v4, .int (v5 + 1), .retAddr 0]) (And.intro rfl (And.intro rfl (And.intro rfl (And.intro rfl (And.intro rfl trivial))))) H
                    · have H := H.2 b100
                      refine ev_iinc (v := (-1)) rfl rfl (by decide) rfl (a_dec_at dc_Lw_value 98 rfl) ?_
                      refine ev_aload_n (i := 0) rfl rfl (a_dec_at dc_Lw_value 99 rfl) ?_
                      refine m_getR (y := 16) fl_Lw_15 rfl sh14 (mr_14_1 _) (by decide) (a_dec_at dc_Lw_value 100 rfl) ?_
                      refine ev_iload rfl (a_dec_at dc_Lw_value 101 rfl) ?_
                      obtain ⟨c107, H⟩ := H
                      refine w_iald (k := (v4 + (-1)).toNatClampNeg) sh16 c107 rfl (a_dec_at dc_Lw_value 102 rfl) ?_
                      refine ev_if_ne (tgt := 216) (a_dec_at dc_Lw_value 103 rfl) (by decide) (fun b108 => ?_) (fun b108 => ?_)
                      · have H := H.1 b108
                        refine ev_iload_n (i := 3) rfl rfl (a_dec_at dc_Lw_value 108 rfl) ?_
                        refine ev_istore_n (i := 3) rfl (by decide) rfl (a_dec_at dc_Lw_value 109 rfl) ?_
                        refine ev_goto (tgt := 244) (a_dec_at dc_Lw_value 110 rfl) (by decide) ?_
                        refine ev_iinc (v := 1) rfl rfl (by decide) rfl (a_dec_at dc_Lw_value 121 rfl) ?_
                        refine ev_goto (tgt := 14) (a_dec_at dc_Lw_value 122 rfl) (by decide) ?_
                        exact Ev.drop (L' := [.ref 14, .ref 26, .retAddr 0, .int (v3 + 1), .int (v4 + (-1)), .int (v5 + 1), .retAddr 0]) (And.intro rfl (And.intro rfl (And.intro rfl (And.intro rfl (And.intro rfl trivial))))) H
                      · have H := H.2 b108
                        refine ev_iload rfl (a_dec_at dc_Lw_value 104 rfl) ?_
                        refine ev_sipush (v := 3000) rfl (a_dec_at dc_Lw_value 105 rfl) ?_
                        refine ev_isub (a_dec_at dc_Lw_value 106 rfl) ?_
                        refine ev_goto (tgt := 217) (a_dec_at dc_Lw_value 107 rfl) (by decide) ?_
                        refine ev_istore_n (i := 3) rfl (by decide) rfl (a_dec_at dc_Lw_value 109 rfl) ?_
                        refine ev_goto (tgt := 244) (a_dec_at dc_Lw_value 110 rfl) (by decide) ?_
                        refine ev_iinc (v := 1) rfl rfl (by decide) rfl (a_dec_at dc_Lw_value 121 rfl) ?_
                        refine ev_goto (tgt := 14) (a_dec_at dc_Lw_value 122 rfl) (by decide) ?_
                        exact Ev.drop (L' := [.ref 14, .ref 26, .retAddr 0, .int ((mi 26 v3.toNatClampNeg) - 3000), .int (v4 + (-1)), .int (v5 + 1), .retAddr 0]) (And.intro rfl (And.intro rfl (And.intro rfl (And.intro rfl (And.intro rfl trivial))))) H
              · have H := H.2 b85
                refine ev_aload_n (i := 0) rfl rfl (a_dec_at dc_Lw_value 75 rfl) ?_
                refine m_getR (y := 16) fl_Lw_15 rfl sh14 (mr_14_1 _) (by decide) (a_dec_at dc_Lw_value 76 rfl) ?_
                refine ev_iload rfl (a_dec_at dc_Lw_value 77 rfl) ?_
                refine ev_iconst (v := 1) rfl (a_dec_at dc_Lw_value 78 rfl) ?_
                refine ev_isub (a_dec_at dc_Lw_value 79 rfl) ?_
                refine ev_iconst (v := 1) rfl (a_dec_at dc_Lw_value 80 rfl) ?_
                refine ev_aload_n (i := 0) rfl rfl (a_dec_at dc_Lw_value 81 rfl) ?_
                refine m_getR (y := 16) fl_Lw_15 rfl sh14 (mr_14_1 _) (by decide) (a_dec_at dc_Lw_value 82 rfl) ?_
                refine ev_iload rfl (a_dec_at dc_Lw_value 83 rfl) ?_
                refine ev_iconst (v := 1) rfl (a_dec_at dc_Lw_value 84 rfl) ?_
                refine ev_isub (a_dec_at dc_Lw_value 85 rfl) ?_
                obtain ⟨c109, H⟩ := H
                refine w_iald (k := (v4 - 1).toNatClampNeg) sh16 c109 rfl (a_dec_at dc_Lw_value 86 rfl) ?_
                refine ev_isub (a_dec_at dc_Lw_value 87 rfl) ?_
                obtain ⟨c110, H⟩ := H
                refine w_iast (k := (v4 - 1).toNatClampNeg) sh16 c110 rfl (a_dec_at dc_Lw_value 88 rfl) ?_
                refine ev_goto (tgt := 244) (a_dec_at dc_Lw_value 89 rfl) (by decide) ?_
                refine ev_iinc (v := 1) rfl rfl (by decide) rfl (a_dec_at dc_Lw_value 121 rfl) ?_
                refine ev_goto (tgt := 14) (a_dec_at dc_Lw_value 122 rfl) (by decide) ?_
                exact Ev.drop (L' := [.ref 14, .ref 26, .retAddr 0, .int (v3 + 1), .int v4, .int (v5 + 1), .retAddr 0]) (And.intro rfl (And.intro rfl (And.intro rfl (And.intro rfl (And.intro rfl trivial))))) H
          · have H := H.2 b60
            refine ev_iinc (v := (-1)) rfl rfl (by decide) rfl (a_dec_at dc_Lw_value 50 rfl) ?_
            refine ev_aload_n (i := 0) rfl rfl (a_dec_at dc_Lw_value 51 rfl) ?_
            refine m_getR (y := 16) fl_Lw_15 rfl sh14 (mr_14_1 _) (by decide) (a_dec_at dc_Lw_value 52 rfl) ?_
            refine ev_iload rfl (a_dec_at dc_Lw_value 53 rfl) ?_
            refine ev_iconst (v := 1) rfl (a_dec_at dc_Lw_value 54 rfl) ?_
            refine ev_isub (a_dec_at dc_Lw_value 55 rfl) ?_
            refine ev_iload rfl (a_dec_at dc_Lw_value 56 rfl) ?_
            refine ev_aload_n (i := 0) rfl rfl (a_dec_at dc_Lw_value 57 rfl) ?_
            refine m_getR (y := 16) fl_Lw_15 rfl sh14 (mr_14_1 _) (by decide) (a_dec_at dc_Lw_value 58 rfl) ?_
            refine ev_iload rfl (a_dec_at dc_Lw_value 59 rfl) ?_
            refine ev_iconst (v := 1) rfl (a_dec_at dc_Lw_value 60 rfl) ?_
            refine ev_isub (a_dec_at dc_Lw_value 61 rfl) ?_
            obtain ⟨c111, H⟩ := H
            refine w_iald (k := ((v4 + (-1)) - 1).toNatClampNeg) sh16 c111 rfl (a_dec_at dc_Lw_value 62 rfl) ?_
            refine ev_aload_n (i := 0) rfl rfl (a_dec_at dc_Lw_value 63 rfl) ?_
            refine m_getR (y := 16) fl_Lw_15 rfl sh14 (mr_14_1 _) (by decide) (a_dec_at dc_Lw_value 64 rfl) ?_
            refine ev_iload rfl (a_dec_at dc_Lw_value 65 rfl) ?_
            obtain ⟨c112, H⟩ := H
            refine w_iald (k := (v4 + (-1)).toNatClampNeg) sh16 c112 rfl (a_dec_at dc_Lw_value 66 rfl) ?_
            refine cS3I cs_Lw_22 rfl (Nat.le_of_ble_eq_true rfl) (Nat.le_of_ble_eq_true rfl) (a_dec_at dc_Lw_value 67 rfl) ?_
            refine CI.mono (fun x113 mi113 ml113 z113 H => ?_) H
            obtain ⟨c114, H⟩ := H
            refine w_iast (k := ((v4 + (-1)) - 1).toNatClampNeg) sh16 c114 rfl (a_dec_at dc_Lw_value 68 rfl) ?_
            refine ev_goto (tgt := 244) (a_dec_at dc_Lw_value 69 rfl) (by decide) ?_
            refine ev_iinc (v := 1) rfl rfl (by decide) rfl (a_dec_at dc_Lw_value 121 rfl) ?_
            refine ev_goto (tgt := 14) (a_dec_at dc_Lw_value 122 rfl) (by decide) ?_
            exact Ev.drop (L' := [.ref 14, .ref 26, .retAddr 0, .int (v3 + 1), .int (v4 + (-1)), .int (v5 + 1), .retAddr 0]) (And.intro rfl (And.intro rfl (And.intro rfl (And.intro rfl (And.intro rfl trivial))))) H
      · have H := H.2 b8
        refine ev_iload rfl (a_dec_at dc_Lw_value 25 rfl) ?_
        refine ev_bipush (v := 64) rfl (a_dec_at dc_Lw_value 26 rfl) ?_
        refine ev_icmp_ge (tgt := 87) (a_dec_at dc_Lw_value 27 rfl) (by decide) (fun b115 => ?_) (fun b115 => ?_)
        · have H := H.1 b115
          refine ev_iload rfl (a_dec_at dc_Lw_value 44 rfl) ?_
          refine ev_sipush (v := 6000) rfl (a_dec_at dc_Lw_value 45 rfl) ?_
          refine ev_icmp_lt (tgt := 137) (a_dec_at dc_Lw_value 46 rfl) (by decide) (fun b116 => ?_) (fun b116 => ?_)
          · have H := H.1 b116
            refine ev_iload rfl (a_dec_at dc_Lw_value 70 rfl) ?_
            refine ev_sipush (v := 5000) rfl (a_dec_at dc_Lw_value 71 rfl) ?_
            refine ev_icmp_ne (tgt := 173) (a_dec_at dc_Lw_value 72 rfl) (by decide) (fun b117 => ?_) (fun b117 => ?_)
            · have H := H.1 b117
              refine ev_iload rfl (a_dec_at dc_Lw_value 90 rfl) ?_
              refine ev_sipush (v := 3000) rfl (a_dec_at dc_Lw_value 91 rfl) ?_
              refine ev_icmp_lt (tgt := 221) (a_dec_at dc_Lw_value 92 rfl) (by decide) (fun b118 => ?_) (fun b118 => ?_)
              · have H := H.1 b118
                refine ev_iload rfl (a_dec_at dc_Lw_value 111 rfl) ?_
                refine ev_sipush (v := 2000) rfl (a_dec_at dc_Lw_value 112 rfl) ?_
                refine ev_icmp_lt (tgt := 250) (a_dec_at dc_Lw_value 113 rfl) (by decide) (fun b119 => ?_) (fun b119 => ?_)
                · have H := H.1 b119
                  refine ev_iload rfl (a_dec_at dc_Lw_value 123 rfl) ?_
                  refine ev_if_le (tgt := 267) (a_dec_at dc_Lw_value 124 rfl) (by decide) (fun b120 => ?_) (fun b120 => ?_)
                  · have H := H.1 b120
                    refine ev_iconst (v := 0) rfl (a_dec_at dc_Lw_value 132 rfl) ?_
                    exact m_retI (a_dec_at dc_Lw_value 133 rfl) rfl rfl H
                  · have H := H.2 b120
                    refine ev_aload_n (i := 0) rfl rfl (a_dec_at dc_Lw_value 125 rfl) ?_
                    refine m_getR (y := 16) fl_Lw_15 rfl sh14 (mr_14_1 _) (by decide) (a_dec_at dc_Lw_value 126 rfl) ?_
                    refine ev_iload rfl (a_dec_at dc_Lw_value 127 rfl) ?_
                    refine ev_iconst (v := 1) rfl (a_dec_at dc_Lw_value 128 rfl) ?_
                    refine ev_isub (a_dec_at dc_Lw_value 129 rfl) ?_
                    obtain ⟨c121, H⟩ := H
                    refine w_iald (k := (v4 - 1).toNatClampNeg) sh16 c121 rfl (a_dec_at dc_Lw_value 130 rfl) ?_
                    refine ev_goto (tgt := 268) (a_dec_at dc_Lw_value 131 rfl) (by decide) ?_
                    exact m_retI (a_dec_at dc_Lw_value 133 rfl) rfl rfl H
                · have H := H.2 b119
                  refine ev_iload rfl (a_dec_at dc_Lw_value 114 rfl) ?_
                  refine ev_sipush (v := 3000) rfl (a_dec_at dc_Lw_value 115 rfl) ?_
                  refine ev_icmp_ge (tgt := 250) (a_dec_at dc_Lw_value 116 rfl) (by decide) (fun b122 => ?_) (fun b122 => ?_)
                  · have H := H.1 b122
                    refine ev_iload rfl (a_dec_at dc_Lw_value 123 rfl) ?_
                    refine ev_if_le (tgt := 267) (a_dec_at dc_Lw_value 124 rfl) (by decide) (fun b123 => ?_) (fun b123 => ?_)
                    · have H := H.1 b123
                      refine ev_iconst (v := 0) rfl (a_dec_at dc_Lw_value 132 rfl) ?_
                      exact m_retI (a_dec_at dc_Lw_value 133 rfl) rfl rfl H
                    · have H := H.2 b123
                      refine ev_aload_n (i := 0) rfl rfl (a_dec_at dc_Lw_value 125 rfl) ?_
                      refine m_getR (y := 16) fl_Lw_15 rfl sh14 (mr_14_1 _) (by decide) (a_dec_at dc_Lw_value 126 rfl) ?_
                      refine ev_iload rfl (a_dec_at dc_Lw_value 127 rfl) ?_
                      refine ev_iconst (v := 1) rfl (a_dec_at dc_Lw_value 128 rfl) ?_
                      refine ev_isub (a_dec_at dc_Lw_value 129 rfl) ?_
                      obtain ⟨c124, H⟩ := H
                      refine w_iald (k := (v4 - 1).toNatClampNeg) sh16 c124 rfl (a_dec_at dc_Lw_value 130 rfl) ?_
                      refine ev_goto (tgt := 268) (a_dec_at dc_Lw_value 131 rfl) (by decide) ?_
                      exact m_retI (a_dec_at dc_Lw_value 133 rfl) rfl rfl H
                  · have H := H.2 b122
                    refine ev_iload rfl (a_dec_at dc_Lw_value 117 rfl) ?_
                    refine ev_sipush (v := 2000) rfl (a_dec_at dc_Lw_value 118 rfl) ?_
                    refine ev_isub (a_dec_at dc_Lw_value 119 rfl) ?_
                    refine ev_istore_n (i := 3) rfl (by decide) rfl (a_dec_at dc_Lw_value 120 rfl) ?_
                    refine ev_iinc (v := 1) rfl rfl (by decide) rfl (a_dec_at dc_Lw_value 121 rfl) ?_
                    refine ev_goto (tgt := 14) (a_dec_at dc_Lw_value 122 rfl) (by decide) ?_
                    exact Ev.drop (L' := [.ref 14, .ref 26, .retAddr 0, .int ((mi 26 v3.toNatClampNeg) - 2000), .int v4, .int (v5 + 1), .retAddr 0]) (And.intro rfl (And.intro rfl (And.intro rfl (And.intro rfl (And.intro rfl trivial))))) H
              · have H := H.2 b118
                refine ev_iload rfl (a_dec_at dc_Lw_value 93 rfl) ?_
                refine ev_sipush (v := 4000) rfl (a_dec_at dc_Lw_value 94 rfl) ?_
                refine ev_icmp_ge (tgt := 221) (a_dec_at dc_Lw_value 95 rfl) (by decide) (fun b125 => ?_) (fun b125 => ?_)
                · have H := H.1 b125
                  refine ev_iload rfl (a_dec_at dc_Lw_value 111 rfl) ?_
                  refine ev_sipush (v := 2000) rfl (a_dec_at dc_Lw_value 112 rfl) ?_
                  refine ev_icmp_lt (tgt := 250) (a_dec_at dc_Lw_value 113 rfl) (by decide) (fun b126 => ?_) (fun b126 => ?_)
                  · have H := H.1 b126
                    refine ev_iload rfl (a_dec_at dc_Lw_value 123 rfl) ?_
                    refine ev_if_le (tgt := 267) (a_dec_at dc_Lw_value 124 rfl) (by decide) (fun b127 => ?_) (fun b127 => ?_)
                    · have H := H.1 b127
                      refine ev_iconst (v := 0) rfl (a_dec_at dc_Lw_value 132 rfl) ?_
                      exact m_retI (a_dec_at dc_Lw_value 133 rfl) rfl rfl H
                    · have H := H.2 b127
                      refine ev_aload_n (i := 0) rfl rfl (a_dec_at dc_Lw_value 125 rfl) ?_
                      refine m_getR (y := 16) fl_Lw_15 rfl sh14 (mr_14_1 _) (by decide) (a_dec_at dc_Lw_value 126 rfl) ?_
                      refine ev_iload rfl (a_dec_at dc_Lw_value 127 rfl) ?_
                      refine ev_iconst (v := 1) rfl (a_dec_at dc_Lw_value 128 rfl) ?_
                      refine ev_isub (a_dec_at dc_Lw_value 129 rfl) ?_
                      obtain ⟨c128, H⟩ := H
                      refine w_iald (k := (v4 - 1).toNatClampNeg) sh16 c128 rfl (a_dec_at dc_Lw_value 130 rfl) ?_
                      refine ev_goto (tgt := 268) (a_dec_at dc_Lw_value 131 rfl) (by decide) ?_
                      exact m_retI (a_dec_at dc_Lw_value 133 rfl) rfl rfl H
                  · have H := H.2 b126
                    refine ev_iload rfl (a_dec_at dc_Lw_value 114 rfl) ?_
                    refine ev_sipush (v := 3000) rfl (a_dec_at dc_Lw_value 115 rfl) ?_
                    refine ev_icmp_ge (tgt := 250) (a_dec_at dc_Lw_value 116 rfl) (by decide) (fun b129 => ?_) (fun b129 => ?_)
                    · have H := H.1 b129
                      refine ev_iload rfl (a_dec_at dc_Lw_value 123 rfl) ?_
                      refine ev_if_le (tgt := 267) (a_dec_at dc_Lw_value 124 rfl) (by decide) (fun b130 => ?_) (fun b130 => ?_)
                      · have H := H.1 b130
                        refine ev_iconst (v := 0) rfl (a_dec_at dc_Lw_value 132 rfl) ?_
                        exact m_retI (a_dec_at dc_Lw_value 133 rfl) rfl rfl H
                      · have H := H.2 b130
                        refine ev_aload_n (i := 0) rfl rfl (a_dec_at dc_Lw_value 125 rfl) ?_
                        refine m_getR (y := 16) fl_Lw_15 rfl sh14 (mr_14_1 _) (by decide) (a_dec_at dc_Lw_value 126 rfl) ?_
                        refine ev_iload rfl (a_dec_at dc_Lw_value 127 rfl) ?_
                        refine ev_iconst (v := 1) rfl (a_dec_at dc_Lw_value 128 rfl) ?_
                        refine ev_isub (a_dec_at dc_Lw_value 129 rfl) ?_
                        obtain ⟨c131, H⟩ := H
                        refine w_iald (k := (v4 - 1).toNatClampNeg) sh16 c131 rfl (a_dec_at dc_Lw_value 130 rfl) ?_
                        refine ev_goto (tgt := 268) (a_dec_at dc_Lw_value 131 rfl) (by decide) ?_
                        exact m_retI (a_dec_at dc_Lw_value 133 rfl) rfl rfl H
                    · have H := H.2 b129
                      refine ev_iload rfl (a_dec_at dc_Lw_value 117 rfl) ?_
                      refine ev_sipush (v := 2000) rfl (a_dec_at dc_Lw_value 118 rfl) ?_
                      refine ev_isub (a_dec_at dc_Lw_value 119 rfl) ?_
                      refine ev_istore_n (i := 3) rfl (by decide) rfl (a_dec_at dc_Lw_value 120 rfl) ?_
                      refine ev_iinc (v := 1) rfl rfl (by decide) rfl (a_dec_at dc_Lw_value 121 rfl) ?_
                      refine ev_goto (tgt := 14) (a_dec_at dc_Lw_value 122 rfl) (by decide) ?_
                      exact Ev.drop (L' := [.ref 14, .ref 26, .retAddr 0, .int ((mi 26 v3.toNatClampNeg) - 2000), .int v4, .int (v5 + 1), .retAddr 0]) (And.intro rfl (And.intro rfl (And.intro rfl (And.intro rfl (And.intro rfl trivial))))) H
                · have H := H.2 b125
                  refine ev_iload rfl (a_dec_at dc_Lw_value 96 rfl) ?_
                  refine ev_if_le (tgt := 221) (a_dec_at dc_Lw_value 97 rfl) (by decide) (fun b132 => ?_) (fun b132 => ?_)
                  · have H := H.1 b132
                    refine ev_iload rfl (a_dec_at dc_Lw_value 111 rfl) ?_
                    refine ev_sipush (v := 2000) rfl (a_dec_at dc_Lw_value 112 rfl) ?_
                    refine ev_icmp_lt (tgt := 250) (a_dec_at dc_Lw_value 113 rfl) (by decide) (fun b133 => ?_) (fun b133 => ?_)
                    · have H := H.1 b133
                      refine ev_iload rfl (a_dec_at dc_Lw_value 123 rfl) ?_
                      refine ev_if_le (tgt := 267) (a_dec_at dc_Lw_value 124 rfl) (by decide) (fun b134 => ?_) (fun b134 => ?_)
                      · have H := H.1 b134
                        refine ev_iconst (v := 0) rfl (a_dec_at dc_Lw_value 132 rfl) ?_
                        exact m_retI (a_dec_at dc_Lw_value 133 rfl) rfl rfl H
                      · have H := H.2 b134
                        refine ev_aload_n (i := 0) rfl rfl (a_dec_at dc_Lw_value 125 rfl) ?_
                        refine m_getR (y := 16) fl_Lw_15 rfl sh14 (mr_14_1 _) (by decide) (a_dec_at dc_Lw_value 126 rfl) ?_
                        refine ev_iload rfl (a_dec_at dc_Lw_value 127 rfl) ?_
                        refine ev_iconst (v := 1) rfl (a_dec_at dc_Lw_value 128 rfl) ?_
                        refine ev_isub (a_dec_at dc_Lw_value 129 rfl) ?_
                        obtain ⟨c135, H⟩ := H
                        refine w_iald (k := (v4 - 1).toNatClampNeg) sh16 c135 rfl (a_dec_at dc_Lw_value 130 rfl) ?_
                        refine ev_goto (tgt := 268) (a_dec_at dc_Lw_value 131 rfl) (by decide) ?_
                        exact m_retI (a_dec_at dc_Lw_value 133 rfl) rfl rfl H
                    · have H := H.2 b133
                      refine ev_iload rfl (a_dec_at dc_Lw_value 114 rfl) ?_
                      refine ev_sipush (v := 3000) rfl (a_dec_at dc_Lw_value 115 rfl) ?_
                      refine ev_icmp_ge (tgt := 250) (a_dec_at dc_Lw_value 116 rfl) (by decide) (fun b136 => ?_) (fun b136 => ?_)
                      · have H := H.1 b136
                        refine ev_iload rfl (a_dec_at dc_Lw_value 123 rfl) ?_
                        refine ev_if_le (tgt := 267) (a_dec_at dc_Lw_value 124 rfl) (by decide) (fun b137 => ?_) (fun b137 => ?_)
                        · have H := H.1 b137
                          refine ev_iconst (v := 0) rfl (a_dec_at dc_Lw_value 132 rfl) ?_
                          exact m_retI (a_dec_at dc_Lw_value 133 rfl) rfl rfl H
                        · have H := H.2 b137
                          refine ev_aload_n (i := 0) rfl rfl (a_dec_at dc_Lw_value 125 rfl) ?_
                          refine m_getR (y := 16) fl_Lw_15 rfl sh14 (mr_14_1 _) (by decide) (a_dec_at dc_Lw_value 126 rfl) ?_
                          refine ev_iload rfl (a_dec_at dc_Lw_value 127 rfl) ?_
                          refine ev_iconst (v := 1) rfl (a_dec_at dc_Lw_value 128 rfl) ?_
                          refine ev_isub (a_dec_at dc_Lw_value 129 rfl) ?_
                          obtain ⟨c138, H⟩ := H
                          refine w_iald (k := (v4 - 1).toNatClampNeg) sh16 c138 rfl (a_dec_at dc_Lw_value 130 rfl) ?_
                          refine ev_goto (tgt := 268) (a_dec_at dc_Lw_value 131 rfl) (by decide) ?_
                          exact m_retI (a_dec_at dc_Lw_value 133 rfl) rfl rfl H
                      · have H := H.2 b136
                        refine ev_iload rfl (a_dec_at dc_Lw_value 117 rfl) ?_
                        refine ev_sipush (v := 2000) rfl (a_dec_at dc_Lw_value 118 rfl) ?_
                        refine ev_isub (a_dec_at dc_Lw_value 119 rfl) ?_
                        refine ev_istore_n (i := 3) rfl (by decide) rfl (a_dec_at dc_Lw_value 120 rfl) ?_
                        refine ev_iinc (v := 1) rfl rfl (by decide) rfl (a_dec_at dc_Lw_value 121 rfl) ?_
                        refine ev_goto (tgt := 14) (a_dec_at dc_Lw_value 122 rfl) (by decide) ?_
                        exact Ev.drop (L' := [.ref 14, .ref 26, .retAddr 0, .int ((mi 26 v3.toNatClampNeg) - 2000), .int v4, .int (v5 + 1), .retAddr 0]) (And.intro rfl (And.intro rfl (And.intro rfl (And.intro rfl (And.intro rfl trivial))))) H
                  · have H := H.2 b132
                    refine ev_iinc (v := (-1)) rfl rfl (by decide) rfl (a_dec_at dc_Lw_value 98 rfl) ?_
                    refine ev_aload_n (i := 0) rfl rfl (a_dec_at dc_Lw_value 99 rfl) ?_
                    refine m_getR (y := 16) fl_Lw_15 rfl sh14 (mr_14_1 _) (by decide) (a_dec_at dc_Lw_value 100 rfl) ?_
                    refine ev_iload rfl (a_dec_at dc_Lw_value 101 rfl) ?_
                    obtain ⟨c139, H⟩ := H
                    refine w_iald (k := (v4 + (-1)).toNatClampNeg) sh16 c139 rfl (a_dec_at dc_Lw_value 102 rfl) ?_
                    refine ev_if_ne (tgt := 216) (a_dec_at dc_Lw_value 103 rfl) (by decide) (fun b140 => ?_) (fun b140 => ?_)
                    · have H := H.1 b140
                      refine ev_iload_n (i := 3) rfl rfl (a_dec_at dc_Lw_value 108 rfl) ?_
                      refine ev_istore_n (i := 3) rfl (by decide) rfl (a_dec_at dc_Lw_value 109 rfl) ?_
                      refine ev_goto (tgt := 244) (a_dec_at dc_Lw_value 110 rfl) (by decide) ?_
                      refine ev_iinc (v := 1) rfl rfl (by decide) rfl (a_dec_at dc_Lw_value 121 rfl) ?_
                      refine ev_goto (tgt := 14) (a_dec_at dc_Lw_value 122 rfl) (by decide) ?_
                      exact Ev.drop (L' := [.ref 14, .ref 26, .retAddr 0, .int (v3 + 1), .int (v4 + (-1)), .int (v5 + 1), .retAddr 0]) (And.intro rfl (And.intro rfl (And.intro rfl (And.intro rfl (And.intro rfl trivial))))) H
                    · have H := H.2 b140
                      refine ev_iload rfl (a_dec_at dc_Lw_value 104 rfl) ?_
                      refine ev_sipush (v := 3000) rfl (a_dec_at dc_Lw_value 105 rfl) ?_
                      refine ev_isub (a_dec_at dc_Lw_value 106 rfl) ?_
                      refine ev_goto (tgt := 217) (a_dec_at dc_Lw_value 107 rfl) (by decide) ?_
                      refine ev_istore_n (i := 3) rfl (by decide) rfl (a_dec_at dc_Lw_value 109 rfl) ?_
                      refine ev_goto (tgt := 244) (a_dec_at dc_Lw_value 110 rfl) (by decide) ?_
                      refine ev_iinc (v := 1) rfl rfl (by decide) rfl (a_dec_at dc_Lw_value 121 rfl) ?_
                      refine ev_goto (tgt := 14) (a_dec_at dc_Lw_value 122 rfl) (by decide) ?_
                      exact Ev.drop (L' := [.ref 14, .ref 26, .retAddr 0, .int ((mi 26 v3.toNatClampNeg) - 3000), .int (v4 + (-1)), .int (v5 + 1), .retAddr 0]) (And.intro rfl (And.intro rfl (And.intro rfl (And.intro rfl (And.intro rfl trivial))))) H
            · have H := H.2 b117
              refine ev_iload rfl (a_dec_at dc_Lw_value 73 rfl) ?_
              refine ev_if_le (tgt := 173) (a_dec_at dc_Lw_value 74 rfl) (by decide) (fun b141 => ?_) (fun b141 => ?_)
              · have H := H.1 b141
                refine ev_iload rfl (a_dec_at dc_Lw_value 90 rfl) ?_
                refine ev_sipush (v := 3000) rfl (a_dec_at dc_Lw_value 91 rfl) ?_
                refine ev_icmp_lt (tgt := 221) (a_dec_at dc_Lw_value 92 rfl) (by decide) (fun b142 => ?_) (fun b142 => ?_)
                · have H := H.1 b142
                  refine ev_iload rfl (a_dec_at dc_Lw_value 111 rfl) ?_
                  refine ev_sipush (v := 2000) rfl (a_dec_at dc_Lw_value 112 rfl) ?_
                  refine ev_icmp_lt (tgt := 250) (a_dec_at dc_Lw_value 113 rfl) (by decide) (fun b143 => ?_) (fun b143 => ?_)
                  · have H := H.1 b143
                    refine ev_iload rfl (a_dec_at dc_Lw_value 123 rfl) ?_
                    refine ev_if_le (tgt := 267) (a_dec_at dc_Lw_value 124 rfl) (by decide) (fun b144 => ?_) (fun b144 => ?_)
                    · have H := H.1 b144
                      refine ev_iconst (v := 0) rfl (a_dec_at dc_Lw_value 132 rfl) ?_
                      exact m_retI (a_dec_at dc_Lw_value 133 rfl) rfl rfl H
                    · have H := H.2 b144
                      refine ev_aload_n (i := 0) rfl rfl (a_dec_at dc_Lw_value 125 rfl) ?_
                      refine m_getR (y := 16) fl_Lw_15 rfl sh14 (mr_14_1 _) (by decide) (a_dec_at dc_Lw_value 126 rfl) ?_
                      refine ev_iload rfl (a_dec_at dc_Lw_value 127 rfl) ?_
                      refine ev_iconst (v := 1) rfl (a_dec_at dc_Lw_value 128 rfl) ?_
                      refine ev_isub (a_dec_at dc_Lw_value 129 rfl) ?_
                      obtain ⟨c145, H⟩ := H
                      refine w_iald (k := (v4 - 1).toNatClampNeg) sh16 c145 rfl (a_dec_at dc_Lw_value 130 rfl) ?_
                      refine ev_goto (tgt := 268) (a_dec_at dc_Lw_value 131 rfl) (by decide) ?_
                      exact m_retI (a_dec_at dc_Lw_value 133 rfl) rfl rfl H
                  · have H := H.2 b143
                    refine ev_iload rfl (a_dec_at dc_Lw_value 114 rfl) ?_
                    refine ev_sipush (v := 3000) rfl (a_dec_at dc_Lw_value 115 rfl) ?_
                    refine ev_icmp_ge (tgt := 250) (a_dec_at dc_Lw_value 116 rfl) (by decide) (fun b146 => ?_) (fun b146 => ?_)
                    · have H := H.1 b146
                      refine ev_iload rfl (a_dec_at dc_Lw_value 123 rfl) ?_
                      refine ev_if_le (tgt := 267) (a_dec_at dc_Lw_value 124 rfl) (by decide) (fun b147 => ?_) (fun b147 => ?_)
                      · have H := H.1 b147
                        refine ev_iconst (v := 0) rfl (a_dec_at dc_Lw_value 132 rfl) ?_
                        exact m_retI (a_dec_at dc_Lw_value 133 rfl) rfl rfl H
                      · have H := H.2 b147
                        refine ev_aload_n (i := 0) rfl rfl (a_dec_at dc_Lw_value 125 rfl) ?_
                        refine m_getR (y := 16) fl_Lw_15 rfl sh14 (mr_14_1 _) (by decide) (a_dec_at dc_Lw_value 126 rfl) ?_
                        refine ev_iload rfl (a_dec_at dc_Lw_value 127 rfl) ?_
                        refine ev_iconst (v := 1) rfl (a_dec_at dc_Lw_value 128 rfl) ?_
                        refine ev_isub (a_dec_at dc_Lw_value 129 rfl) ?_
                        obtain ⟨c148, H⟩ := H
                        refine w_iald (k := (v4 - 1).toNatClampNeg) sh16 c148 rfl (a_dec_at dc_Lw_value 130 rfl) ?_
                        refine ev_goto (tgt := 268) (a_dec_at dc_Lw_value 131 rfl) (by decide) ?_
                        exact m_retI (a_dec_at dc_Lw_value 133 rfl) rfl rfl H
                    · have H := H.2 b146
                      refine ev_iload rfl (a_dec_at dc_Lw_value 117 rfl) ?_
                      refine ev_sipush (v := 2000) rfl (a_dec_at dc_Lw_value 118 rfl) ?_
                      refine ev_isub (a_dec_at dc_Lw_value 119 rfl) ?_
                      refine ev_istore_n (i := 3) rfl (by decide) rfl (a_dec_at dc_Lw_value 120 rfl) ?_
                      refine ev_iinc (v := 1) rfl rfl (by decide) rfl (a_dec_at dc_Lw_value 121 rfl) ?_
                      refine ev_goto (tgt := 14) (a_dec_at dc_Lw_value 122 rfl) (by decide) ?_
                      exact Ev.drop (L' := [.ref 14, .ref 26, .retAddr 0, .int ((mi 26 v3.toNatClampNeg) - 2000), .int v4, .int (v5 + 1), .retAddr 0]) (And.intro rfl (And.intro rfl (And.intro rfl (And.intro rfl (And.intro rfl trivial))))) H
                · have H := H.2 b142
                  refine ev_iload rfl (a_dec_at dc_Lw_value 93 rfl) ?_
                  refine ev_sipush (v := 4000) rfl (a_dec_at dc_Lw_value 94 rfl) ?_
                  refine ev_icmp_ge (tgt := 221) (a_dec_at dc_Lw_value 95 rfl) (by decide) (fun b149 => ?_) (fun b149 => ?_)
                  · have H := H.1 b149
                    refine ev_iload rfl (a_dec_at dc_Lw_value 111 rfl) ?_
                    refine ev_sipush (v := 2000) rfl (a_dec_at dc_Lw_value 112 rfl) ?_
                    refine ev_icmp_lt (tgt := 250) (a_dec_at dc_Lw_value 113 rfl) (by decide) (fun b150 => ?_) (fun b150 => ?_)
                    · have H := H.1 b150
                      refine ev_iload rfl (a_dec_at dc_Lw_value 123 rfl) ?_
                      refine ev_if_le (tgt := 267) (a_dec_at dc_Lw_value 124 rfl) (by decide) (fun b151 => ?_) (fun b151 => ?_)
                      · have H := H.1 b151
                        refine ev_iconst (v := 0) rfl (a_dec_at dc_Lw_value 132 rfl) ?_
                        exact m_retI (a_dec_at dc_Lw_value 133 rfl) rfl rfl H
                      · have H := H.2 b151
                        refine ev_aload_n (i := 0) rfl rfl (a_dec_at dc_Lw_value 125 rfl) ?_
                        refine m_getR (y := 16) fl_Lw_15 rfl sh14 (mr_14_1 _) (by decide) (a_dec_at dc_Lw_value 126 rfl) ?_
                        refine ev_iload rfl (a_dec_at dc_Lw_value 127 rfl) ?_
                        refine ev_iconst (v := 1) rfl (a_dec_at dc_Lw_value 128 rfl) ?_
                        refine ev_isub (a_dec_at dc_Lw_value 129 rfl) ?_
                        obtain ⟨c152, H⟩ := H
                        refine w_iald (k := (v4 - 1).toNatClampNeg) sh16 c152 rfl (a_dec_at dc_Lw_value 130 rfl) ?_
                        refine ev_goto (tgt := 268) (a_dec_at dc_Lw_value 131 rfl) (by decide) ?_
                        exact m_retI (a_dec_at dc_Lw_value 133 rfl) rfl rfl H
                    · have H := H.2 b150
                      refine ev_iload rfl (a_dec_at dc_Lw_value 114 rfl) ?_
                      refine ev_sipush (v := 3000) rfl (a_dec_at dc_Lw_value 115 rfl) ?_
                      refine ev_icmp_ge (tgt := 250) (a_dec_at dc_Lw_value 116 rfl) (by decide) (fun b153 => ?_) (fun b153 => ?_)
                      · have H := H.1 b153
                        refine ev_iload rfl (a_dec_at dc_Lw_value 123 rfl) ?_
                        refine ev_if_le (tgt := 267) (a_dec_at dc_Lw_value 124 rfl) (by decide) (fun b154 => ?_) (fun b154 => ?_)
                        · have H := H.1 b154
                          refine ev_iconst (v := 0) rfl (a_dec_at dc_Lw_value 132 rfl) ?_
                          exact m_retI (a_dec_at dc_Lw_value 133 rfl) rfl rfl H
                        · have H := H.2 b154
                          refine ev_aload_n (i := 0) rfl rfl (a_dec_at dc_Lw_value 125 rfl) ?_
                          refine m_getR (y := 16) fl_Lw_15 rfl sh14 (mr_14_1 _) (by decide) (a_dec_at dc_Lw_value 126 rfl) ?_
                          refine ev_iload rfl (a_dec_at dc_Lw_value 127 rfl) ?_
                          refine ev_iconst (v := 1) rfl (a_dec_at dc_Lw_value 128 rfl) ?_
                          refine ev_isub (a_dec_at dc_Lw_value 129 rfl) ?_
                          obtain ⟨c155, H⟩ := H
                          refine w_iald (k := (v4 - 1).toNatClampNeg) sh16 c155 rfl (a_dec_at dc_Lw_value 130 rfl) ?_
                          refine ev_goto (tgt := 268) (a_dec_at dc_Lw_value 131 rfl) (by decide) ?_
                          exact m_retI (a_dec_at dc_Lw_value 133 rfl) rfl rfl H
                      · have H := H.2 b153
                        refine ev_iload rfl (a_dec_at dc_Lw_value 117 rfl) ?_
                        refine ev_sipush (v := 2000) rfl (a_dec_at dc_Lw_value 118 rfl) ?_
                        refine ev_isub (a_dec_at dc_Lw_value 119 rfl) ?_
                        refine ev_istore_n (i := 3) rfl (by decide) rfl (a_dec_at dc_Lw_value 120 rfl) ?_
                        refine ev_iinc (v := 1) rfl rfl (by decide) rfl (a_dec_at dc_Lw_value 121 rfl) ?_
                        refine ev_goto (tgt := 14) (a_dec_at dc_Lw_value 122 rfl) (by decide) ?_
                        exact Ev.drop (L' := [.ref 14, .ref 26, .retAddr 0, .int ((mi 26 v3.toNatClampNeg) - 2000), .int v4, .int (v5 + 1), .retAddr 0]) (And.intro rfl (And.intro rfl (And.intro rfl (And.intro rfl (And.intro rfl trivial))))) H
                  · have H := H.2 b149
                    refine ev_iload rfl (a_dec_at dc_Lw_value 96 rfl) ?_
                    refine ev_if_le (tgt := 221) (a_dec_at dc_Lw_value 97 rfl) (by decide) (fun b156 => ?_) (fun b156 => ?_)
                    · have H := H.1 b156
                      refine ev_iload rfl (a_dec_at dc_Lw_value 111 rfl) ?_
                      refine ev_sipush (v := 2000) rfl (a_dec_at dc_Lw_value 112 rfl) ?_
                      refine ev_icmp_lt (tgt := 250) (a_dec_at dc_Lw_value 113 rfl) (by decide) (fun b157 => ?_) (fun b157 => ?_)
                      · have H := H.1 b157
                        refine ev_iload rfl (a_dec_at dc_Lw_value 123 rfl) ?_
                        refine ev_if_le (tgt := 267) (a_dec_at dc_Lw_value 124 rfl) (by decide) (fun b158 => ?_) (fun b158 => ?_)
                        · have H := H.1 b158
                          refine ev_iconst (v := 0) rfl (a_dec_at dc_Lw_value 132 rfl) ?_
                          exact m_retI (a_dec_at dc_Lw_value 133 rfl) rfl rfl H
                        · have H := H.2 b158
                          refine ev_aload_n (i := 0) rfl rfl (a_dec_at dc_Lw_value 125 rfl) ?_
                          refine m_getR (y := 16) fl_Lw_15 rfl sh14 (mr_14_1 _) (by decide) (a_dec_at dc_Lw_value 126 rfl) ?_
                          refine ev_iload rfl (a_dec_at dc_Lw_value 127 rfl) ?_
                          refine ev_iconst (v := 1) rfl (a_dec_at dc_Lw_value 128 rfl) ?_
                          refine ev_isub (a_dec_at dc_Lw_value 129 rfl) ?_
                          obtain ⟨c159, H⟩ := H
                          refine w_iald (k := (v4 - 1).toNatClampNeg) sh16 c159 rfl (a_dec_at dc_Lw_value 130 rfl) ?_
                          refine ev_goto (tgt := 268) (a_dec_at dc_Lw_value 131 rfl) (by decide) ?_
                          exact m_retI (a_dec_at dc_Lw_value 133 rfl) rfl rfl H
                      · have H := H.2 b157
                        refine ev_iload rfl (a_dec_at dc_Lw_value 114 rfl) ?_
                        refine ev_sipush (v := 3000) rfl (a_dec_at dc_Lw_value 115 rfl) ?_
                        refine ev_icmp_ge (tgt := 250) (a_dec_at dc_Lw_value 116 rfl) (by decide) (fun b160 => ?_) (fun b160 => ?_)
                        · have H := H.1 b160
                          refine ev_iload rfl (a_dec_at dc_Lw_value 123 rfl) ?_
                          refine ev_if_le (tgt := 267) (a_dec_at dc_Lw_value 124 rfl) (by decide) (fun b161 => ?_) (fun b161 => ?_)
                          · have H := H.1 b161
                            refine ev_iconst (v := 0) rfl (a_dec_at dc_Lw_value 132 rfl) ?_
                            exact m_retI (a_dec_at dc_Lw_value 133 rfl) rfl rfl H
                          · have H := H.2 b161
                            refine ev_aload_n (i := 0) rfl rfl (a_dec_at dc_Lw_value 125 rfl) ?_
                            refine m_getR (y := 16) fl_Lw_15 rfl sh14 (mr_14_1 _) (by decide) (a_dec_at dc_Lw_value 126 rfl) ?_
                            refine ev_iload rfl (a_dec_at dc_Lw_value 127 rfl) ?_
                            refine ev_iconst (v := 1) rfl (a_dec_at dc_Lw_value 128 rfl) ?_
                            refine ev_isub (a_dec_at dc_Lw_value 129 rfl) ?_
                            obtain ⟨c162, H⟩ := H
                            refine w_iald (k := (v4 - 1).toNatClampNeg) sh16 c162 rfl (a_dec_at dc_Lw_value 130 rfl) ?_
                            refine ev_goto (tgt := 268) (a_dec_at dc_Lw_value 131 rfl) (by decide) ?_
                            exact m_retI (a_dec_at dc_Lw_value 133 rfl) rfl rfl H
                        · have H := H.2 b160
                          refine ev_iload rfl (a_dec_at dc_Lw_value 117 rfl) ?_
                          refine ev_sipush (v := 2000) rfl (a_dec_at dc_Lw_value 118 rfl) ?_
                          refine ev_isub (a_dec_at dc_Lw_value 119 rfl) ?_
                          refine ev_istore_n (i := 3) rfl (by decide) rfl (a_dec_at dc_Lw_value 120 rfl) ?_
                          refine ev_iinc (v := 1) rfl rfl (by decide) rfl (a_dec_at dc_Lw_value 121 rfl) ?_
                          refine ev_goto (tgt := 14) (a_dec_at dc_Lw_value 122 rfl) (by decide) ?_
                          exact Ev.drop (L' := [.ref 14, .ref 26, .retAddr 0, .int ((mi 26 v3.toNatClampNeg) - 2000), .int v4, .int (v5 + 1), .retAddr 0]) (And.intro rfl (And.intro rfl (And.intro rfl (And.intro rfl (And.intro rfl trivial))))) H
                    · have H := H.2 b156
                      refine ev_iinc (v := (-1)) rfl rfl (by decide) rfl (a_dec_at dc_Lw_value 98 rfl) ?_
                      refine ev_aload_n (i := 0) rfl rfl (a_dec_at dc_Lw_value 99 rfl) ?_
                      refine m_getR (y := 16) fl_Lw_15 rfl sh14 (mr_14_1 _) (by decide) (a_dec_at dc_Lw_value 100 rfl) ?_
                      refine ev_iload rfl (a_dec_at dc_Lw_value 101 rfl) ?_
                      obtain ⟨c163, H⟩ := H
                      refine w_iald (k := (v4 + (-1)).toNatClampNeg) sh16 c163 rfl (a_dec_at dc_Lw_value 102 rfl) ?_
                      refine ev_if_ne (tgt := 216) (a_dec_at dc_Lw_value 103 rfl) (by decide) (fun b164 => ?_) (fun b164 => ?_)
                      · have H := H.1 b164
                        refine ev_iload_n (i := 3) rfl rfl (a_dec_at dc_Lw_value 108 rfl) ?_
                        refine ev_istore_n (i := 3) rfl (by decide) rfl (a_dec_at dc_Lw_value 109 rfl) ?_
                        refine ev_goto (tgt := 244) (a_dec_at dc_Lw_value 110 rfl) (by decide) ?_
                        refine ev_iinc (v := 1) rfl rfl (by decide) rfl (a_dec_at dc_Lw_value 121 rfl) ?_
                        refine ev_goto (tgt := 14) (a_dec_at dc_Lw_value 122 rfl) (by decide) ?_
                        exact Ev.drop (L' := [.ref 14, .ref 26, .retAddr 0, .int (v3 + 1), .int (v4 + (-1)), .int (v5 + 1), .retAddr 0]) (And.intro rfl (And.intro rfl (And.intro rfl (And.intro rfl (And.intro rfl trivial))))) H
                      · have H := H.2 b164
                        refine ev_iload rfl (a_dec_at dc_Lw_value 104 rfl) ?_
                        refine ev_sipush (v := 3000) rfl (a_dec_at dc_Lw_value 105 rfl) ?_
                        refine ev_isub (a_dec_at dc_Lw_value 106 rfl) ?_
                        refine ev_goto (tgt := 217) (a_dec_at dc_Lw_value 107 rfl) (by decide) ?_
                        refine ev_istore_n (i := 3) rfl (by decide) rfl (a_dec_at dc_Lw_value 109 rfl) ?_
                        refine ev_goto (tgt := 244) (a_dec_at dc_Lw_value 110 rfl) (by decide) ?_
                        refine ev_iinc (v := 1) rfl rfl (by decide) rfl (a_dec_at dc_Lw_value 121 rfl) ?_
                        refine ev_goto (tgt := 14) (a_dec_at dc_Lw_value 122 rfl) (by decide) ?_
                        exact Ev.drop (L' := [.ref 14, .ref 26, .retAddr 0, .int ((mi 26 v3.toNatClampNeg) - 3000), .int (v4 + (-1)), .int (v5 + 1), .retAddr 0]) (And.intro rfl (And.intro rfl (And.intro rfl (And.intro rfl (And.intro rfl trivial))))) H
              · have H := H.2 b141
                refine ev_aload_n (i := 0) rfl rfl (a_dec_at dc_Lw_value 75 rfl) ?_
                refine m_getR (y := 16) fl_Lw_15 rfl sh14 (mr_14_1 _) (by decide) (a_dec_at dc_Lw_value 76 rfl) ?_
                refine ev_iload rfl (a_dec_at dc_Lw_value 77 rfl) ?_
                refine ev_iconst (v := 1) rfl (a_dec_at dc_Lw_value 78 rfl) ?_
                refine ev_isub (a_dec_at dc_Lw_value 79 rfl) ?_
                refine ev_iconst (v := 1) rfl (a_dec_at dc_Lw_value 80 rfl) ?_
                refine ev_aload_n (i := 0) rfl rfl (a_dec_at dc_Lw_value 81 rfl) ?_
                refine m_getR (y := 16) fl_Lw_15 rfl sh14 (mr_14_1 _) (by decide) (a_dec_at dc_Lw_value 82 rfl) ?_
                refine ev_iload rfl (a_dec_at dc_Lw_value 83 rfl) ?_
                refine ev_iconst (v := 1) rfl (a_dec_at dc_Lw_value 84 rfl) ?_
                refine ev_isub (a_dec_at dc_Lw_value 85 rfl) ?_
                obtain ⟨c165, H⟩ := H
                refine w_iald (k := (v4 - 1).toNatClampNeg) sh16 c165 rfl (a_dec_at dc_Lw_value 86 rfl) ?_
                refine ev_isub (a_dec_at dc_Lw_value 87 rfl) ?_
                obtain ⟨c166, H⟩ := H
                refine w_iast (k := (v4 - 1).toNatClampNeg) sh16 c166 rfl (a_dec_at dc_Lw_value 88 rfl) ?_
                refine ev_goto (tgt := 244) (a_dec_at dc_Lw_value 89 rfl) (by decide) ?_
                refine ev_iinc (v := 1) rfl rfl (by decide) rfl (a_dec_at dc_Lw_value 121 rfl) ?_
                refine ev_goto (tgt := 14) (a_dec_at dc_Lw_value 122 rfl) (by decide) ?_
                exact Ev.drop (L' := [.ref 14, .ref 26, .retAddr 0, .int (v3 + 1), .int v4, .int (v5 + 1), .retAddr 0]) (And.intro rfl (And.intro rfl (And.intro rfl (And.intro rfl (And.intro rfl trivial))))) H
          · have H := H.2 b116
            refine ev_iload rfl (a_dec_at dc_Lw_value 47 rfl) ?_
            refine ev_iconst (v := 1) rfl (a_dec_at dc_Lw_value 48 rfl) ?_
            refine ev_icmp_le (tgt := 137) (a_dec_at dc_Lw_value 49 rfl) (by decide) (fun b167 => ?_) (fun b167 => ?_)
            · have H := H.1 b167
              refine ev_iload rfl (a_dec_at dc_Lw_value 70 rfl) ?_
              refine ev_sipush (v := 5000) rfl (a_dec_at dc_Lw_value 71 rfl) ?_
              refine ev_icmp_ne (tgt := 173) (a_dec_at dc_Lw_value 72 rfl) (by decide) (fun b168 => ?_) (fun b168 => ?_)
              · have H := H.1 b168
                refine ev_iload rfl (a_dec_at dc_Lw_value 90 rfl) ?_
                refine ev_sipush (v := 3000) rfl (a_dec_at dc_Lw_value 91 rfl) ?_
                refine ev_icmp_lt (tgt := 221) (a_dec_at dc_Lw_value 92 rfl) (by decide) (fun b169 => ?_) (fun b169 => ?_)
                · have H := H.1 b169
                  refine ev_iload rfl (a_dec_at dc_Lw_value 111 rfl) ?_
                  refine ev_sipush (v := 2000) rfl (a_dec_at dc_Lw_value 112 rfl) ?_
                  refine ev_icmp_lt (tgt := 250) (a_dec_at dc_Lw_value 113 rfl) (by decide) (fun b170 => ?_) (fun b170 => ?_)
                  · have H := H.1 b170
                    refine ev_iload rfl (a_dec_at dc_Lw_value 123 rfl) ?_
                    refine ev_if_le (tgt := 267) (a_dec_at dc_Lw_value 124 rfl) (by decide) (fun b171 => ?_) (fun b171 => ?_)
                    · have H := H.1 b171
                      refine ev_iconst (v := 0) rfl (a_dec_at dc_Lw_value 132 rfl) ?_
                      exact m_retI (a_dec_at dc_Lw_value 133 rfl) rfl rfl H
                    · have H := H.2 b171
                      refine ev_aload_n (i := 0) rfl rfl (a_dec_at dc_Lw_value 125 rfl) ?_
                      refine m_getR (y := 16) fl_Lw_15 rfl sh14 (mr_14_1 _) (by decide) (a_dec_at dc_Lw_value 126 rfl) ?_
                      refine ev_iload rfl (a_dec_at dc_Lw_value 127 rfl) ?_
                      refine ev_iconst (v := 1) rfl (a_dec_at dc_Lw_value 128 rfl) ?_
                      refine ev_isub (a_dec_at dc_Lw_value 129 rfl) ?_
                      obtain ⟨c172, H⟩ := H
                      refine w_iald (k := (v4 - 1).toNatClampNeg) sh16 c172 rfl (a_dec_at dc_Lw_value 130 rfl) ?_
                      refine ev_goto (tgt := 268) (a_dec_at dc_Lw_value 131 rfl) (by decide) ?_
                      exact m_retI (a_dec_at dc_Lw_value 133 rfl) rfl rfl H
                  · have H := H.2 b170
                    refine ev_iload rfl (a_dec_at dc_Lw_value 114 rfl) ?_
                    refine ev_sipush (v := 3000) rfl (a_dec_at dc_Lw_value 115 rfl) ?_
                    refine ev_icmp_ge (tgt := 250) (a_dec_at dc_Lw_value 116 rfl) (by decide) (fun b173 => ?_) (fun b173 => ?_)
                    · have H := H.1 b173
                      refine ev_iload rfl (a_dec_at dc_Lw_value 123 rfl) ?_
                      refine ev_if_le (tgt := 267) (a_dec_at dc_Lw_value 124 rfl) (by decide) (fun b174 => ?_) (fun b174 => ?_)
                      · have H := H.1 b174
                        refine ev_iconst (v := 0) rfl (a_dec_at dc_Lw_value 132 rfl) ?_
                        exact m_retI (a_dec_at dc_Lw_value 133 rfl) rfl rfl H
                      · have H := H.2 b174
                        refine ev_aload_n (i := 0) rfl rfl (a_dec_at dc_Lw_value 125 rfl) ?_
                        refine m_getR (y := 16) fl_Lw_15 rfl sh14 (mr_14_1 _) (by decide) (a_dec_at dc_Lw_value 126 rfl) ?_
                        refine ev_iload rfl (a_dec_at dc_Lw_value 127 rfl) ?_
                        refine ev_iconst (v := 1) rfl (a_dec_at dc_Lw_value 128 rfl) ?_
                        refine ev_isub (a_dec_at dc_Lw_value 129 rfl) ?_
                        obtain ⟨c175, H⟩ := H
                        refine w_iald (k := (v4 - 1).toNatClampNeg) sh16 c175 rfl (a_dec_at dc_Lw_value 130 rfl) ?_
                        refine ev_goto (tgt := 268) (a_dec_at dc_Lw_value 131 rfl) (by decide) ?_
                        exact m_retI (a_dec_at dc_Lw_value 133 rfl) rfl rfl H
                    · have H := H.2 b173
                      refine ev_iload rfl (a_dec_at dc_Lw_value 117 rfl) ?_
                      refine ev_sipush (v := 2000) rfl (a_dec_at dc_Lw_value 118 rfl) ?_
                      refine ev_isub (a_dec_at dc_Lw_value 119 rfl) ?_
                      refine ev_istore_n (i := 3) rfl (by decide) rfl (a_dec_at dc_Lw_value 120 rfl) ?_
                      refine ev_iinc (v := 1) rfl rfl (by decide) rfl (a_dec_at dc_Lw_value 121 rfl) ?_
                      refine ev_goto (tgt := 14) (a_dec_at dc_Lw_value 122 rfl) (by decide) ?_
                      exact Ev.drop (L' := [.ref 14, .ref 26, .retAddr 0, .int ((mi 26 v3.toNatClampNeg) - 2000), .int v4, .int (v5 + 1), .retAddr 0]) (And.intro rfl (And.intro rfl (And.intro rfl (And.intro rfl (And.intro rfl trivial))))) H
                · have H := H.2 b169
                  refine ev_iload rfl (a_dec_at dc_Lw_value 93 rfl) ?_
                  refine ev_sipush (v := 4000) rfl (a_dec_at dc_Lw_value 94 rfl) ?_
                  refine ev_icmp_ge (tgt := 221) (a_dec_at dc_Lw_value 95 rfl) (by decide) (fun b176 => ?_) (fun b176 => ?_)
                  · have H := H.1 b176
                    refine ev_iload rfl (a_dec_at dc_Lw_value 111 rfl) ?_
                    refine ev_sipush (v := 2000) rfl (a_dec_at dc_Lw_value 112 rfl) ?_
                    refine ev_icmp_lt (tgt := 250) (a_dec_at dc_Lw_value 113 rfl) (by decide) (fun b177 => ?_) (fun b177 => ?_)
                    · have H := H.1 b177
                      refine ev_iload rfl (a_dec_at dc_Lw_value 123 rfl) ?_
                      refine ev_if_le (tgt := 267) (a_dec_at dc_Lw_value 124 rfl) (by decide) (fun b178 => ?_) (fun b178 => ?_)
                      · have H := H.1 b178
                        refine ev_iconst (v := 0) rfl (a_dec_at dc_Lw_value 132 rfl) ?_
                        exact m_retI (a_dec_at dc_Lw_value 133 rfl) rfl rfl H
                      · have H := H.2 b178
                        refine ev_aload_n (i := 0) rfl rfl (a_dec_at dc_Lw_value 125 rfl) ?_
                        refine m_getR (y := 16) fl_Lw_15 rfl sh14 (mr_14_1 _) (by decide) (a_dec_at dc_Lw_value 126 rfl) ?_
                        refine ev_iload rfl (a_dec_at dc_Lw_value 127 rfl) ?_
                        refine ev_iconst (v := 1) rfl (a_dec_at dc_Lw_value 128 rfl) ?_
                        refine ev_isub (a_dec_at dc_Lw_value 129 rfl) ?_
                        obtain ⟨c179, H⟩ := H
                        refine w_iald (k := (v4 - 1).toNatClampNeg) sh16 c179 rfl (a_dec_at dc_Lw_value 130 rfl) ?_
                        refine ev_goto (tgt := 268) (a_dec_at dc_Lw_value 131 rfl) (by decide) ?_
                        exact m_retI (a_dec_at dc_Lw_value 133 rfl) rfl rfl H
                    · have H := H.2 b177
                      refine ev_iload rfl (a_dec_at dc_Lw_value 114 rfl) ?_
                      refine ev_sipush (v := 3000) rfl (a_dec_at dc_Lw_value 115 rfl) ?_
                      refine ev_icmp_ge (tgt := 250) (a_dec_at dc_Lw_value 116 rfl) (by decide) (fun b180 => ?_) (fun b180 => ?_)
                      · have H := H.1 b180
                        refine ev_iload rfl (a_dec_at dc_Lw_value 123 rfl) ?_
                        refine ev_if_le (tgt := 267) (a_dec_at dc_Lw_value 124 rfl) (by decide) (fun b181 => ?_) (fun b181 => ?_)
                        · have H := H.1 b181
                          refine ev_iconst (v := 0) rfl (a_dec_at dc_Lw_value 132 rfl) ?_
                          exact m_retI (a_dec_at dc_Lw_value 133 rfl) rfl rfl H
                        · have H := H.2 b181
                          refine ev_aload_n (i := 0) rfl rfl (a_dec_at dc_Lw_value 125 rfl) ?_
                          refine m_getR (y := 16) fl_Lw_15 rfl sh14 (mr_14_1 _) (by decide) (a_dec_at dc_Lw_value 126 rfl) ?_
                          refine ev_iload rfl (a_dec_at dc_Lw_value 127 rfl) ?_
                          refine ev_iconst (v := 1) rfl (a_dec_at dc_Lw_value 128 rfl) ?_
                          refine ev_isub (a_dec_at dc_Lw_value 129 rfl) ?_
                          obtain ⟨c182, H⟩ := H
                          refine w_iald (k := (v4 - 1).toNatClampNeg) sh16 c182 rfl (a_dec_at dc_Lw_value 130 rfl) ?_
                          refine ev_goto (tgt := 268) (a_dec_at dc_Lw_value 131 rfl) (by decide) ?_
                          exact m_retI (a_dec_at dc_Lw_value 133 rfl) rfl rfl H
                      · have H := H.2 b180
                        refine ev_iload rfl (a_dec_at dc_Lw_value 117 rfl) ?_
                        refine ev_sipush (v := 2000) rfl (a_dec_at dc_Lw_value 118 rfl) ?_
                        refine ev_isub (a_dec_at dc_Lw_value 119 rfl) ?_
                        refine ev_istore_n (i := 3) rfl (by decide) rfl (a_dec_at dc_Lw_value 120 rfl) ?_
                        refine ev_iinc (v := 1) rfl rfl (by decide) rfl (a_dec_at dc_Lw_value 121 rfl) ?_
                        refine ev_goto (tgt := 14) (a_dec_at dc_Lw_value 122 rfl) (by decide) ?_
                        exact Ev.drop (L' := [.ref 14, .ref 26, .retAddr 0, .int ((mi 26 v3.toNatClampNeg) - 2000), .int v4, .int (v5 + 1), .retAddr 0]) (And.intro rfl (And.intro rfl (And.intro rfl (And.intro rfl (And.intro rfl trivial))))) H
                  · have H := H.2 b176
                    refine ev_iload rfl (a_dec_at dc_Lw_value 96 rfl) ?_
                    refine ev_if_le (tgt := 221) (a_dec_at dc_Lw_value 97 rfl) (by decide) (fun b183 => ?_) (fun b183 => ?_)
                    · have H := H.1 b183
                      refine ev_iload rfl (a_dec_at dc_Lw_value 111 rfl) ?_
                      refine ev_sipush (v := 2000) rfl (a_dec_at dc_Lw_value 112 rfl) ?_
                      refine ev_icmp_lt (tgt := 250) (a_dec_at dc_Lw_value 113 rfl) (by decide) (fun b184 => ?_) (fun b184 => ?_)
                      · have H := H.1 b184
                        refine ev_iload rfl (a_dec_at dc_Lw_value 123 rfl) ?_
                        refine ev_if_le (tgt := 267) (a_dec_at dc_Lw_value 124 rfl) (by decide) (fun b185 => ?_) (fun b185 => ?_)
                        · have H := H.1 b185
                          refine ev_iconst (v := 0) rfl (a_dec_at dc_Lw_value 132 rfl) ?_
                          exact m_retI (a_dec_at dc_Lw_value 133 rfl) rfl rfl H
                        · have H := H.2 b185
                          refine ev_aload_n (i := 0) rfl rfl (a_dec_at dc_Lw_value 125 rfl) ?_
                          refine m_getR (y := 16) fl_Lw_15 rfl sh14 (mr_14_1 _) (by decide) (a_dec_at dc_Lw_value 126 rfl) ?_
                          refine ev_iload rfl (a_dec_at dc_Lw_value 127 rfl) ?_
                          refine ev_iconst (v := 1) rfl (a_dec_at dc_Lw_value 128 rfl) ?_
                          refine ev_isub (a_dec_at dc_Lw_value 129 rfl) ?_
                          obtain ⟨c186, H⟩ := H
                          refine w_iald (k := (v4 - 1).toNatClampNeg) sh16 c186 rfl (a_dec_at dc_Lw_value 130 rfl) ?_
                          refine ev_goto (tgt := 268) (a_dec_at dc_Lw_value 131 rfl) (by decide) ?_
                          exact m_retI (a_dec_at dc_Lw_value 133 rfl) rfl rfl H
                      · have H := H.2 b184
                        refine ev_iload rfl (a_dec_at dc_Lw_value 114 rfl) ?_
                        refine ev_sipush (v := 3000) rfl (a_dec_at dc_Lw_value 115 rfl) ?_
                        refine ev_icmp_ge (tgt := 250) (a_dec_at dc_Lw_value 116 rfl) (by decide) (fun b187 => ?_) (fun b187 => ?_)
                        · have H := H.1 b187
                          refine ev_iload rfl (a_dec_at dc_Lw_value 123 rfl) ?_
                          refine ev_if_le (tgt := 267) (a_dec_at dc_Lw_value 124 rfl) (by decide) (fun b188 => ?_) (fun b188 => ?_)
                          · have H := H.1 b188
                            refine ev_iconst (v := 0) rfl (a_dec_at dc_Lw_value 132 rfl) ?_
                            exact m_retI (a_dec_at dc_Lw_value 133 rfl) rfl rfl H
                          · have H := H.2 b188
                            refine ev_aload_n (i := 0) rfl rfl (a_dec_at dc_Lw_value 125 rfl) ?_
                            refine m_getR (y := 16) fl_Lw_15 rfl sh14 (mr_14_1 _) (by decide) (a_dec_at dc_Lw_value 126 rfl) ?_
                            refine ev_iload rfl (a_dec_at dc_Lw_value 127 rfl) ?_
                            refine ev_iconst (v := 1) rfl (a_dec_at dc_Lw_value 128 rfl) ?_
                            refine ev_isub (a_dec_at dc_Lw_value 129 rfl) ?_
                            obtain ⟨c189, H⟩ := H
                            refine w_iald (k := (v4 - 1).toNatClampNeg) sh16 c189 rfl (a_dec_at dc_Lw_value 130 rfl) ?_
                            refine ev_goto (tgt := 268) (a_dec_at dc_Lw_value 131 rfl) (by decide) ?_
                            exact m_retI (a_dec_at dc_Lw_value 133 rfl) rfl rfl H
                        · have H := H.2 b187
                          refine ev_iload rfl (a_dec_at dc_Lw_value 117 rfl) ?_
                          refine ev_sipush (v := 2000) rfl (a_dec_at dc_Lw_value 118 rfl) ?_
                          refine ev_isub (a_dec_at dc_Lw_value 119 rfl) ?_
                          refine ev_istore_n (i := 3) rfl (by decide) rfl (a_dec_at dc_Lw_value 120 rfl) ?_
                          refine ev_iinc (v := 1) rfl rfl (by decide) rfl (a_dec_at dc_Lw_value 121 rfl) ?_
                          refine ev_goto (tgt := 14) (a_dec_at dc_Lw_value 122 rfl) (by decide) ?_
                          exact Ev.drop (L' := [.ref 14, .ref 26, .retAddr 0, .int ((mi 26 v3.toNatClampNeg) - 2000), .int v4, .int (v5 + 1), .retAddr 0]) (And.intro rfl (And.intro rfl (And.intro rfl (And.intro rfl (And.intro rfl trivial))))) H
                    · have H := H.2 b183
                      refine ev_iinc (v := (-1)) rfl rfl (by decide) rfl (a_dec_at dc_Lw_value 98 rfl) ?_
                      refine ev_aload_n (i := 0) rfl rfl (a_dec_at dc_Lw_value 99 rfl) ?_
                      refine m_getR (y := 16) fl_Lw_15 rfl sh14 (mr_14_1 _) (by decide) (a_dec_at dc_Lw_value 100 rfl) ?_
                      refine ev_iload rfl (a_dec_at dc_Lw_value 101 rfl) ?_
                      obtain ⟨c190, H⟩ := H
                      refine w_iald (k := (v4 + (-1)).toNatClampNeg) sh16 c190 rfl (a_dec_at dc_Lw_value 102 rfl) ?_
                      refine ev_if_ne (tgt := 216) (a_dec_at dc_Lw_value 103 rfl) (by decide) (fun b191 => ?_) (fun b191 => ?_)
                      · have H := H.1 b191
                        refine ev_iload_n (i := 3) rfl rfl (a_dec_at dc_Lw_value 108 rfl) ?_
                        refine ev_istore_n (i := 3) rfl (by decide) rfl (a_dec_at dc_Lw_value 109 rfl) ?_
                        refine ev_goto (tgt := 244) (a_dec_at dc_Lw_value 110 rfl) (by decide) ?_
                        refine ev_iinc (v := 1) rfl rfl (by decide) rfl (a_dec_at dc_Lw_value 121 rfl) ?_
                        refine ev_goto (tgt := 14) (a_dec_at dc_Lw_value 122 rfl) (by decide) ?_
                        exact Ev.drop (L' := [.ref 14, .ref 26, .retAddr 0, .int (v3 + 1), .int (v4 + (-1)), .int (v5 + 1), .retAddr 0]) (And.intro rfl (And.intro rfl (And.intro rfl (And.intro rfl (And.intro rfl trivial))))) H
                      · have H := H.2 b191
                        refine ev_iload rfl (a_dec_at dc_Lw_value 104 rfl) ?_
                        refine ev_sipush (v := 3000) rfl (a_dec_at dc_Lw_value 105 rfl) ?_
                        refine ev_isub (a_dec_at dc_Lw_value 106 rfl) ?_
                        refine ev_goto (tgt := 217) (a_dec_at dc_Lw_value 107 rfl) (by decide) ?_
                        refine ev_istore_n (i := 3) rfl (by decide) rfl (a_dec_at dc_Lw_value 109 rfl) ?_
                        refine ev_goto (tgt := 244) (a_dec_at dc_Lw_value 110 rfl) (by decide) ?_
                        refine ev_iinc (v := 1) rfl rfl (by decide) rfl (a_dec_at dc_Lw_value 121 rfl) ?_
                        refine ev_goto (tgt := 14) (a_dec_at dc_Lw_value 122 rfl) (by decide) ?_
                        exact Ev.drop (L' := [.ref 14, .ref 26, .retAddr 0, .int ((mi 26 v3.toNatClampNeg) - 3000), .int (v4 + (-1)), .int (v5 + 1), .retAddr 0]) (And.intro rfl (And.intro rfl (And.intro rfl (And.intro rfl (And.intro rfl trivial))))) H
              · have H := H.2 b168
                refine ev_iload rfl (a_dec_at dc_Lw_value 73 rfl) ?_
                refine ev_if_le (tgt := 173) (a_dec_at dc_Lw_value 74 rfl) (by decide) (fun b192 => ?_) (fun b192 => ?_)
                · have H := H.1 b192
                  refine ev_iload rfl (a_dec_at dc_Lw_value 90 rfl) ?_
                  refine ev_sipush (v := 3000) rfl (a_dec_at dc_Lw_value 91 rfl) ?_
                  refine ev_icmp_lt (tgt := 221) (a_dec_at dc_Lw_value 92 rfl) (by decide) (fun b193 => ?_) (fun b193 => ?_)
                  · have H := H.1 b193
                    refine ev_iload rfl (a_dec_at dc_Lw_value 111 rfl) ?_
                    refine ev_sipush (v := 2000) rfl (a_dec_at dc_Lw_value 112 rfl) ?_
                    refine ev_icmp_lt (tgt := 250) (a_dec_at dc_Lw_value 113 rfl) (by decide) (fun b194 => ?_) (fun b194 => ?_)
                    · have H := H.1 b194
                      refine ev_iload rfl (a_dec_at dc_Lw_value 123 rfl) ?_
                      refine ev_if_le (tgt := 267) (a_dec_at dc_Lw_value 124 rfl) (by decide) (fun b195 => ?_) (fun b195 => ?_)
                      · have H := H.1 b195
                        refine ev_iconst (v := 0) rfl (a_dec_at dc_Lw_value 132 rfl) ?_
                        exact m_retI (a_dec_at dc_Lw_value 133 rfl) rfl rfl H
                      · have H := H.2 b195
                        refine ev_aload_n (i := 0) rfl rfl (a_dec_at dc_Lw_value 125 rfl) ?_
                        refine m_getR (y := 16) fl_Lw_15 rfl sh14 (mr_14_1 _) (by decide) (a_dec_at dc_Lw_value 126 rfl) ?_
                        refine ev_iload rfl (a_dec_at dc_Lw_value 127 rfl) ?_
                        refine ev_iconst (v := 1) rfl (a_dec_at dc_Lw_value 128 rfl) ?_
                        refine ev_isub (a_dec_at dc_Lw_value 129 rfl) ?_
                        obtain ⟨c196, H⟩ := H
                        refine w_iald (k := (v4 - 1).toNatClampNeg) sh16 c196 rfl (a_dec_at dc_Lw_value 130 rfl) ?_
                        refine ev_goto (tgt := 268) (a_dec_at dc_Lw_value 131 rfl) (by decide) ?_
                        exact m_retI (a_dec_at dc_Lw_value 133 rfl) rfl rfl H
                    · have H := H.2 b194
                      refine ev_iload rfl (a_dec_at dc_Lw_value 114 rfl) ?_
                      refine ev_sipush (v := 3000) rfl (a_dec_at dc_Lw_value 115 rfl) ?_
                      refine ev_icmp_ge (tgt := 250) (a_dec_at dc_Lw_value 116 rfl) (by decide) (fun b197 => ?_) (fun b197 => ?_)
                      · have H := H.1 b197
                        refine ev_iload rfl (a_dec_at dc_Lw_value 123 rfl) ?_
                        refine ev_if_le (tgt := 267) (a_dec_at dc_Lw_value 124 rfl) (by decide) (fun b198 => ?_) (fun b198 => ?_)
                        · have H := H.1 b198
                          refine ev_iconst (v := 0) rfl (a_dec_at dc_Lw_value 132 rfl) ?_
                          exact m_retI (a_dec_at dc_Lw_value 133 rfl) rfl rfl H
                        · have H := H.2 b198
                          refine ev_aload_n (i := 0) rfl rfl (a_dec_at dc_Lw_value 125 rfl) ?_
                          refine m_getR (y := 16) fl_Lw_15 rfl sh14 (mr_14_1 _) (by decide) (a_dec_at dc_Lw_value 126 rfl) ?_
                          refine ev_iload rfl (a_dec_at dc_Lw_value 127 rfl) ?_
                          refine ev_iconst (v := 1) rfl (a_dec_at dc_Lw_value 128 rfl) ?_
                          refine ev_isub (a_dec_at dc_Lw_value 129 rfl) ?_
                          obtain ⟨c199, H⟩ := H
                          refine w_iald (k := (v4 - 1).toNatClampNeg) sh16 c199 rfl (a_dec_at dc_Lw_value 130 rfl) ?_
                          refine ev_goto (tgt := 268) (a_dec_at dc_Lw_value 131 rfl) (by decide) ?_
                          exact m_retI (a_dec_at dc_Lw_value 133 rfl) rfl rfl H
                      · have H := H.2 b197
                        refine ev_iload rfl (a_dec_at dc_Lw_value 117 rfl) ?_
                        refine ev_sipush (v := 2000) rfl (a_dec_at dc_Lw_value 118 rfl) ?_
                        refine ev_isub (a_dec_at dc_Lw_value 119 rfl) ?_
                        refine ev_istore_n (i := 3) rfl (by decide) rfl (a_dec_at dc_Lw_value 120 rfl) ?_
                        refine ev_iinc (v := 1) rfl rfl (by decide) rfl (a_dec_at dc_Lw_value 121 rfl) ?_
                        refine ev_goto (tgt := 14) (a_dec_at dc_Lw_value 122 rfl) (by decide) ?_
                        exact Ev.drop (L' := [.ref 14, .ref 26, .retAddr 0, .int ((mi 26 v3.toNatClampNeg) - 2000), .int v4, .int (v5 + 1), .retAddr 0]) (And.intro rfl (And.intro rfl (And.intro rfl (And.intro rfl (And.intro rfl trivial))))) H
                  · have H := H.2 b193
                    refine ev_iload rfl (a_dec_at dc_Lw_value 93 rfl) ?_
                    refine ev_sipush (v := 4000) rfl (a_dec_at dc_Lw_value 94 rfl) ?_
                    refine ev_icmp_ge (tgt := 221) (a_dec_at dc_Lw_value 95 rfl) (by decide) (fun b200 => ?_) (fun b200 => ?_)
                    · have H := H.1 b200
                      refine ev_iload rfl (a_dec_at dc_Lw_value 111 rfl) ?_
                      refine ev_sipush (v := 2000) rfl (a_dec_at dc_Lw_value 112 rfl) ?_
                      refine ev_icmp_lt (tgt := 250) (a_dec_at dc_Lw_value 113 rfl) (by decide) (fun b201 => ?_) (fun b201 => ?_)
                      · have H := H.1 b201
                        refine ev_iload rfl (a_dec_at dc_Lw_value 123 rfl) ?_
                        refine ev_if_le (tgt := 267) (a_dec_at dc_Lw_value 124 rfl) (by decide) (fun b202 => ?_) (fun b202 => ?_)
                        · have H := H.1 b202
                          refine ev_iconst (v := 0) rfl (a_dec_at dc_Lw_value 132 rfl) ?_
                          exact m_retI (a_dec_at dc_Lw_value 133 rfl) rfl rfl H
                        · have H := H.2 b202
                          refine ev_aload_n (i := 0) rfl rfl (a_dec_at dc_Lw_value 125 rfl) ?_
                          refine m_getR (y := 16) fl_Lw_15 rfl sh14 (mr_14_1 _) (by decide) (a_dec_at dc_Lw_value 126 rfl) ?_
                          refine ev_iload rfl (a_dec_at dc_Lw_value 127 rfl) ?_
                          refine ev_iconst (v := 1) rfl (a_dec_at dc_Lw_value 128 rfl) ?_
                          refine ev_isub (a_dec_at dc_Lw_value 129 rfl) ?_
                          obtain ⟨c203, H⟩ := H
                          refine w_iald (k := (v4 - 1).toNatClampNeg) sh16 c203 rfl (a_dec_at dc_Lw_value 130 rfl) ?_
                          refine ev_goto (tgt := 268) (a_dec_at dc_Lw_value 131 rfl) (by decide) ?_
                          exact m_retI (a_dec_at dc_Lw_value 133 rfl) rfl rfl H
                      · have H := H.2 b201
                        refine ev_iload rfl (a_dec_at dc_Lw_value 114 rfl) ?_
                        refine ev_sipush (v := 3000) rfl (a_dec_at dc_Lw_value 115 rfl) ?_
                        refine ev_icmp_ge (tgt := 250) (a_dec_at dc_Lw_value 116 rfl) (by decide) (fun b204 => ?_) (fun b204 => ?_)
                        · have H := H.1 b204
                          refine ev_iload rfl (a_dec_at dc_Lw_value 123 rfl) ?_
                          refine ev_if_le (tgt := 267) (a_dec_at dc_Lw_value 124 rfl) (by decide) (fun b205 => ?_) (fun b205 => ?_)
                          · have H := H.1 b205
                            refine ev_iconst (v := 0) rfl (a_dec_at dc_Lw_value 132 rfl) ?_
                            exact m_retI (a_dec_at dc_Lw_value 133 rfl) rfl rfl H
                          · have H := H.2 b205
                            refine ev_aload_n (i := 0) rfl rfl (a_dec_at dc_Lw_value 125 rfl) ?_
                            refine m_getR (y := 16) fl_Lw_15 rfl sh14 (mr_14_1 _) (by decide) (a_dec_at dc_Lw_value 126 rfl) ?_
                            refine ev_iload rfl (a_dec_at dc_Lw_value 127 rfl) ?_
                            refine ev_iconst (v := 1) rfl (a_dec_at dc_Lw_value 128 rfl) ?_
                            refine ev_isub (a_dec_at dc_Lw_value 129 rfl) ?_
                            obtain ⟨c206, H⟩ := H
                            refine w_iald (k := (v4 - 1).toNatClampNeg) sh16 c206 rfl (a_dec_at dc_Lw_value 130 rfl) ?_
                            refine ev_goto (tgt := 268) (a_dec_at dc_Lw_value 131 rfl) (by decide) ?_
                            exact m_retI (a_dec_at dc_Lw_value 133 rfl) rfl rfl H
                        · have H := H.2 b204
                          refine ev_iload rfl (a_dec_at dc_Lw_value 117 rfl) ?_
                          refine ev_sipush (v := 2000) rfl (a_dec_at dc_Lw_value 118 rfl) ?_
                          refine ev_isub (a_dec_at dc_Lw_value 119 rfl) ?_
                          refine ev_istore_n (i := 3) rfl (by decide) rfl (a_dec_at dc_Lw_value 120 rfl) ?_
                          refine ev_iinc (v := 1) rfl rfl (by decide) rfl (a_dec_at dc_Lw_value 121 rfl) ?_
                          refine ev_goto (tgt := 14) (a_dec_at dc_Lw_value 122 rfl) (by decide) ?_
                          exact Ev.drop (L' := [.ref 14, .ref 26, .retAddr 0, .int ((mi 26 v3.toNatClampNeg) - 2000), .int v4, .int (v5 + 1), .retAddr 0]) (And.intro rfl (And.intro rfl (And.intro rfl (And.intro rfl (And.intro rfl trivial))))) H
                    · have H := H.2 b200
                      refine ev_iload rfl (a_dec_at dc_Lw_value 96 rfl) ?_
                      refine ev_if_le (tgt := 221) (a_dec_at dc_Lw_value 97 rfl) (by decide) (fun b207 => ?_) (fun b207 => ?_)
                      · have H := H.1 b207
                        refine ev_iload rfl (a_dec_at dc_Lw_value 111 rfl) ?_
                        refine ev_sipush (v := 2000) rfl (a_dec_at dc_Lw_value 112 rfl) ?_
                        refine ev_icmp_lt (tgt := 250) (a_dec_at dc_Lw_value 113 rfl) (by decide) (fun b208 => ?_) (fun b208 => ?_)
                        · have H := H.1 b208
                          refine ev_iload rfl (a_dec_at dc_Lw_value 123 rfl) ?_
                          refine ev_if_le (tgt := 267) (a_dec_at dc_Lw_value 124 rfl) (by decide) (fun b209 => ?_) (fun b209 => ?_)
                          · have H := H.1 b209
                            refine ev_iconst (v := 0) rfl (a_dec_at dc_Lw_value 132 rfl) ?_
                            exact m_retI (a_dec_at dc_Lw_value 133 rfl) rfl rfl H
                          · have H := H.2 b209
                            refine ev_aload_n (i := 0) rfl rfl (a_dec_at dc_Lw_value 125 rfl) ?_
                            refine m_getR (y := 16) fl_Lw_15 rfl sh14 (mr_14_1 _) (by decide) (a_dec_at dc_Lw_value 126 rfl) ?_
                            refine ev_iload rfl (a_dec_at dc_Lw_value 127 rfl) ?_
                            refine ev_iconst (v := 1) rfl (a_dec_at dc_Lw_value 128 rfl) ?_
                            refine ev_isub (a_dec_at dc_Lw_value 129 rfl) ?_
                            obtain ⟨c210, H⟩ := H
                            refine w_iald (k := (v4 - 1).toNatClampNeg) sh16 c210 rfl (a_dec_at dc_Lw_value 130 rfl) ?_
                            refine ev_goto (tgt := 268) (a_dec_at dc_Lw_value 131 rfl) (by decide) ?_
                            exact m_retI (a_dec_at dc_Lw_value 133 rfl) rfl rfl H
                        · have H := H.2 b208
                          refine ev_iload rfl (a_dec_at dc_Lw_value 114 rfl) ?_
                          refine ev_sipush (v := 3000) rfl (a_dec_at dc_Lw_value 115 rfl) ?_
                          refine ev_icmp_ge (tgt := 250) (a_dec_at dc_Lw_value 116 rfl) (by decide) (fun b211 => ?_) (fun b211 => ?_)
                          · have H := H.1 b211
                            refine ev_iload rfl (a_dec_at dc_Lw_value 123 rfl) ?_
                            refine ev_if_le (tgt := 267) (a_dec_at dc_Lw_value 124 rfl) (by decide) (fun b212 => ?_) (fun b212 => ?_)
                            · have H := H.1 b212
                              refine ev_iconst (v := 0) rfl (a_dec_at dc_Lw_value 132 rfl) ?_
                              exact m_retI (a_dec_at dc_Lw_value 133 rfl) rfl rfl H
                            · have H := H.2 b212
                              refine ev_aload_n (i := 0) rfl rfl (a_dec_at dc_Lw_value 125 rfl) ?_
                              refine m_getR (y := 16) fl_Lw_15 rfl sh14 (mr_14_1 _) (by decide) (a_dec_at dc_Lw_value 126 rfl) ?_
                              refine ev_iload rfl (a_dec_at dc_Lw_value 127 rfl) ?_
                              refine ev_iconst (v := 1) rfl (a_dec_at dc_Lw_value 128 rfl) ?_
                              refine ev_isub (a_dec_at dc_Lw_value 129 rfl) ?_
                              obtain ⟨c213, H⟩ := H
                              refine w_iald (k := (v4 - 1).toNatClampNeg) sh16 c213 rfl (a_dec_at dc_Lw_value 130 rfl) ?_
                              refine ev_goto (tgt := 268) (a_dec_at dc_Lw_value 131 rfl) (by decide) ?_
                              exact m_retI (a_dec_at dc_Lw_value 133 rfl) rfl rfl H
                          · have H := H.2 b211
                            refine ev_iload rfl (a_dec_at dc_Lw_value 117 rfl) ?_
                            refine ev_sipush (v := 2000) rfl (a_dec_at dc_Lw_value 118 rfl) ?_
                            refine ev_isub (a_dec_at dc_Lw_value 119 rfl) ?_
                            refine ev_istore_n (i := 3) rfl (by decide) rfl (a_dec_at dc_Lw_value 120 rfl) ?_
                            refine ev_iinc (v := 1) rfl rfl (by decide) rfl (a_dec_at dc_Lw_value 121 rfl) ?_
                            refine ev_goto (tgt := 14) (a_dec_at dc_Lw_value 122 rfl) (by decide) ?_
                            exact Ev.drop (L' := [.ref 14, .ref 26, .retAddr 0, .int ((mi 26 v3.toNatClampNeg) - 2000), .int v4, .int (v5 + 1), .retAddr 0]) (And.intro rfl (And.intro rfl (And.intro rfl (And.intro rfl (And.intro rfl trivial))))) H
                      · have H := H.2 b207
                        refine ev_iinc (v := (-1)) rfl rfl (by decide) rfl (a_dec_at dc_Lw_value 98 rfl) ?_
                        refine ev_aload_n (i := 0) rfl rfl (a_dec_at dc_Lw_value 99 rfl) ?_
                        refine m_getR (y := 16) fl_Lw_15 rfl sh14 (mr_14_1 _) (by decide) (a_dec_at dc_Lw_value 100 rfl) ?_
                        refine ev_iload rfl (a_dec_at dc_Lw_value 101 rfl) ?_
                        obtain ⟨c214, H⟩ := H
                        refine w_iald (k := (v4 + (-1)).toNatClampNeg) sh16 c214 rfl (a_dec_at dc_Lw_value 102 rfl) ?_
                        refine ev_if_ne (tgt := 216) (a_dec_at dc_Lw_value 103 rfl) (by decide) (fun b215 => ?_) (fun b215 => ?_)
                        · have H := H.1 b215
                          refine ev_iload_n (i := 3) rfl rfl (a_dec_at dc_Lw_value 108 rfl) ?_
                          refine ev_istore_n (i := 3) rfl (by decide) rfl (a_dec_at dc_Lw_value 109 rfl) ?_
                          refine ev_goto (tgt := 244) (a_dec_at dc_Lw_value 110 rfl) (by decide) ?_
                          refine ev_iinc (v := 1) rfl rfl (by decide) rfl (a_dec_at dc_Lw_value 121 rfl) ?_
                          refine ev_goto (tgt := 14) (a_dec_at dc_Lw_value 122 rfl) (by decide) ?_
                          exact Ev.drop (L' := [.ref 14, .ref 26, .retAddr 0, .int (v3 + 1), .int (v4 + (-1)), .int (v5 + 1), .retAddr 0]) (And.intro rfl (And.intro rfl (And.intro rfl (And.intro rfl (And.intro rfl trivial))))) H
                        · have H := H.2 b215
                          refine ev_iload rfl (a_dec_at dc_Lw_value 104 rfl) ?_
                          refine ev_sipush (v := 3000) rfl (a_dec_at dc_Lw_value 105 rfl) ?_
                          refine ev_isub (a_dec_at dc_Lw_value 106 rfl) ?_
                          refine ev_goto (tgt := 217) (a_dec_at dc_Lw_value 107 rfl) (by decide) ?_
                          refine ev_istore_n (i := 3) rfl (by decide) rfl (a_dec_at dc_Lw_value 109 rfl) ?_
                          refine ev_goto (tgt := 244) (a_dec_at dc_Lw_value 110 rfl) (by decide) ?_
                          refine ev_iinc (v := 1) rfl rfl (by decide) rfl (a_dec_at dc_Lw_value 121 rfl) ?_
                          refine ev_goto (tgt := 14) (a_dec_at dc_Lw_value 122 rfl) (by decide) ?_
                          exact Ev.drop (L' := [.ref 14, .ref 26, .retAddr 0, .int ((mi 26 v3.toNatClampNeg) - 3000), .int (v4 + (-1)), .int (v5 + 1), .retAddr 0]) (And.intro rfl (And.intro rfl (And.intro rfl (And.intro rfl (And.intro rfl trivial))))) H
                · have H := H.2 b192
                  refine ev_aload_n (i := 0) rfl rfl (a_dec_at dc_Lw_value 75 rfl) ?_
                  refine m_getR (y := 16) fl_Lw_15 rfl sh14 (mr_14_1 _) (by decide) (a_dec_at dc_Lw_value 76 rfl) ?_
                  refine ev_iload rfl (a_dec_at dc_Lw_value 77 rfl) ?_
                  refine ev_iconst (v := 1) rfl (a_dec_at dc_Lw_value 78 rfl) ?_
                  refine ev_isub (a_dec_at dc_Lw_value 79 rfl) ?_
                  refine ev_iconst (v := 1) rfl (a_dec_at dc_Lw_value 80 rfl) ?_
                  refine ev_aload_n (i := 0) rfl rfl (a_dec_at dc_Lw_value 81 rfl) ?_
                  refine m_getR (y := 16) fl_Lw_15 rfl sh14 (mr_14_1 _) (by decide) (a_dec_at dc_Lw_value 82 rfl) ?_
                  refine ev_iload rfl (a_dec_at dc_Lw_value 83 rfl) ?_
                  refine ev_iconst (v := 1) rfl (a_dec_at dc_Lw_value 84 rfl) ?_
                  refine ev_isub (a_dec_at dc_Lw_value 85 rfl) ?_
                  obtain ⟨c216, H⟩ := H
                  refine w_iald (k := (v4 - 1).toNatClampNeg) sh16 c216 rfl (a_dec_at dc_Lw_value 86 rfl) ?_
                  refine ev_isub (a_dec_at dc_Lw_value 87 rfl) ?_
                  obtain ⟨c217, H⟩ := H
                  refine w_iast (k := (v4 - 1).toNatClampNeg) sh16 c217 rfl (a_dec_at dc_Lw_value 88 rfl) ?_
                  refine ev_goto (tgt := 244) (a_dec_at dc_Lw_value 89 rfl) (by decide) ?_
                  refine ev_iinc (v := 1) rfl rfl (by decide) rfl (a_dec_at dc_Lw_value 121 rfl) ?_
                  refine ev_goto (tgt := 14) (a_dec_at dc_Lw_value 122 rfl) (by decide) ?_
                  exact Ev.drop (L' := [.ref 14, .ref 26, .retAddr 0, .int (v3 + 1), .int v4, .int (v5 + 1), .retAddr 0]) (And.intro rfl (And.intro rfl (And.intro rfl (And.intro rfl (And.intro rfl trivial))))) H
            · have H := H.2 b167
              refine ev_iinc (v := (-1)) rfl rfl (by decide) rfl (a_dec_at dc_Lw_value 50 rfl) ?_
              refine ev_aload_n (i := 0) rfl rfl (a_dec_at dc_Lw_value 51 rfl) ?_
              refine m_getR (y := 16) fl_Lw_15 rfl sh14 (mr_14_1 _) (by decide) (a_dec_at dc_Lw_value 52 rfl) ?_
              refine ev_iload rfl (a_dec_at dc_Lw_value 53 rfl) ?_
              refine ev_iconst (v := 1) rfl (a_dec_at dc_Lw_value 54 rfl) ?_
              refine ev_isub (a_dec_at dc_Lw_value 55 rfl) ?_
              refine ev_iload rfl (a_dec_at dc_Lw_value 56 rfl) ?_
              refine ev_aload_n (i := 0) rfl rfl (a_dec_at dc_Lw_value 57 rfl) ?_
              refine m_getR (y := 16) fl_Lw_15 rfl sh14 (mr_14_1 _) (by decide) (a_dec_at dc_Lw_value 58 rfl) ?_
              refine ev_iload rfl (a_dec_at dc_Lw_value 59 rfl) ?_
              refine ev_iconst (v := 1) rfl (a_dec_at dc_Lw_value 60 rfl) ?_
              refine ev_isub (a_dec_at dc_Lw_value 61 rfl) ?_
              obtain ⟨c218, H⟩ := H
              refine w_iald (k := ((v4 + (-1)) - 1).toNatClampNeg) sh16 c218 rfl (a_dec_at dc_Lw_value 62 rfl) ?_
              refine ev_aload_n (i := 0) rfl rfl (a_dec_at dc_Lw_value 63 rfl) ?_
              refine m_getR (y := 16) fl_Lw_15 rfl sh14 (mr_14_1 _) (by decide) (a_dec_at dc_Lw_value 64 rfl) ?_
              refine ev_iload rfl (a_dec_at dc_Lw_value 65 rfl) ?_
              obtain ⟨c219, H⟩ := H
              refine w_iald (k := (v4 + (-1)).toNatClampNeg) sh16 c219 rfl (a_dec_at dc_Lw_value 66 rfl) ?_
              refine cS3I cs_Lw_22 rfl (Nat.le_of_ble_eq_true rfl) (Nat.le_of_ble_eq_true rfl) (a_dec_at dc_Lw_value 67 rfl) ?_
              refine CI.mono (fun x220 mi220 ml220 z220 H => ?_) H
              obtain ⟨c221, H⟩ := H
              refine w_iast (k := ((v4 + (-1)) - 1).toNatClampNeg) sh16 c221 rfl (a_dec_at dc_Lw_value 68 rfl) ?_
              refine ev_goto (tgt := 244) (a_dec_at dc_Lw_value 69 rfl) (by decide) ?_
              refine ev_iinc (v := 1) rfl rfl (by decide) rfl (a_dec_at dc_Lw_value 121 rfl) ?_
              refine ev_goto (tgt := 14) (a_dec_at dc_Lw_value 122 rfl) (by decide) ?_
              exact Ev.drop (L' := [.ref 14, .ref 26, .retAddr 0, .int (v3 + 1), .int (v4 + (-1)), .int (v5 + 1), .retAddr 0]) (And.intro rfl (And.intro rfl (And.intro rfl (And.intro rfl (And.intro rfl trivial))))) H
        · have H := H.2 b115
          refine ev_aload_n (i := 0) rfl rfl (a_dec_at dc_Lw_value 28 rfl) ?_
          refine m_getR (y := 16) fl_Lw_15 rfl sh14 (mr_14_1 _) (by decide) (a_dec_at dc_Lw_value 29 rfl) ?_
          refine ev_iload rfl (a_dec_at dc_Lw_value 30 rfl) ?_
          refine ev_iload rfl (a_dec_at dc_Lw_value 31 rfl) ?_
          refine ev_sipush (v := 1000) rfl (a_dec_at dc_Lw_value 32 rfl) ?_
          refine ev_icmp_ge (tgt := 70) (a_dec_at dc_Lw_value 33 rfl) (by decide) (fun b222 => ?_) (fun b222 => ?_)
          · have H := H.1 b222
            refine ev_aload_n (i := 0) rfl rfl (a_dec_at dc_Lw_value 36 rfl) ?_
            refine ev_iload rfl (a_dec_at dc_Lw_value 37 rfl) ?_
            refine ev_sipush (v := 1000) rfl (a_dec_at dc_Lw_value 38 rfl) ?_
            refine ev_isub (a_dec_at dc_Lw_value 39 rfl) ?_
            refine cV1I cs_Lw_18 sh14 rfl (Nat.le_of_ble_eq_true rfl) (Nat.le_of_ble_eq_true rfl) (a_dec_at dc_Lw_value 40 rfl) ?_
            refine CI.mono (fun x223 mi223 ml223 z223 H => ?_) H
            obtain ⟨c224, H⟩ := H
            refine w_iast (k := v4.toNatClampNeg) sh16 c224 rfl (a_dec_at dc_Lw_value 41 rfl) ?_
            refine ev_iinc (v := 1) rfl rfl (by decide) rfl (a_dec_at dc_Lw_value 42 rfl) ?_
            refine ev_goto (tgt := 244) (a_dec_at dc_Lw_value 43 rfl) (by decide) ?_
            refine ev_iinc (v := 1) rfl rfl (by decide) rfl (a_dec_at dc_Lw_value 121 rfl) ?_
            refine ev_goto (tgt := 14) (a_dec_at dc_Lw_value 122 rfl) (by decide) ?_
            exact Ev.drop (L' := [.ref 14, .ref 26, .retAddr 0, .int (v3 + 1), .int (v4 + 1), .int (v5 + 1), .retAddr 0]) (And.intro rfl (And.intro rfl (And.intro rfl (And.intro rfl (And.intro rfl trivial))))) H
          · have H := H.2 b222
            refine ev_iload rfl (a_dec_at dc_Lw_value 34 rfl) ?_
            refine ev_goto (tgt := 80) (a_dec_at dc_Lw_value 35 rfl) (by decide) ?_
            obtain ⟨c225, H⟩ := H
            refine w_iast (k := v4.toNatClampNeg) sh16 c225 rfl (a_dec_at dc_Lw_value 41 rfl) ?_
            refine ev_iinc (v := 1) rfl rfl (by decide) rfl (a_dec_at dc_Lw_value 42 rfl) ?_
            refine ev_goto (tgt := 244) (a_dec_at dc_Lw_value 43 rfl) (by decide) ?_
            refine ev_iinc (v := 1) rfl rfl (by decide) rfl (a_dec_at dc_Lw_value 121 rfl) ?_
            refine ev_goto (tgt := 14) (a_dec_at dc_Lw_value 122 rfl) (by decide) ?_
            exact Ev.drop (L' := [.ref 14, .ref 26, .retAddr 0, .int (v3 + 1), .int (v4 + 1), .int (v5 + 1), .retAddr 0]) (And.intro rfl (And.intro rfl (And.intro rfl (And.intro rfl (And.intro rfl trivial))))) H
set_option maxRecDepth 20000 in
theorem t_Lw_valueOf {l : Launch} {h : Nat} (mi : TMi) (ml : TMl) (z : Nat) (a1 : Int32) {Q : Int32 → TMi → TMl → Nat → Prop} (H : ((6 ≤ a1 → Q 0 mi ml z) ∧ (¬ 6 ≤ a1 → (vp_in a1 6) ∧ Q (mi 15 a1.toNatClampNeg) mi ml z))) : CI l (h + 1) m_Lw_valueOf [.ref 14, .int a1] mi ml z Q := by
  show Ev l (h + 1) m_Lw_valueOf 0 ([.ref 14, .int a1], [], st mi ml z) (qI Q)
  refine ev_iload_n (i := 1) rfl rfl (a_dec_at dc_Lw_valueOf 0 rfl) ?_
  refine ev_bipush (v := 6) rfl (a_dec_at dc_Lw_valueOf 1 rfl) ?_
  refine ev_icmp_ge (tgt := 15) (a_dec_at dc_Lw_valueOf 2 rfl) (by decide) (fun b1 => ?_) (fun b1 => ?_)
  · have H := H.1 b1
    refine ev_iconst (v := 0) rfl (a_dec_at dc_Lw_valueOf 8 rfl) ?_
    exact m_retI (a_dec_at dc_Lw_valueOf 9 rfl) rfl rfl H
  · have H := H.2 b1
    refine ev_aload_n (i := 0) rfl rfl (a_dec_at dc_Lw_valueOf 3 rfl) ?_
    refine m_getR (y := 15) fl_Lw_11 rfl sh14 (mr_14_0 _) (by decide) (a_dec_at dc_Lw_valueOf 4 rfl) ?_
    refine ev_iload_n (i := 1) rfl rfl (a_dec_at dc_Lw_valueOf 5 rfl) ?_
    obtain ⟨c2, H⟩ := H
    refine w_iald (k := a1.toNatClampNeg) sh15 c2 rfl (a_dec_at dc_Lw_valueOf 6 rfl) ?_
    refine ev_goto (tgt := 16) (a_dec_at dc_Lw_valueOf 7 rfl) (by decide) ?_
    exact m_retI (a_dec_at dc_Lw_valueOf 9 rfl) rfl rfl H
set_option maxRecDepth 20000 in
theorem t_Lw_joined {l : Launch} {h : Nat} (mi : TMi) (ml : TMl) (z : Nat) (a1 : Int32) (a2 : Int32) (a3 : Int32) {Q : Int32 → TMi → TMl → Nat → Prop} (H : (((a1 / 1000) = 6 → (((lg_cmp ((a2 + a3).toInt64) 1000000) ≤ 0 → ((0 ≤ (lg_cmp ((a2 + a3).toInt64) (-1000000)) → Q (((a2 + a3).toInt64).toInt32) mi ml z) ∧ (¬ 0 ≤ (lg_cmp ((a2 + a3).toInt64) (-1000000)) → Q (-1000000) mi ml z))) ∧ (¬ (lg_cmp ((a2 + a3).toInt64) 1000000) ≤ 0 → Q 1000000 mi ml z))) ∧ (((a1 / 1000) = 7 → (((lg_cmp ((a2 - a3).toInt64) 1000000) ≤ 0 → ((0 ≤ (lg_cmp ((a2 - a3).toInt64) (-1000000)) → Q (((a2 - a3).toInt64).toInt32) mi ml z) ∧ (¬ 0 ≤ (lg_cmp ((a2 - a3).toInt64) (-1000000)) → Q (-1000000) mi ml z))) ∧ (¬ (lg_cmp ((a2 - a3).toInt64) 1000000) ≤ 0 → Q 1000000 mi ml z))) ∧ (((a1 / 1000) = 8 → (((lg_cmp (a2.toInt64 * a3.toInt64) 1000000) ≤ 0 → ((0 ≤ (lg_cmp (a2.toInt64 * a3.toInt64) (-1000000)) → Q ((a2.toInt64 * a3.toInt64).toInt32) mi ml z) ∧ (¬ 0 ≤ (lg_cmp (a2.toInt64 * a3.toInt64) (-1000000)) → Q (-1000000) mi ml z))) ∧ (¬ (lg_cmp (a2.toInt64 * a3.toInt64) 1000000) ≤ 0 → Q 1000000 mi ml z))) ∧ (((a1 / 1000) = 9 → ((¬ a2 = a3 → Q 0 mi ml z) ∧ (a2 = a3 → Q 1 mi ml z))) ∧ (((a1 / 1000) = 10 → ((a3 ≤ a2 → Q 0 mi ml z) ∧ (¬ a3 ≤ a2 → Q 1 mi ml z))) ∧ (((a1 / 1000) = 11 → ((a2 ≤ a3 → Q 0 mi ml z) ∧ (¬ a2 ≤ a3 → Q 1 mi ml z))) ∧ (((a1 / 1000) = 12 → Q (a2 &&& a3) mi ml z) ∧ (¬ (a1 / 1000) = 6 → ¬ (a1 / 1000) = 7 → ¬ (a1 / 1000) = 8 → ¬ (a1 / 1000) = 9 → ¬ (a1 / 1000) = 10 → ¬ (a1 / 1000) = 11 → ¬ (a1 / 1000) = 12 → Q (a2 ||| a3) mi ml z))))))))) : CI l (h + 1) m_Lw_joined [.int a1, .int a2, .int a3] mi ml z Q := by
  show Ev l (h + 1) m_Lw_joined 0 ([.int a1, .int a2, .int a3, .retAddr 0, .retAddr 0], [], st mi ml z) (qI Q)
  refine ev_iload_n (i := 0) rfl rfl (a_dec_at dc_Lw_joined 0 rfl) ?_
  refine ev_sipush (v := 1000) rfl (a_dec_at dc_Lw_joined 1 rfl) ?_
  refine ev_idiv (by decide) (a_dec_at dc_Lw_joined 2 rfl) ?_
  by_cases e1 : (a1 / 1000) = 6
  · have H := H.1 e1
    refine w_tableIn (c := 6) (off := 43) (tgt := 48) (a_dec_at dc_Lw_joined 3 rfl) e1 (by decide) (by decide) (by decide) (by decide) ?_
    refine ev_iload_n (i := 1) rfl rfl (a_dec_at dc_Lw_joined 4 rfl) ?_
    refine ev_iload_n (i := 2) rfl rfl (a_dec_at dc_Lw_joined 5 rfl) ?_
    refine ev_iadd (a_dec_at dc_Lw_joined 6 rfl) ?_
    refine ev_i2l (a_dec_at dc_Lw_joined 7 rfl) ?_
    refine ev_lstore_n (i := 3) rfl (by decide) rfl (a_dec_at dc_Lw_joined 8 rfl) ?_
    refine ev_goto (tgt := 114) (a_dec_at dc_Lw_joined 9 rfl) (by decide) ?_
    refine ev_lload_n (i := 3) rfl rfl (a_dec_at dc_Lw_joined 52 rfl) ?_
    refine ev_ldc2 kc_Lw_26 (a_dec_at dc_Lw_joined 53 rfl) ?_
    refine ev_lcmp (a_dec_at dc_Lw_joined 54 rfl) ?_
    refine ev_if_le (tgt := 125) (a_dec_at dc_Lw_joined 55 rfl) (by decide) (fun b2 => ?_) (fun b2 => ?_)
    · have H := H.1 b2
      refine ev_lload_n (i := 3) rfl rfl (a_dec_at dc_Lw_joined 58 rfl) ?_
      refine ev_ldc2 kc_Lw_29 (a_dec_at dc_Lw_joined 59 rfl) ?_
      refine ev_lcmp (a_dec_at dc_Lw_joined 60 rfl) ?_
      refine ev_if_ge (tgt := 138) (a_dec_at dc_Lw_joined 61 rfl) (by decide) (fun b3 => ?_) (fun b3 => ?_)
      · have H := H.1 b3
        refine ev_lload_n (i := 3) rfl rfl (a_dec_at dc_Lw_joined 64 rfl) ?_
        refine ev_l2i (a_dec_at dc_Lw_joined 65 rfl) ?_
        exact m_retI (a_dec_at dc_Lw_joined 66 rfl) rfl rfl H
      · have H := H.2 b3
        refine ev_ldc kc_Lw_31 (a_dec_at dc_Lw_joined 62 rfl) ?_
        refine ev_goto (tgt := 140) (a_dec_at dc_Lw_joined 63 rfl) (by decide) ?_
        exact m_retI (a_dec_at dc_Lw_joined 66 rfl) rfl rfl H
    · have H := H.2 b2
      refine ev_ldc kc_Lw_28 (a_dec_at dc_Lw_joined 56 rfl) ?_
      exact m_retI (a_dec_at dc_Lw_joined 57 rfl) rfl rfl H
  have H := H.2
  by_cases e4 : (a1 / 1000) = 7
  · have H := H.1 e4
    refine w_tableIn (c := 7) (off := 51) (tgt := 56) (a_dec_at dc_Lw_joined 3 rfl) e4 (by decide) (by decide) (by decide) (by decide) ?_
    refine ev_iload_n (i := 1) rfl rfl (a_dec_at dc_Lw_joined 10 rfl) ?_
    refine ev_iload_n (i := 2) rfl rfl (a_dec_at dc_Lw_joined 11 rfl) ?_
    refine ev_isub (a_dec_at dc_Lw_joined 12 rfl) ?_
    refine ev_i2l (a_dec_at dc_Lw_joined 13 rfl) ?_
    refine ev_lstore_n (i := 3) rfl (by decide) rfl (a_dec_at dc_Lw_joined 14 rfl) ?_
    refine ev_goto (tgt := 114) (a_dec_at dc_Lw_joined 15 rfl) (by decide) ?_
    refine ev_lload_n (i := 3) rfl rfl (a_dec_at dc_Lw_joined 52 rfl) ?_
    refine ev_ldc2 kc_Lw_26 (a_dec_at dc_Lw_joined 53 rfl) ?_
    refine ev_lcmp (a_dec_at dc_Lw_joined 54 rfl) ?_
    refine ev_if_le (tgt := 125) (a_dec_at dc_Lw_joined 55 rfl) (by decide) (fun b5 => ?_) (fun b5 => ?_)
    · have H := H.1 b5
      refine ev_lload_n (i := 3) rfl rfl (a_dec_at dc_Lw_joined 58 rfl) ?_
      refine ev_ldc2 kc_Lw_29 (a_dec_at dc_Lw_joined 59 rfl) ?_
      refine ev_lcmp (a_dec_at dc_Lw_joined 60 rfl) ?_
      refine ev_if_ge (tgt := 138) (a_dec_at dc_Lw_joined 61 rfl) (by decide) (fun b6 => ?_) (fun b6 => ?_)
      · have H := H.1 b6
        refine ev_lload_n (i := 3) rfl rfl (a_dec_at dc_Lw_joined 64 rfl) ?_
        refine ev_l2i (a_dec_at dc_Lw_joined 65 rfl) ?_
        exact m_retI (a_dec_at dc_Lw_joined 66 rfl) rfl rfl H
      · have H := H.2 b6
        refine ev_ldc kc_Lw_31 (a_dec_at dc_Lw_joined 62 rfl) ?_
        refine ev_goto (tgt := 140) (a_dec_at dc_Lw_joined 63 rfl) (by decide) ?_
        exact m_retI (a_dec_at dc_Lw_joined 66 rfl) rfl rfl H
    · have H := H.2 b5
      refine ev_ldc kc_Lw_28 (a_dec_at dc_Lw_joined 56 rfl) ?_
      exact m_retI (a_dec_at dc_Lw_joined 57 rfl) rfl rfl H
  have H := H.2
  by_cases e7 : (a1 / 1000) = 8
  · have H := H.1 e7
    refine w_tableIn (c := 8) (off := 59) (tgt := 64) (a_dec_at dc_Lw_joined 3 rfl) e7 (by decide) (by decide) (by decide) (by decide) ?_
    refine ev_iload_n (i := 1) rfl rfl (a_dec_at dc_Lw_joined 16 rfl) ?_
    refine ev_i2l (a_dec_at dc_Lw_joined 17 rfl) ?_
    refine ev_iload_n (i := 2) rfl rfl (a_dec_at dc_Lw_joined 18 rfl) ?_
    refine ev_i2l (a_dec_at dc_Lw_joined 19 rfl) ?_
    refine ev_lmul (a_dec_at dc_Lw_joined 20 rfl) ?_
    refine ev_lstore_n (i := 3) rfl (by decide) rfl (a_dec_at dc_Lw_joined 21 rfl) ?_
    refine ev_goto (tgt := 114) (a_dec_at dc_Lw_joined 22 rfl) (by decide) ?_
    refine ev_lload_n (i := 3) rfl rfl (a_dec_at dc_Lw_joined 52 rfl) ?_
    refine ev_ldc2 kc_Lw_26 (a_dec_at dc_Lw_joined 53 rfl) ?_
    refine ev_lcmp (a_dec_at dc_Lw_joined 54 rfl) ?_
    refine ev_if_le (tgt := 125) (a_dec_at dc_Lw_joined 55 rfl) (by decide) (fun b8 => ?_) (fun b8 => ?_)
    · have H := H.1 b8
      refine ev_lload_n (i := 3) rfl rfl (a_dec_at dc_Lw_joined 58 rfl) ?_
      refine ev_ldc2 kc_Lw_29 (a_dec_at dc_Lw_joined 59 rfl) ?_
      refine ev_lcmp (a_dec_at dc_Lw_joined 60 rfl) ?_
      refine ev_if_ge (tgt := 138) (a_dec_at dc_Lw_joined 61 rfl) (by decide) (fun b9 => ?_) (fun b9 => ?_)
      · have H := H.1 b9
        refine ev_lload_n (i := 3) rfl rfl (a_dec_at dc_Lw_joined 64 rfl) ?_
        refine ev_l2i (a_dec_at dc_Lw_joined 65 rfl) ?_
        exact m_retI (a_dec_at dc_Lw_joined 66 rfl) rfl rfl H
      · have H := H.2 b9
        refine ev_ldc kc_Lw_31 (a_dec_at dc_Lw_joined 62 rfl) ?_
        refine ev_goto (tgt := 140) (a_dec_at dc_Lw_joined 63 rfl) (by decide) ?_
        exact m_retI (a_dec_at dc_Lw_joined 66 rfl) rfl rfl H
    · have H := H.2 b8
      refine ev_ldc kc_Lw_28 (a_dec_at dc_Lw_joined 56 rfl) ?_
      exact m_retI (a_dec_at dc_Lw_joined 57 rfl) rfl rfl H
  have H := H.2
  by_cases e10 : (a1 / 1000) = 9
  · have H := H.1 e10
    refine w_tableIn (c := 9) (off := 68) (tgt := 73) (a_dec_at dc_Lw_joined 3 rfl) e10 (by decide) (by decide) (by decide) (by decide) ?_
    refine ev_iload_n (i := 1) rfl rfl (a_dec_at dc_Lw_joined 23 rfl) ?_
    refine ev_iload_n (i := 2) rfl rfl (a_dec_at dc_Lw_joined 24 rfl) ?_
    refine ev_icmp_ne (tgt := 82) (a_dec_at dc_Lw_joined 25 rfl) (by decide) (fun b11 => ?_) (fun b11 => ?_)
    · have H := H.1 b11
      refine ev_iconst (v := 0) rfl (a_dec_at dc_Lw_joined 28 rfl) ?_
      exact m_retI (a_dec_at dc_Lw_joined 29 rfl) rfl rfl H
    · have H := H.2 b11
      refine ev_iconst (v := 1) rfl (a_dec_at dc_Lw_joined 26 rfl) ?_
      refine ev_goto (tgt := 83) (a_dec_at dc_Lw_joined 27 rfl) (by decide) ?_
      exact m_retI (a_dec_at dc_Lw_joined 29 rfl) rfl rfl H
  have H := H.2
  by_cases e12 : (a1 / 1000) = 10
  · have H := H.1 e12
    refine w_tableIn (c := 10) (off := 79) (tgt := 84) (a_dec_at dc_Lw_joined 3 rfl) e12 (by decide) (by decide) (by decide) (by decide) ?_
    refine ev_iload_n (i := 1) rfl rfl (a_dec_at dc_Lw_joined 30 rfl) ?_
    refine ev_iload_n (i := 2) rfl rfl (a_dec_at dc_Lw_joined 31 rfl) ?_
    refine ev_icmp_ge (tgt := 93) (a_dec_at dc_Lw_joined 32 rfl) (by decide) (fun b13 => ?_) (fun b13 => ?_)
    · have H := H.1 b13
      refine ev_iconst (v := 0) rfl (a_dec_at dc_Lw_joined 35 rfl) ?_
      exact m_retI (a_dec_at dc_Lw_joined 36 rfl) rfl rfl H
    · have H := H.2 b13
      refine ev_iconst (v := 1) rfl (a_dec_at dc_Lw_joined 33 rfl) ?_
      refine ev_goto (tgt := 94) (a_dec_at dc_Lw_joined 34 rfl) (by decide) ?_
      exact m_retI (a_dec_at dc_Lw_joined 36 rfl) rfl rfl H
  have H := H.2
  by_cases e14 : (a1 / 1000) = 11
  · have H := H.1 e14
    refine w_tableIn (c := 11) (off := 90) (tgt := 95) (a_dec_at dc_Lw_joined 3 rfl) e14 (by decide) (by decide) (by decide) (by decide) ?_
    refine ev_iload_n (i := 1) rfl rfl (a_dec_at dc_Lw_joined 37 rfl) ?_
    refine ev_iload_n (i := 2) rfl rfl (a_dec_at dc_Lw_joined 38 rfl) ?_
    refine ev_icmp_le (tgt := 104) (a_dec_at dc_Lw_joined 39 rfl) (by decide) (fun b15 => ?_) (fun b15 => ?_)
    · have H := H.1 b15
      refine ev_iconst (v := 0) rfl (a_dec_at dc_Lw_joined 42 rfl) ?_
      exact m_retI (a_dec_at dc_Lw_joined 43 rfl) rfl rfl H
    · have H := H.2 b15
      refine ev_iconst (v := 1) rfl (a_dec_at dc_Lw_joined 40 rfl) ?_
      refine ev_goto (tgt := 105) (a_dec_at dc_Lw_joined 41 rfl) (by decide) ?_
      exact m_retI (a_dec_at dc_Lw_joined 43 rfl) rfl rfl H
  have H := H.2
  by_cases e16 : (a1 / 1000) = 12
  · have H := H.1 e16
    refine w_tableIn (c := 12) (off := 101) (tgt := 106) (a_dec_at dc_Lw_joined 3 rfl) e16 (by decide) (by decide) (by decide) (by decide) ?_
    refine ev_iload_n (i := 1) rfl rfl (a_dec_at dc_Lw_joined 44 rfl) ?_
    refine ev_iload_n (i := 2) rfl rfl (a_dec_at dc_Lw_joined 45 rfl) ?_
    refine ev_iand (a_dec_at dc_Lw_joined 46 rfl) ?_
    exact m_retI (a_dec_at dc_Lw_joined 47 rfl) rfl rfl H
  have H := H.2
  refine w_tableOut (tgt := 110) [6, 7, 8, 9, 10, 11, 12] (a_dec_at dc_Lw_joined 3 rfl) (by decide) (by intro c hc; simp only [List.mem_cons, List.not_mem_nil, or_false] at hc; rcases hc with rfl | rfl | rfl | rfl | rfl | rfl | rfl <;> assumption) (by decide) ?_
  have H := H e1 e4 e7 e10 e12 e14 e16
  refine ev_iload_n (i := 1) rfl rfl (a_dec_at dc_Lw_joined 48 rfl) ?_
  refine ev_iload_n (i := 2) rfl rfl (a_dec_at dc_Lw_joined 49 rfl) ?_
  refine ev_ior (a_dec_at dc_Lw_joined 50 rfl) ?_
  exact m_retI (a_dec_at dc_Lw_joined 51 rfl) rfl rfl H
set_option maxRecDepth 20000 in
theorem t_Pa_look {l : Launch} {h : Nat} (mi : TMi) (ml : TMl) (z : Nat) {Q : TMi → TMl → Nat → Prop} (H : Q (cpF mi 27 54 0 0 40) ml z) : CV l (h + 1) m_Pa_look [.ref 42, .ref 27] mi ml z Q := by
  show Ev l (h + 1) m_Pa_look 0 ([.ref 42, .ref 27], [], st mi ml z) (qV Q)
  refine ev_aload_n (i := 1) rfl rfl (a_dec_at dc_Pa_look 0 rfl) ?_
  refine ev_iconst (v := 0) rfl (a_dec_at dc_Pa_look 1 rfl) ?_
  refine ev_aload_n (i := 0) rfl rfl (a_dec_at dc_Pa_look 2 rfl) ?_
  refine m_getR (y := 54) fl_Pa_18 rfl sh42 (mr_42_1 _) (by decide) (a_dec_at dc_Pa_look 3 rfl) ?_
  refine ev_iconst (v := 0) rfl (a_dec_at dc_Pa_look 4 rfl) ?_
  refine ev_bipush (v := 40) rfl (a_dec_at dc_Pa_look 5 rfl) ?_
  refine w_copy (ks := 0) (kd := 0) (kn := 40) cs_Pa_22 sh27 sh54 (by decide) (by decide) (by decide) (by decide) (Nat.le_of_ble_eq_true rfl) (a_dec_at dc_Pa_look 6 rfl) ?_
  exact m_retV (a_dec_at dc_Pa_look 7 rfl) rfl H
set_option maxRecDepth 20000 in
theorem t_Pa_keep {l : Launch} {h : Nat} (mi : TMi) (ml : TMl) (z : Nat) {Q : TMi → TMl → Nat → Prop} (H : (vp_in (mi 42 2) 10) ∧ (0 < (MR z 43 ((mi 42 2).toNatClampNeg)) ∧ (MR z 43 ((mi 42 2).toNatClampNeg)) < 1000) ∧ (SH[(MR z 43 ((mi 42 2).toNatClampNeg))]? = some (.inr (0, (a_len (st (fun _ _ => 0) (fun _ _ => 0) 0) (MR z 43 ((mi 42 2).toNatClampNeg)))))) ∧ (¬ (0 : Int32) < 0 ∧ ¬ (0 : Int32) < 0 ∧ ¬ (40 : Int32) < 0 ∧ 0 + 40 ≤ 40 ∧ 0 + 40 ≤ (a_len (st (fun _ _ => 0) (fun _ _ => 0) 0) (MR z 43 ((mi 42 2).toNatClampNeg)))) ∧ Q (up (up (cpF mi 54 (MR z 43 ((mi 42 2).toNatClampNeg)) 0 0 40) 42 2 (a_rem (((cpF mi 54 (MR z 43 ((mi 42 2).toNatClampNeg)) 0 0 40) 42 2) + 1) 10)) 42 3 (if (((up (cpF mi 54 (MR z 43 ((mi 42 2).toNatClampNeg)) 0 0 40) 42 2 (a_rem (((cpF mi 54 (MR z 43 ((mi 42 2).toNatClampNeg)) 0 0 40) 42 2) + 1) 10)) 42 3) + 1) > 10 then 10 else ((up (cpF mi 54 (MR z 43 ((mi 42 2).toNatClampNeg)) 0 0 40) 42 2 (a_rem (((cpF mi 54 (MR z 43 ((mi 42 2).toNatClampNeg)) 0 0 40) 42 2) + 1) 10)) 42 3) + 1)) ml z) : CV l (h + 1) m_Pa_keep [.ref 42] mi ml z Q := by
  show Ev l (h + 1) m_Pa_keep 0 ([.ref 42], [], st mi ml z) (qV Q)
  refine ev_aload_n (i := 0) rfl rfl (a_dec_at dc_Pa_keep 0 rfl) ?_
  refine m_getR (y := 54) fl_Pa_18 rfl sh42 (mr_42_1 _) (by decide) (a_dec_at dc_Pa_keep 1 rfl) ?_
  refine ev_iconst (v := 0) rfl (a_dec_at dc_Pa_keep 2 rfl) ?_
  refine ev_aload_n (i := 0) rfl rfl (a_dec_at dc_Pa_keep 3 rfl) ?_
  refine m_getR (y := 43) fl_Pa_13 rfl sh42 (mr_42_0 _) (by decide) (a_dec_at dc_Pa_keep 4 rfl) ?_
  refine ev_aload_n (i := 0) rfl rfl (a_dec_at dc_Pa_keep 5 rfl) ?_
  refine m_getI fl_Pa_28 rfl sh42 (a_dec_at dc_Pa_keep 6 rfl) ?_
  obtain ⟨c1, H⟩ := H
  obtain ⟨c2, H⟩ := H
  refine w_aald (k := (mi 42 2).toNatClampNeg) (y := (MR z 43 ((mi 42 2).toNatClampNeg))) (by decide) sh43 c1 rfl rfl c2 (a_dec_at dc_Pa_keep 7 rfl) ?_
  refine ev_iconst (v := 0) rfl (a_dec_at dc_Pa_keep 8 rfl) ?_
  refine ev_bipush (v := 40) rfl (a_dec_at dc_Pa_keep 9 rfl) ?_
  obtain ⟨c3, H⟩ := H
  obtain ⟨c4, H⟩ := H
  refine w_copy (ks := 0) (kd := 0) (kn := 40) cs_Pa_22 sh54 c3 (by decide) (by decide) (by decide) c4 (Nat.le_of_ble_eq_true rfl) (a_dec_at dc_Pa_keep 10 rfl) ?_
  refine ev_aload_n (i := 0) rfl rfl (a_dec_at dc_Pa_keep 11 rfl) ?_
  refine ev_aload_n (i := 0) rfl rfl (a_dec_at dc_Pa_keep 12 rfl) ?_
  refine m_getI fl_Pa_28 rfl sh42 (a_dec_at dc_Pa_keep 13 rfl) ?_
  refine ev_iconst (v := 1) rfl (a_dec_at dc_Pa_keep 14 rfl) ?_
  refine ev_iadd (a_dec_at dc_Pa_keep 15 rfl) ?_
  refine ev_bipush (v := 10) rfl (a_dec_at dc_Pa_keep 16 rfl) ?_
  refine ev_irem (by decide) (a_dec_at dc_Pa_keep 17 rfl) ?_
  refine m_putI fl_Pa_28 rfl (fun _ _ _ h => by cases h; exact Or.inl rfl) sh42 (a_dec_at dc_Pa_keep 18 rfl) ?_
  refine ev_aload_n (i := 0) rfl rfl (a_dec_at dc_Pa_keep 19 rfl) ?_
  refine ev_aload_n (i := 0) rfl rfl (a_dec_at dc_Pa_keep 20 rfl) ?_
  refine m_getI fl_Pa_32 rfl sh42 (a_dec_at dc_Pa_keep 21 rfl) ?_
  refine ev_iconst (v := 1) rfl (a_dec_at dc_Pa_keep 22 rfl) ?_
  refine ev_iadd (a_dec_at dc_Pa_keep 23 rfl) ?_
  refine ev_bipush (v := 10) rfl (a_dec_at dc_Pa_keep 24 rfl) ?_
  refine w_mmin cs_Pa_35 (Nat.le_of_ble_eq_true rfl) (a_dec_at dc_Pa_keep 25 rfl) ?_
  refine m_putI fl_Pa_32 rfl (fun _ _ _ h => by cases h; exact Or.inl rfl) sh42 (a_dec_at dc_Pa_keep 26 rfl) ?_
  exact m_retV (a_dec_at dc_Pa_keep 27 rfl) rfl H
set_option maxRecDepth 20000 in
theorem t_Pa_bringBack {l : Launch} {h : Nat} (mi : TMi) (ml : TMl) (z : Nat) (a1 : Int32) {Q : TMi → TMl → Nat → Prop} (H : ((a1 < 1 → Q mi ml z) ∧ (¬ a1 < 1 → ((a1 ≤ (mi 42 3) → (vp_in ((up (up mi 42 2 (a_rem (((mi 42 2) + 10) - a1) 10)) 42 3 (((up mi 42 2 (a_rem (((mi 42 2) + 10) - a1) 10)) 42 3) - a1)) 42 2) 10) ∧ (0 < (MR z 43 (((up (up mi 42 2 (a_rem (((mi 42 2) + 10) - a1) 10)) 42 3 (((up mi 42 2 (a_rem (((mi 42 2) + 10) - a1) 10)) 42 3) - a1)) 42 2).toNatClampNeg)) ∧ (MR z 43 (((up (up mi 42 2 (a_rem (((mi 42 2) + 10) - a1) 10)) 42 3 (((up mi 42 2 (a_rem (((mi 42 2) + 10) - a1) 10)) 42 3) - a1)) 42 2).toNatClampNeg)) < 1000) ∧ (SH[(MR z 43 (((up (up mi 42 2 (a_rem (((mi 42 2) + 10) - a1) 10)) 42 3 (((up mi 42 2 (a_rem (((mi 42 2) + 10) - a1) 10)) 42 3) - a1)) 42 2).toNatClampNeg))]? = some (.inr (0, (a_len (st (fun _ _ => 0) (fun _ _ => 0) 0) (MR z 43 (((up (up mi 42 2 (a_rem (((mi 42 2) + 10) - a1) 10)) 42 3 (((up mi 42 2 (a_rem (((mi 42 2) + 10) - a1) 10)) 42 3) - a1)) 42 2).toNatClampNeg)))))) ∧ (¬ (0 : Int32) < 0 ∧ ¬ (0 : Int32) < 0 ∧ ¬ (40 : Int32) < 0 ∧ 0 + 40 ≤ (a_len (st (fun _ _ => 0) (fun _ _ => 0) 0) (MR z 43 (((up (up mi 42 2 (a_rem (((mi 42 2) + 10) - a1) 10)) 42 3 (((up mi 42 2 (a_rem (((mi 42 2) + 10) - a1) 10)) 42 3) - a1)) 42 2).toNatClampNeg))) ∧ 0 + 40 ≤ 40) ∧ Q (cpF (up (up mi 42 2 (a_rem (((mi 42 2) + 10) - a1) 10)) 42 3 (((up mi 42 2 (a_rem (((mi 42 2) + 10) - a1) 10)) 42 3) - a1)) (MR z 43 (((up (up mi 42 2 (a_rem (((mi 42 2) + 10) - a1) 10)) 42 3 (((up mi 42 2 (a_rem (((mi 42 2) + 10) - a1) 10)) 42 3) - a1)) 42 2).toNatClampNeg)) 27 0 0 40) ml z) ∧ (¬ a1 ≤ (mi 42 3) → Q mi ml z))))) : CV l (h + 1) m_Pa_bringBack [.ref 42, .int a1, .ref 27] mi ml z Q := by
  show Ev l (h + 1) m_Pa_bringBack 0 ([.ref 42, .int a1, .ref 27], [], st mi ml z) (qV Q)
  refine ev_iload_n (i := 1) rfl rfl (a_dec_at dc_Pa_bringBack 0 rfl) ?_
  refine ev_iconst (v := 1) rfl (a_dec_at dc_Pa_bringBack 1 rfl) ?_
  refine ev_icmp_lt (tgt := 13) (a_dec_at dc_Pa_bringBack 2 rfl) (by decide) (fun b1 => ?_) (fun b1 => ?_)
  · have H := H.1 b1
    exact m_retV (a_dec_at dc_Pa_bringBack 7 rfl) rfl H
  · have H := H.2 b1
    refine ev_iload_n (i := 1) rfl rfl (a_dec_at dc_Pa_bringBack 3 rfl) ?_
    refine ev_aload_n (i := 0) rfl rfl (a_dec_at dc_Pa_bringBack 4 rfl) ?_
    refine m_getI fl_Pa_32 rfl sh42 (a_dec_at dc_Pa_bringBack 5 rfl) ?_
    refine ev_icmp_le (tgt := 14) (a_dec_at dc_Pa_bringBack 6 rfl) (by decide) (fun b2 => ?_) (fun b2 => ?_)
    · have H := H.1 b2
      refine ev_aload_n (i := 0) rfl rfl (a_dec_at dc_Pa_bringBack 8 rfl) ?_
      refine ev_aload_n (i := 0) rfl rfl (a_dec_at dc_Pa_bringBack 9 rfl) ?_
      refine m_getI fl_Pa_28 rfl sh42 (a_dec_at dc_Pa_bringBack 10 rfl) ?_
      refine ev_bipush (v := 10) rfl (a_dec_at dc_Pa_bringBack 11 rfl) ?_
      refine ev_iadd (a_dec_at dc_Pa_bringBack 12 rfl) ?_
      refine ev_iload_n (i := 1) rfl rfl (a_dec_at dc_Pa_bringBack 13 rfl) ?_
      refine ev_isub (a_dec_at dc_Pa_bringBack 14 rfl) ?_
      refine ev_bipush (v := 10) rfl (a_dec_at dc_Pa_bringBack 15 rfl) ?_
      refine ev_irem (by decide) (a_dec_at dc_Pa_bringBack 16 rfl) ?_
      refine m_putI fl_Pa_28 rfl (fun _ _ _ h => by cases h; exact Or.inl rfl) sh42 (a_dec_at dc_Pa_bringBack 17 rfl) ?_
      refine ev_aload_n (i := 0) rfl rfl (a_dec_at dc_Pa_bringBack 18 rfl) ?_
      refine ev_dup rfl (a_dec_at dc_Pa_bringBack 19 rfl) ?_
      refine m_getI fl_Pa_32 rfl sh42 (a_dec_at dc_Pa_bringBack 20 rfl) ?_
      refine ev_iload_n (i := 1) rfl rfl (a_dec_at dc_Pa_bringBack 21 rfl) ?_
      refine ev_isub (a_dec_at dc_Pa_bringBack 22 rfl) ?_
      refine m_putI fl_Pa_32 rfl (fun _ _ _ h => by cases h; exact Or.inl rfl) sh42 (a_dec_at dc_Pa_bringBack 23 rfl) ?_
      refine ev_aload_n (i := 0) rfl rfl (a_dec_at dc_Pa_bringBack 24 rfl) ?_
      refine m_getR (y := 43) fl_Pa_13 rfl sh42 (mr_42_0 _) (by decide) (a_dec_at dc_Pa_bringBack 25 rfl) ?_
      refine ev_aload_n (i := 0) rfl rfl (a_dec_at dc_Pa_bringBack 26 rfl) ?_
      refine m_getI fl_Pa_28 rfl sh42 (a_dec_at dc_Pa_bringBack 27 rfl) ?_
      obtain ⟨c3, H⟩ := H
      obtain ⟨c4, H⟩ := H
      refine w_aald (k := ((up (up mi 42 2 (a_rem (((mi 42 2) + 10) - a1) 10)) 42 3 (((up mi 42 2 (a_rem (((mi 42 2) + 10) - a1) 10)) 42 3) - a1)) 42 2).toNatClampNeg) (y := (MR z 43 (((up (up mi 42 2 (a_rem (((mi 42 2) + 10) - a1) 10)) 42 3 (((up mi 42 2 (a_rem (((mi 42 2) + 10) - a1) 10)) 42 3) - a1)) 42 2).toNatClampNeg))) (by decide) sh43 c3 rfl rfl c4 (a_dec_at dc_Pa_bringBack 28 rfl) ?_
      refine ev_iconst (v := 0) rfl (a_dec_at dc_Pa_bringBack 29 rfl) ?_
      refine ev_aload_n (i := 2) rfl rfl (a_dec_at dc_Pa_bringBack 30 rfl) ?_
      refine ev_iconst (v := 0) rfl (a_dec_at dc_Pa_bringBack 31 rfl) ?_
      refine ev_bipush (v := 40) rfl (a_dec_at dc_Pa_bringBack 32 rfl) ?_
      obtain ⟨c5, H⟩ := H
      obtain ⟨c6, H⟩ := H
      refine w_copy (ks := 0) (kd := 0) (kn := 40) cs_Pa_22 c5 sh27 (by decide) (by decide) (by decide) c6 (Nat.le_of_ble_eq_true rfl) (a_dec_at dc_Pa_bringBack 33 rfl) ?_
      exact m_retV (a_dec_at dc_Pa_bringBack 34 rfl) rfl H
    · have H := H.2 b2
      exact m_retV (a_dec_at dc_Pa_bringBack 7 rfl) rfl H
set_option maxRecDepth 20000 in
theorem t_Pa_forget {l : Launch} {h : Nat} (mi : TMi) (ml : TMl) (z : Nat) {Q : TMi → TMl → Nat → Prop} (H : Q (up mi 42 3 0) ml z) : CV l (h + 1) m_Pa_forget [.ref 42] mi ml z Q := by
  show Ev l (h + 1) m_Pa_forget 0 ([.ref 42], [], st mi ml z) (qV Q)
  refine ev_aload_n (i := 0) rfl rfl (a_dec_at dc_Pa_forget 0 rfl) ?_
  refine ev_iconst (v := 0) rfl (a_dec_at dc_Pa_forget 1 rfl) ?_
  refine m_putI fl_Pa_32 rfl (fun _ _ _ h => by cases h; exact Or.inl rfl) sh42 (a_dec_at dc_Pa_forget 2 rfl) ?_
  exact m_retV (a_dec_at dc_Pa_forget 3 rfl) rfl H
set_option maxRecDepth 20000 in
theorem t_Tr_missing_111 {l : Launch} {h : Nat} (mi : TMi) (ml : TMl) (z : Nat) {Q : Int32 → TMi → TMl → Nat → Prop} (H : ((¬ (mi 111 1) = (-1) → Q 0 mi ml z) ∧ ((mi 111 1) = (-1) → Q 1 mi ml z))) : CI l (h + 1) m_Tr_missing [.ref 111] mi ml z Q := by
  show Ev l (h + 1) m_Tr_missing 0 ([.ref 111], [], st mi ml z) (qI Q)
  refine ev_aload_n (i := 0) rfl rfl (a_dec_at dc_Tr_missing 0 rfl) ?_
  refine m_getI fl_Tr_15 rfl sh111 (a_dec_at dc_Tr_missing 1 rfl) ?_
  refine ev_iconst (v := (-1)) rfl (a_dec_at dc_Tr_missing 2 rfl) ?_
  refine ev_icmp_ne (tgt := 12) (a_dec_at dc_Tr_missing 3 rfl) (by decide) (fun b1 => ?_) (fun b1 => ?_)
  · have H := H.1 b1
    refine ev_iconst (v := 0) rfl (a_dec_at dc_Tr_missing 6 rfl) ?_
    exact m_retI (a_dec_at dc_Tr_missing 7 rfl) rfl rfl H
  · have H := H.2 b1
    refine ev_iconst (v := 1) rfl (a_dec_at dc_Tr_missing 4 rfl) ?_
    refine ev_goto (tgt := 13) (a_dec_at dc_Tr_missing 5 rfl) (by decide) ?_
    exact m_retI (a_dec_at dc_Tr_missing 7 rfl) rfl rfl H
set_option maxRecDepth 20000 in
theorem t_Tr_at_111 {l : Launch} {h : Nat} (mi : TMi) (ml : TMl) (z : Nat) (a1 : Int32) {Q : Int64 → TMi → TMl → Nat → Prop} (H : CI l h m_Tr_hasPlace [.ref 111, .int a1] mi ml z (fun x1 mi1 ml1 z1 => ((x1 = 0 → Q 0 mi1 ml1 z1) ∧ (¬ x1 = 0 → (vp_in a1 40) ∧ Q (ml1 112 a1.toNatClampNeg) mi1 ml1 z1)))) : CLg l (h + 1) m_Tr_at [.ref 111, .int a1] mi ml z Q := by
  show Ev l (h + 1) m_Tr_at 0 ([.ref 111, .int a1], [], st mi ml z) (qL Q)
  refine ev_aload_n (i := 0) rfl rfl (a_dec_at dc_Tr_at 0 rfl) ?_
  refine ev_iload_n (i := 1) rfl rfl (a_dec_at dc_Tr_at 1 rfl) ?_
  refine cV1I cs_Tr_37 sh111 rfl (Nat.le_of_ble_eq_true rfl) (Nat.le_of_ble_eq_true rfl) (a_dec_at dc_Tr_at 2 rfl) ?_
  refine CI.mono (fun x1 mi1 ml1 z1 H => ?_) H
  refine ev_if_eq (tgt := 17) (a_dec_at dc_Tr_at 3 rfl) (by decide) (fun b2 => ?_) (fun b2 => ?_)
  · have H := H.1 b2
    refine ev_lconst (v := 0) rfl (a_dec_at dc_Tr_at 9 rfl) ?_
    exact m_retL (a_dec_at dc_Tr_at 10 rfl) rfl H
  · have H := H.2 b2
    refine ev_aload_n (i := 0) rfl rfl (a_dec_at dc_Tr_at 4 rfl) ?_
    refine m_getR (y := 112) fl_Tr_9 rfl sh111 (mr_111_0 _) (by decide) (a_dec_at dc_Tr_at 5 rfl) ?_
    refine ev_iload_n (i := 1) rfl rfl (a_dec_at dc_Tr_at 6 rfl) ?_
    obtain ⟨c3, H⟩ := H
    refine w_lald (k := a1.toNatClampNeg) sh112 c3 rfl (a_dec_at dc_Tr_at 7 rfl) ?_
    refine ev_goto (tgt := 18) (a_dec_at dc_Tr_at 8 rfl) (by decide) ?_
    exact m_retL (a_dec_at dc_Tr_at 10 rfl) rfl H
set_option maxRecDepth 20000 in
theorem t_Tr_hasPlace_111 {l : Launch} {h : Nat} (mi : TMi) (ml : TMl) (z : Nat) (a1 : Int32) {Q : Int32 → TMi → TMl → Nat → Prop} (H : ((a1 < 0 → Q 0 mi ml z) ∧ (¬ a1 < 0 → (((mi 111 2) ≤ a1 → Q 0 mi ml z) ∧ (¬ (mi 111 2) ≤ a1 → Q 1 mi ml z))))) : CI l (h + 1) m_Tr_hasPlace [.ref 111, .int a1] mi ml z Q := by
  show Ev l (h + 1) m_Tr_hasPlace 0 ([.ref 111, .int a1], [], st mi ml z) (qI Q)
  refine ev_iload_n (i := 1) rfl rfl (a_dec_at dc_Tr_hasPlace 0 rfl) ?_
  refine ev_if_lt (tgt := 16) (a_dec_at dc_Tr_hasPlace 1 rfl) (by decide) (fun b1 => ?_) (fun b1 => ?_)
  · have H := H.1 b1
    refine ev_iconst (v := 0) rfl (a_dec_at dc_Tr_hasPlace 8 rfl) ?_
    exact m_retI (a_dec_at dc_Tr_hasPlace 9 rfl) rfl rfl H
  · have H := H.2 b1
    refine ev_iload_n (i := 1) rfl rfl (a_dec_at dc_Tr_hasPlace 2 rfl) ?_
    refine ev_aload_n (i := 0) rfl rfl (a_dec_at dc_Tr_hasPlace 3 rfl) ?_
    refine m_getI fl_Tr_28 rfl sh111 (a_dec_at dc_Tr_hasPlace 4 rfl) ?_
    refine ev_icmp_ge (tgt := 16) (a_dec_at dc_Tr_hasPlace 5 rfl) (by decide) (fun b2 => ?_) (fun b2 => ?_)
    · have H := H.1 b2
      refine ev_iconst (v := 0) rfl (a_dec_at dc_Tr_hasPlace 8 rfl) ?_
      exact m_retI (a_dec_at dc_Tr_hasPlace 9 rfl) rfl rfl H
    · have H := H.2 b2
      refine ev_iconst (v := 1) rfl (a_dec_at dc_Tr_hasPlace 6 rfl) ?_
      refine ev_goto (tgt := 17) (a_dec_at dc_Tr_hasPlace 7 rfl) (by decide) ?_
      exact m_retI (a_dec_at dc_Tr_hasPlace 9 rfl) rfl rfl H
set_option maxRecDepth 20000 in
theorem t_Tr_make_111 {l : Launch} {h : Nat} (mi : TMi) (ml : TMl) (z : Nat) (a1 : Int32) (a2 : Int32) {Q : TMi → TMl → Nat → Prop} (H : CV l h m_JA_fill2 [.ref 112, .long 0] (up (up mi 111 1 a1) 111 2 (if 0 < (if a2 > 40 then 40 else a2) then if a2 > 40 then 40 else a2 else 0)) ml z (fun mi1 ml1 z1 => Q mi1 ml1 z1)) : CV l (h + 1) m_Tr_make [.ref 111, .int a1, .int a2] mi ml z Q := by
  show Ev l (h + 1) m_Tr_make 0 ([.ref 111, .int a1, .int a2], [], st mi ml z) (qV Q)
  refine ev_aload_n (i := 0) rfl rfl (a_dec_at dc_Tr_make 0 rfl) ?_
  refine ev_iload_n (i := 1) rfl rfl (a_dec_at dc_Tr_make 1 rfl) ?_
  refine m_putI fl_Tr_15 rfl (fun _ _ _ h => by cases h; exact Or.inl rfl) sh111 (a_dec_at dc_Tr_make 2 rfl) ?_
  refine ev_aload_n (i := 0) rfl rfl (a_dec_at dc_Tr_make 3 rfl) ?_
  refine ev_iconst (v := 0) rfl (a_dec_at dc_Tr_make 4 rfl) ?_
  refine ev_iload_n (i := 2) rfl rfl (a_dec_at dc_Tr_make 5 rfl) ?_
  refine ev_bipush (v := 40) rfl (a_dec_at dc_Tr_make 6 rfl) ?_
  refine w_mmin cs_Tr_19 (Nat.le_of_ble_eq_true rfl) (a_dec_at dc_Tr_make 7 rfl) ?_
  refine w_mmax cs_Tr_25 (Nat.le_of_ble_eq_true rfl) (a_dec_at dc_Tr_make 8 rfl) ?_
  refine m_putI fl_Tr_28 rfl (fun _ _ _ h => by cases h; exact Or.inl rfl) sh111 (a_dec_at dc_Tr_make 9 rfl) ?_
  refine ev_aload_n (i := 0) rfl rfl (a_dec_at dc_Tr_make 10 rfl) ?_
  refine m_getR (y := 112) fl_Tr_9 rfl sh111 (mr_111_0 _) (by decide) (a_dec_at dc_Tr_make 11 rfl) ?_
  refine ev_lconst (v := 0) rfl (a_dec_at dc_Tr_make 12 rfl) ?_
  refine cS2V cs_Tr_31 rfl (Nat.le_of_ble_eq_true rfl) (Nat.le_of_ble_eq_true rfl) (a_dec_at dc_Tr_make 13 rfl) ?_
  refine CV.mono (fun mi1 ml1 z1 H => ?_) H
  exact m_retV (a_dec_at dc_Tr_make 14 rfl) rfl H
set_option maxRecDepth 20000 in
theorem t_Tr_put_111 {l : Launch} {h : Nat} (mi : TMi) (ml : TMl) (z : Nat) (a1 : Int32) (a2 : Int64) {Q : Int64 → TMi → TMl → Nat → Prop} (H : CLg l h m_Tr_cutTo [.ref 111, .long a2] mi ml z (fun x1 mi1 ml1 z1 => CI l h m_Tr_hasPlace [.ref 111, .int a1] mi1 ml1 z1 (fun x2 mi2 ml2 z2 => ((x2 = 0 → Q x1 mi2 ml2 z2) ∧ (¬ x2 = 0 → (vp_in a1 40) ∧ Q x1 mi2 (upL ml2 112 a1.toNatClampNeg x1) z2))))) : CLg l (h + 1) m_Tr_put [.ref 111, .int a1, .long a2] mi ml z Q := by
  show Ev l (h + 1) m_Tr_put 0 ([.ref 111, .int a1, .long a2, .retAddr 0, .retAddr 0, .retAddr 0], [], st mi ml z) (qL Q)
  refine ev_aload_n (i := 0) rfl rfl (a_dec_at dc_Tr_put 0 rfl) ?_
  refine ev_lload_n (i := 2) rfl rfl (a_dec_at dc_Tr_put 1 rfl) ?_
  refine cV1L cs_Tr_41 sh111 rfl (Nat.le_of_ble_eq_true rfl) (Nat.le_of_ble_eq_true rfl) (a_dec_at dc_Tr_put 2 rfl) ?_
  refine CLg.mono (fun x1 mi1 ml1 z1 H => ?_) H
  refine ev_lstore (by decide) rfl (a_dec_at dc_Tr_put 3 rfl) ?_
  refine ev_aload_n (i := 0) rfl rfl (a_dec_at dc_Tr_put 4 rfl) ?_
  refine ev_iload_n (i := 1) rfl rfl (a_dec_at dc_Tr_put 5 rfl) ?_
  refine cV1I cs_Tr_37 sh111 rfl (Nat.le_of_ble_eq_true rfl) (Nat.le_of_ble_eq_true rfl) (a_dec_at dc_Tr_put 6 rfl) ?_
  refine CI.mono (fun x2 mi2 ml2 z2 H => ?_) H
  refine ev_if_eq (tgt := 23) (a_dec_at dc_Tr_put 7 rfl) (by decide) (fun b3 => ?_) (fun b3 => ?_)
  · have H := H.1 b3
    refine ev_lload rfl (a_dec_at dc_Tr_put 13 rfl) ?_
    exact m_retL (a_dec_at dc_Tr_put 14 rfl) rfl H
  · have H := H.2 b3
    refine ev_aload_n (i := 0) rfl rfl (a_dec_at dc_Tr_put 8 rfl) ?_
    refine m_getR (y := 112) fl_Tr_9 rfl sh111 (mr_111_0 _) (by decide) (a_dec_at dc_Tr_put 9 rfl) ?_
    refine ev_iload_n (i := 1) rfl rfl (a_dec_at dc_Tr_put 10 rfl) ?_
    refine ev_lload rfl (a_dec_at dc_Tr_put 11 rfl) ?_
    obtain ⟨c4, H⟩ := H
    refine w_last (k := a1.toNatClampNeg) sh112 c4 rfl (a_dec_at dc_Tr_put 12 rfl) ?_
    refine ev_lload rfl (a_dec_at dc_Tr_put 13 rfl) ?_
    exact m_retL (a_dec_at dc_Tr_put 14 rfl) rfl H
set_option maxRecDepth 20000 in
theorem t_Tr_cutTo_111 {l : Launch} {h : Nat} (mi : TMi) (ml : TMl) (z : Nat) (a1 : Int64) {Q : Int64 → TMi → TMl → Nat → Prop} (H : (((mi 111 1) = 0 → Q a1.toInt32.toInt8.toInt32.toInt64 mi ml z) ∧ (((mi 111 1) = 1 → Q a1.toInt32.toInt16.toInt32.toInt64 mi ml z) ∧ (((mi 111 1) = 2 → Q a1.toInt32.toInt64 mi ml z) ∧ (¬ (mi 111 1) = 0 → ¬ (mi 111 1) = 1 → ¬ (mi 111 1) = 2 → Q a1 mi ml z))))) : CLg l (h + 1) m_Tr_cutTo [.ref 111, .long a1] mi ml z Q := by
  show Ev l (h + 1) m_Tr_cutTo 0 ([.ref 111, .long a1, .retAddr 0], [], st mi ml z) (qL Q)
  refine ev_aload_n (i := 0) rfl rfl (a_dec_at dc_Tr_cutTo 0 rfl) ?_
  refine m_getI fl_Tr_15 rfl sh111 (a_dec_at dc_Tr_cutTo 1 rfl) ?_
  by_cases e1 : (mi 111 1) = 0
  · have H := H.1 e1
    refine w_tableIn (c := 0) (off := 28) (tgt := 32) (a_dec_at dc_Tr_cutTo 2 rfl) e1 (by decide) (by decide) (by decide) (by decide) ?_
    refine ev_lload_n (i := 1) rfl rfl (a_dec_at dc_Tr_cutTo 3 rfl) ?_
    refine ev_l2i (a_dec_at dc_Tr_cutTo 4 rfl) ?_
    refine ev_i2b (a_dec_at dc_Tr_cutTo 5 rfl) ?_
    refine ev_i2l (a_dec_at dc_Tr_cutTo 6 rfl) ?_
    exact m_retL (a_dec_at dc_Tr_cutTo 7 rfl) rfl H
  have H := H.2
  by_cases e2 : (mi 111 1) = 1
  · have H := H.1 e2
    refine w_tableIn (c := 1) (off := 33) (tgt := 37) (a_dec_at dc_Tr_cutTo 2 rfl) e2 (by decide) (by decide) (by decide) (by decide) ?_
    refine ev_lload_n (i := 1) rfl rfl (a_dec_at dc_Tr_cutTo 8 rfl) ?_
    refine ev_l2i (a_dec_at dc_Tr_cutTo 9 rfl) ?_
    refine ev_i2s (a_dec_at dc_Tr_cutTo 10 rfl) ?_
    refine ev_i2l (a_dec_at dc_Tr_cutTo 11 rfl) ?_
    exact m_retL (a_dec_at dc_Tr_cutTo 12 rfl) rfl H
  have H := H.2
  by_cases e3 : (mi 111 1) = 2
  · have H := H.1 e3
    refine w_tableIn (c := 2) (off := 38) (tgt := 42) (a_dec_at dc_Tr_cutTo 2 rfl) e3 (by decide) (by decide) (by decide) (by decide) ?_
    refine ev_lload_n (i := 1) rfl rfl (a_dec_at dc_Tr_cutTo 13 rfl) ?_
    refine ev_l2i (a_dec_at dc_Tr_cutTo 14 rfl) ?_
    refine ev_i2l (a_dec_at dc_Tr_cutTo 15 rfl) ?_
    exact m_retL (a_dec_at dc_Tr_cutTo 16 rfl) rfl H
  have H := H.2
  refine w_tableOut (tgt := 46) [0, 1, 2] (a_dec_at dc_Tr_cutTo 2 rfl) (by decide) (by intro c hc; simp only [List.mem_cons, List.not_mem_nil, or_false] at hc; rcases hc with rfl | rfl | rfl <;> assumption) (by decide) ?_
  have H := H e1 e2 e3
  refine ev_lload_n (i := 1) rfl rfl (a_dec_at dc_Tr_cutTo 17 rfl) ?_
  exact m_retL (a_dec_at dc_Tr_cutTo 18 rfl) rfl H
set_option maxRecDepth 20000 in
theorem t_Tr_missing_113 {l : Launch} {h : Nat} (mi : TMi) (ml : TMl) (z : Nat) {Q : Int32 → TMi → TMl → Nat → Prop} (H : ((¬ (mi 113 1) = (-1) → Q 0 mi ml z) ∧ ((mi 113 1) = (-1) → Q 1 mi ml z))) : CI l (h + 1) m_Tr_missing [.ref 113] mi ml z Q := by
  show Ev l (h + 1) m_Tr_missing 0 ([.ref 113], [], st mi ml z) (qI Q)
  refine ev_aload_n (i := 0) rfl rfl (a_dec_at dc_Tr_missing 0 rfl) ?_
  refine m_getI fl_Tr_15 rfl sh113 (a_dec_at dc_Tr_missing 1 rfl) ?_
  refine ev_iconst (v := (-1)) rfl (a_dec_at dc_Tr_missing 2 rfl) ?_
  refine ev_icmp_ne (tgt := 12) (a_dec_at dc_Tr_missing 3 rfl) (by decide) (fun b1 => ?_) (fun b1 => ?_)
  · have H := H.1 b1
    refine ev_iconst (v := 0) rfl (a_dec_at dc_Tr_missing 6 rfl) ?_
    exact m_retI (a_dec_at dc_Tr_missing 7 rfl) rfl rfl H
  · have H := H.2 b1
    refine ev_iconst (v := 1) rfl (a_dec_at dc_Tr_missing 4 rfl) ?_
    refine ev_goto (tgt := 13) (a_dec_at dc_Tr_missing 5 rfl) (by decide) ?_
    exact m_retI (a_dec_at dc_Tr_missing 7 rfl) rfl rfl H
set_option maxRecDepth 20000 in
theorem t_Tr_at_113 {l : Launch} {h : Nat} (mi : TMi) (ml : TMl) (z : Nat) (a1 : Int32) {Q : Int64 → TMi → TMl → Nat → Prop} (H : CI l h m_Tr_hasPlace [.ref 113, .int a1] mi ml z (fun x1 mi1 ml1 z1 => ((x1 = 0 → Q 0 mi1 ml1 z1) ∧ (¬ x1 = 0 → (vp_in a1 40) ∧ Q (ml1 114 a1.toNatClampNeg) mi1 ml1 z1)))) : CLg l (h + 1) m_Tr_at [.ref 113, .int a1] mi ml z Q := by
  show Ev l (h + 1) m_Tr_at 0 ([.ref 113, .int a1], [], st mi ml z) (qL Q)
  refine ev_aload_n (i := 0) rfl rfl (a_dec_at dc_Tr_at 0 rfl) ?_
  refine ev_iload_n (i := 1) rfl rfl (a_dec_at dc_Tr_at 1 rfl) ?_
  refine cV1I cs_Tr_37 sh113 rfl (Nat.le_of_ble_eq_true rfl) (Nat.le_of_ble_eq_true rfl) (a_dec_at dc_Tr_at 2 rfl) ?_
  refine CI.mono (fun x1 mi1 ml1 z1 H => ?_) H
  refine ev_if_eq (tgt := 17) (a_dec_at dc_Tr_at 3 rfl) (by decide) (fun b2 => ?_) (fun b2 => ?_)
  · have H := H.1 b2
    refine ev_lconst (v := 0) rfl (a_dec_at dc_Tr_at 9 rfl) ?_
    exact m_retL (a_dec_at dc_Tr_at 10 rfl) rfl H
  · have H := H.2 b2
    refine ev_aload_n (i := 0) rfl rfl (a_dec_at dc_Tr_at 4 rfl) ?_
    refine m_getR (y := 114) fl_Tr_9 rfl sh113 (mr_113_0 _) (by decide) (a_dec_at dc_Tr_at 5 rfl) ?_
    refine ev_iload_n (i := 1) rfl rfl (a_dec_at dc_Tr_at 6 rfl) ?_
    obtain ⟨c3, H⟩ := H
    refine w_lald (k := a1.toNatClampNeg) sh114 c3 rfl (a_dec_at dc_Tr_at 7 rfl) ?_
    refine ev_goto (tgt := 18) (a_dec_at dc_Tr_at 8 rfl) (by decide) ?_
    exact m_retL (a_dec_at dc_Tr_at 10 rfl) rfl H
set_option maxRecDepth 20000 in
theorem t_Tr_hasPlace_113 {l : Launch} {h : Nat} (mi : TMi) (ml : TMl) (z : Nat) (a1 : Int32) {Q : Int32 → TMi → TMl → Nat → Prop} (H : ((a1 < 0 → Q 0 mi ml z) ∧ (¬ a1 < 0 → (((mi 113 2) ≤ a1 → Q 0 mi ml z) ∧ (¬ (mi 113 2) ≤ a1 → Q 1 mi ml z))))) : CI l (h + 1) m_Tr_hasPlace [.ref 113, .int a1] mi ml z Q := by
  show Ev l (h + 1) m_Tr_hasPlace 0 ([.ref 113, .int a1], [], st mi ml z) (qI Q)
  refine ev_iload_n (i := 1) rfl rfl (a_dec_at dc_Tr_hasPlace 0 rfl) ?_
  refine ev_if_lt (tgt := 16) (a_dec_at dc_Tr_hasPlace 1 rfl) (by decide) (fun b1 => ?_) (fun b1 => ?_)
  · have H := H.1 b1
    refine ev_iconst (v := 0) rfl (a_dec_at dc_Tr_hasPlace 8 rfl) ?_
    exact m_retI (a_dec_at dc_Tr_hasPlace 9 rfl) rfl rfl H
  · have H := H.2 b1
    refine ev_iload_n (i := 1) rfl rfl (a_dec_at dc_Tr_hasPlace 2 rfl) ?_
    refine ev_aload_n (i := 0) rfl rfl (a_dec_at dc_Tr_hasPlace 3 rfl) ?_
    refine m_getI fl_Tr_28 rfl sh113 (a_dec_at dc_Tr_hasPlace 4 rfl) ?_
    refine ev_icmp_ge (tgt := 16) (a_dec_at dc_Tr_hasPlace 5 rfl) (by decide) (fun b2 => ?_) (fun b2 => ?_)
    · have H := H.1 b2
      refine ev_iconst (v := 0) rfl (a_dec_at dc_Tr_hasPlace 8 rfl) ?_
      exact m_retI (a_dec_at dc_Tr_hasPlace 9 rfl) rfl rfl H
    · have H := H.2 b2
      refine ev_iconst (v := 1) rfl (a_dec_at dc_Tr_hasPlace 6 rfl) ?_
      refine ev_goto (tgt := 17) (a_dec_at dc_Tr_hasPlace 7 rfl) (by decide) ?_
      exact m_retI (a_dec_at dc_Tr_hasPlace 9 rfl) rfl rfl H
set_option maxRecDepth 20000 in
theorem t_Tr_make_113 {l : Launch} {h : Nat} (mi : TMi) (ml : TMl) (z : Nat) (a1 : Int32) (a2 : Int32) {Q : TMi → TMl → Nat → Prop} (H : CV l h m_JA_fill2 [.ref 114, .long 0] (up (up mi 113 1 a1) 113 2 (if 0 < (if a2 > 40 then 40 else a2) then if a2 > 40 then 40 else a2 else 0)) ml z (fun mi1 ml1 z1 => Q mi1 ml1 z1)) : CV l (h + 1) m_Tr_make [.ref 113, .int a1, .int a2] mi ml z Q := by
  show Ev l (h + 1) m_Tr_make 0 ([.ref 113, .int a1, .int a2], [], st mi ml z) (qV Q)
  refine ev_aload_n (i := 0) rfl rfl (a_dec_at dc_Tr_make 0 rfl) ?_
  refine ev_iload_n (i := 1) rfl rfl (a_dec_at dc_Tr_make 1 rfl) ?_
  refine m_putI fl_Tr_15 rfl (fun _ _ _ h => by cases h; exact Or.inl rfl) sh113 (a_dec_at dc_Tr_make 2 rfl) ?_
  refine ev_aload_n (i := 0) rfl rfl (a_dec_at dc_Tr_make 3 rfl) ?_
  refine ev_iconst (v := 0) rfl (a_dec_at dc_Tr_make 4 rfl) ?_
  refine ev_iload_n (i := 2) rfl rfl (a_dec_at dc_Tr_make 5 rfl) ?_
  refine ev_bipush (v := 40) rfl (a_dec_at dc_Tr_make 6 rfl) ?_
  refine w_mmin cs_Tr_19 (Nat.le_of_ble_eq_true rfl) (a_dec_at dc_Tr_make 7 rfl) ?_
  refine w_mmax cs_Tr_25 (Nat.le_of_ble_eq_true rfl) (a_dec_at dc_Tr_make 8 rfl) ?_
  refine m_putI fl_Tr_28 rfl (fun _ _ _ h => by cases h; exact Or.inl rfl) sh113 (a_dec_at dc_Tr_make 9 rfl) ?_
  refine ev_aload_n (i := 0) rfl rfl (a_dec_at dc_Tr_make 10 rfl) ?_
  refine m_getR (y := 114) fl_Tr_9 rfl sh113 (mr_113_0 _) (by decide) (a_dec_at dc_Tr_make 11 rfl) ?_
  refine ev_lconst (v := 0) rfl (a_dec_at dc_Tr_make 12 rfl) ?_
  refine cS2V cs_Tr_31 rfl (Nat.le_of_ble_eq_true rfl) (Nat.le_of_ble_eq_true rfl) (a_dec_at dc_Tr_make 13 rfl) ?_
  refine CV.mono (fun mi1 ml1 z1 H => ?_) H
  exact m_retV (a_dec_at dc_Tr_make 14 rfl) rfl H
set_option maxRecDepth 20000 in
theorem t_Tr_put_113 {l : Launch} {h : Nat} (mi : TMi) (ml : TMl) (z : Nat) (a1 : Int32) (a2 : Int64) {Q : Int64 → TMi → TMl → Nat → Prop} (H : CLg l h m_Tr_cutTo [.ref 113, .long a2] mi ml z (fun x1 mi1 ml1 z1 => CI l h m_Tr_hasPlace [.ref 113, .int a1] mi1 ml1 z1 (fun x2 mi2 ml2 z2 => ((x2 = 0 → Q x1 mi2 ml2 z2) ∧ (¬ x2 = 0 → (vp_in a1 40) ∧ Q x1 mi2 (upL ml2 114 a1.toNatClampNeg x1) z2))))) : CLg l (h + 1) m_Tr_put [.ref 113, .int a1, .long a2] mi ml z Q := by
  show Ev l (h + 1) m_Tr_put 0 ([.ref 113, .int a1, .long a2, .retAddr 0, .retAddr 0, .retAddr 0], [], st mi ml z) (qL Q)
  refine ev_aload_n (i := 0) rfl rfl (a_dec_at dc_Tr_put 0 rfl) ?_
  refine ev_lload_n (i := 2) rfl rfl (a_dec_at dc_Tr_put 1 rfl) ?_
  refine cV1L cs_Tr_41 sh113 rfl (Nat.le_of_ble_eq_true rfl) (Nat.le_of_ble_eq_true rfl) (a_dec_at dc_Tr_put 2 rfl) ?_
  refine CLg.mono (fun x1 mi1 ml1 z1 H => ?_) H
  refine ev_lstore (by decide) rfl (a_dec_at dc_Tr_put 3 rfl) ?_
  refine ev_aload_n (i := 0) rfl rfl (a_dec_at dc_Tr_put 4 rfl) ?_
  refine ev_iload_n (i := 1) rfl rfl (a_dec_at dc_Tr_put 5 rfl) ?_
  refine cV1I cs_Tr_37 sh113 rfl (Nat.le_of_ble_eq_true rfl) (Nat.le_of_ble_eq_true rfl) (a_dec_at dc_Tr_put 6 rfl) ?_
  refine CI.mono (fun x2 mi2 ml2 z2 H => ?_) H
  refine ev_if_eq (tgt := 23) (a_dec_at dc_Tr_put 7 rfl) (by decide) (fun b3 => ?_) (fun b3 => ?_)
  · have H := H.1 b3
    refine ev_lload rfl (a_dec_at dc_Tr_put 13 rfl) ?_
    exact m_retL (a_dec_at dc_Tr_put 14 rfl) rfl H
  · have H := H.2 b3
    refine ev_aload_n (i := 0) rfl rfl (a_dec_at dc_Tr_put 8 rfl) ?_
    refine m_getR (y := 114) fl_Tr_9 rfl sh113 (mr_113_0 _) (by decide) (a_dec_at dc_Tr_put 9 rfl) ?_
    refine ev_iload_n (i := 1) rfl rfl (a_dec_at dc_Tr_put 10 rfl) ?_
    refine ev_lload rfl (a_dec_at dc_Tr_put 11 rfl) ?_
    obtain ⟨c4, H⟩ := H
    refine w_last (k := a1.toNatClampNeg) sh114 c4 rfl (a_dec_at dc_Tr_put 12 rfl) ?_
    refine ev_lload rfl (a_dec_at dc_Tr_put 13 rfl) ?_
    exact m_retL (a_dec_at dc_Tr_put 14 rfl) rfl H
set_option maxRecDepth 20000 in
theorem t_Tr_cutTo_113 {l : Launch} {h : Nat} (mi : TMi) (ml : TMl) (z : Nat) (a1 : Int64) {Q : Int64 → TMi → TMl → Nat → Prop} (H : (((mi 113 1) = 0 → Q a1.toInt32.toInt8.toInt32.toInt64 mi ml z) ∧ (((mi 113 1) = 1 → Q a1.toInt32.toInt16.toInt32.toInt64 mi ml z) ∧ (((mi 113 1) = 2 → Q a1.toInt32.toInt64 mi ml z) ∧ (¬ (mi 113 1) = 0 → ¬ (mi 113 1) = 1 → ¬ (mi 113 1) = 2 → Q a1 mi ml z))))) : CLg l (h + 1) m_Tr_cutTo [.ref 113, .long a1] mi ml z Q := by
  show Ev l (h + 1) m_Tr_cutTo 0 ([.ref 113, .long a1, .retAddr 0], [], st mi ml z) (qL Q)
  refine ev_aload_n (i := 0) rfl rfl (a_dec_at dc_Tr_cutTo 0 rfl) ?_
  refine m_getI fl_Tr_15 rfl sh113 (a_dec_at dc_Tr_cutTo 1 rfl) ?_
  by_cases e1 : (mi 113 1) = 0
  · have H := H.1 e1
    refine w_tableIn (c := 0) (off := 28) (tgt := 32) (a_dec_at dc_Tr_cutTo 2 rfl) e1 (by decide) (by decide) (by decide) (by decide) ?_
    refine ev_lload_n (i := 1) rfl rfl (a_dec_at dc_Tr_cutTo 3 rfl) ?_
    refine ev_l2i (a_dec_at dc_Tr_cutTo 4 rfl) ?_
    refine ev_i2b (a_dec_at dc_Tr_cutTo 5 rfl) ?_
    refine ev_i2l (a_dec_at dc_Tr_cutTo 6 rfl) ?_
    exact m_retL (a_dec_at dc_Tr_cutTo 7 rfl) rfl H
  have H := H.2
  by_cases e2 : (mi 113 1) = 1
  · have H := H.1 e2
    refine w_tableIn (c := 1) (off := 33) (tgt := 37) (a_dec_at dc_Tr_cutTo 2 rfl) e2 (by decide) (by decide) (by decide) (by decide) ?_
    refine ev_lload_n (i := 1) rfl rfl (a_dec_at dc_Tr_cutTo 8 rfl) ?_
    refine ev_l2i (a_dec_at dc_Tr_cutTo 9 rfl) ?_
    refine ev_i2s (a_dec_at dc_Tr_cutTo 10 rfl) ?_
    refine ev_i2l (a_dec_at dc_Tr_cutTo 11 rfl) ?_
    exact m_retL (a_dec_at dc_Tr_cutTo 12 rfl) rfl H
  have H := H.2
  by_cases e3 : (mi 113 1) = 2
  · have H := H.1 e3
    refine w_tableIn (c := 2) (off := 38) (tgt := 42) (a_dec_at dc_Tr_cutTo 2 rfl) e3 (by decide) (by decide) (by decide) (by decide) ?_
    refine ev_lload_n (i := 1) rfl rfl (a_dec_at dc_Tr_cutTo 13 rfl) ?_
    refine ev_l2i (a_dec_at dc_Tr_cutTo 14 rfl) ?_
    refine ev_i2l (a_dec_at dc_Tr_cutTo 15 rfl) ?_
    exact m_retL (a_dec_at dc_Tr_cutTo 16 rfl) rfl H
  have H := H.2
  refine w_tableOut (tgt := 46) [0, 1, 2] (a_dec_at dc_Tr_cutTo 2 rfl) (by decide) (by intro c hc; simp only [List.mem_cons, List.not_mem_nil, or_false] at hc; rcases hc with rfl | rfl | rfl <;> assumption) (by decide) ?_
  have H := H e1 e2 e3
  refine ev_lload_n (i := 1) rfl rfl (a_dec_at dc_Tr_cutTo 17 rfl) ?_
  exact m_retL (a_dec_at dc_Tr_cutTo 18 rfl) rfl H
set_option maxRecDepth 20000 in
theorem t_Tr_missing_115 {l : Launch} {h : Nat} (mi : TMi) (ml : TMl) (z : Nat) {Q : Int32 → TMi → TMl → Nat → Prop} (H : ((¬ (mi 115 1) = (-1) → Q 0 mi ml z) ∧ ((mi 115 1) = (-1) → Q 1 mi ml z))) : CI l (h + 1) m_Tr_missing [.ref 115] mi ml z Q := by
  show Ev l (h + 1) m_Tr_missing 0 ([.ref 115], [], st mi ml z) (qI Q)
  refine ev_aload_n (i := 0) rfl rfl (a_dec_at dc_Tr_missing 0 rfl) ?_
  refine m_getI fl_Tr_15 rfl sh115 (a_dec_at dc_Tr_missing 1 rfl) ?_
  refine ev_iconst (v := (-1)) rfl (a_dec_at dc_Tr_missing 2 rfl) ?_
  refine ev_icmp_ne (tgt := 12) (a_dec_at dc_Tr_missing 3 rfl) (by decide) (fun b1 => ?_) (fun b1 => ?_)
  · have H := H.1 b1
    refine ev_iconst (v := 0) rfl (a_dec_at dc_Tr_missing 6 rfl) ?_
    exact m_retI (a_dec_at dc_Tr_missing 7 rfl) rfl rfl H
  · have H := H.2 b1
    refine ev_iconst (v := 1) rfl (a_dec_at dc_Tr_missing 4 rfl) ?_
    refine ev_goto (tgt := 13) (a_dec_at dc_Tr_missing 5 rfl) (by decide) ?_
    exact m_retI (a_dec_at dc_Tr_missing 7 rfl) rfl rfl H
set_option maxRecDepth 20000 in
theorem t_Tr_at_115 {l : Launch} {h : Nat} (mi : TMi) (ml : TMl) (z : Nat) (a1 : Int32) {Q : Int64 → TMi → TMl → Nat → Prop} (H : CI l h m_Tr_hasPlace [.ref 115, .int a1] mi ml z (fun x1 mi1 ml1 z1 => ((x1 = 0 → Q 0 mi1 ml1 z1) ∧ (¬ x1 = 0 → (vp_in a1 40) ∧ Q (ml1 116 a1.toNatClampNeg) mi1 ml1 z1)))) : CLg l (h + 1) m_Tr_at [.ref 115, .int a1] mi ml z Q := by
  show Ev l (h + 1) m_Tr_at 0 ([.ref 115, .int a1], [], st mi ml z) (qL Q)
  refine ev_aload_n (i := 0) rfl rfl (a_dec_at dc_Tr_at 0 rfl) ?_
  refine ev_iload_n (i := 1) rfl rfl (a_dec_at dc_Tr_at 1 rfl) ?_
  refine cV1I cs_Tr_37 sh115 rfl (Nat.le_of_ble_eq_true rfl) (Nat.le_of_ble_eq_true rfl) (a_dec_at dc_Tr_at 2 rfl) ?_
  refine CI.mono (fun x1 mi1 ml1 z1 H => ?_) H
  refine ev_if_eq (tgt := 17) (a_dec_at dc_Tr_at 3 rfl) (by decide) (fun b2 => ?_) (fun b2 => ?_)
  · have H := H.1 b2
    refine ev_lconst (v := 0) rfl (a_dec_at dc_Tr_at 9 rfl) ?_
    exact m_retL (a_dec_at dc_Tr_at 10 rfl) rfl H
  · have H := H.2 b2
    refine ev_aload_n (i := 0) rfl rfl (a_dec_at dc_Tr_at 4 rfl) ?_
    refine m_getR (y := 116) fl_Tr_9 rfl sh115 (mr_115_0 _) (by decide) (a_dec_at dc_Tr_at 5 rfl) ?_
    refine ev_iload_n (i := 1) rfl rfl (a_dec_at dc_Tr_at 6 rfl) ?_
    obtain ⟨c3, H⟩ := H
    refine w_lald (k := a1.toNatClampNeg) sh116 c3 rfl (a_dec_at dc_Tr_at 7 rfl) ?_
    refine ev_goto (tgt := 18) (a_dec_at dc_Tr_at 8 rfl) (by decide) ?_
    exact m_retL (a_dec_at dc_Tr_at 10 rfl) rfl H
set_option maxRecDepth 20000 in
theorem t_Tr_hasPlace_115 {l : Launch} {h : Nat} (mi : TMi) (ml : TMl) (z : Nat) (a1 : Int32) {Q : Int32 → TMi → TMl → Nat → Prop} (H : ((a1 < 0 → Q 0 mi ml z) ∧ (¬ a1 < 0 → (((mi 115 2) ≤ a1 → Q 0 mi ml z) ∧ (¬ (mi 115 2) ≤ a1 → Q 1 mi ml z))))) : CI l (h + 1) m_Tr_hasPlace [.ref 115, .int a1] mi ml z Q := by
  show Ev l (h + 1) m_Tr_hasPlace 0 ([.ref 115, .int a1], [], st mi ml z) (qI Q)
  refine ev_iload_n (i := 1) rfl rfl (a_dec_at dc_Tr_hasPlace 0 rfl) ?_
  refine ev_if_lt (tgt := 16) (a_dec_at dc_Tr_hasPlace 1 rfl) (by decide) (fun b1 => ?_) (fun b1 => ?_)
  · have H := H.1 b1
    refine ev_iconst (v := 0) rfl (a_dec_at dc_Tr_hasPlace 8 rfl) ?_
    exact m_retI (a_dec_at dc_Tr_hasPlace 9 rfl) rfl rfl H
  · have H := H.2 b1
    refine ev_iload_n (i := 1) rfl rfl (a_dec_at dc_Tr_hasPlace 2 rfl) ?_
    refine ev_aload_n (i := 0) rfl rfl (a_dec_at dc_Tr_hasPlace 3 rfl) ?_
    refine m_getI fl_Tr_28 rfl sh115 (a_dec_at dc_Tr_hasPlace 4 rfl) ?_
    refine ev_icmp_ge (tgt := 16) (a_dec_at dc_Tr_hasPlace 5 rfl) (by decide) (fun b2 => ?_) (fun b2 => ?_)
    · have H := H.1 b2
      refine ev_iconst (v := 0) rfl (a_dec_at dc_Tr_hasPlace 8 rfl) ?_
      exact m_retI (a_dec_at dc_Tr_hasPlace 9 rfl) rfl rfl H
    · have H := H.2 b2
      refine ev_iconst (v := 1) rfl (a_dec_at dc_Tr_hasPlace 6 rfl) ?_
      refine ev_goto (tgt := 17) (a_dec_at dc_Tr_hasPlace 7 rfl) (by decide) ?_
      exact m_retI (a_dec_at dc_Tr_hasPlace 9 rfl) rfl rfl H
set_option maxRecDepth 20000 in
theorem t_Tr_make_115 {l : Launch} {h : Nat} (mi : TMi) (ml : TMl) (z : Nat) (a1 : Int32) (a2 : Int32) {Q : TMi → TMl → Nat → Prop} (H : CV l h m_JA_fill2 [.ref 116, .long 0] (up (up mi 115 1 a1) 115 2 (if 0 < (if a2 > 40 then 40 else a2) then if a2 > 40 then 40 else a2 else 0)) ml z (fun mi1 ml1 z1 => Q mi1 ml1 z1)) : CV l (h + 1) m_Tr_make [.ref 115, .int a1, .int a2] mi ml z Q := by
  show Ev l (h + 1) m_Tr_make 0 ([.ref 115, .int a1, .int a2], [], st mi ml z) (qV Q)
  refine ev_aload_n (i := 0) rfl rfl (a_dec_at dc_Tr_make 0 rfl) ?_
  refine ev_iload_n (i := 1) rfl rfl (a_dec_at dc_Tr_make 1 rfl) ?_
  refine m_putI fl_Tr_15 rfl (fun _ _ _ h => by cases h; exact Or.inl rfl) sh115 (a_dec_at dc_Tr_make 2 rfl) ?_
  refine ev_aload_n (i := 0) rfl rfl (a_dec_at dc_Tr_make 3 rfl) ?_
  refine ev_iconst (v := 0) rfl (a_dec_at dc_Tr_make 4 rfl) ?_
  refine ev_iload_n (i := 2) rfl rfl (a_dec_at dc_Tr_make 5 rfl) ?_
  refine ev_bipush (v := 40) rfl (a_dec_at dc_Tr_make 6 rfl) ?_
  refine w_mmin cs_Tr_19 (Nat.le_of_ble_eq_true rfl) (a_dec_at dc_Tr_make 7 rfl) ?_
  refine w_mmax cs_Tr_25 (Nat.le_of_ble_eq_true rfl) (a_dec_at dc_Tr_make 8 rfl) ?_
  refine m_putI fl_Tr_28 rfl (fun _ _ _ h => by cases h; exact Or.inl rfl) sh115 (a_dec_at dc_Tr_make 9 rfl) ?_
  refine ev_aload_n (i := 0) rfl rfl (a_dec_at dc_Tr_make 10 rfl) ?_
  refine m_getR (y := 116) fl_Tr_9 rfl sh115 (mr_115_0 _) (by decide) (a_dec_at dc_Tr_make 11 rfl) ?_
  refine ev_lconst (v := 0) rfl (a_dec_at dc_Tr_make 12 rfl) ?_
  refine cS2V cs_Tr_31 rfl (Nat.le_of_ble_eq_true rfl) (Nat.le_of_ble_eq_true rfl) (a_dec_at dc_Tr_make 13 rfl) ?_
  refine CV.mono (fun mi1 ml1 z1 H => ?_) H
  exact m_retV (a_dec_at dc_Tr_make 14 rfl) rfl H
set_option maxRecDepth 20000 in
theorem t_Tr_put_115 {l : Launch} {h : Nat} (mi : TMi) (ml : TMl) (z : Nat) (a1 : Int32) (a2 : Int64) {Q : Int64 → TMi → TMl → Nat → Prop} (H : CLg l h m_Tr_cutTo [.ref 115, .long a2] mi ml z (fun x1 mi1 ml1 z1 => CI l h m_Tr_hasPlace [.ref 115, .int a1] mi1 ml1 z1 (fun x2 mi2 ml2 z2 => ((x2 = 0 → Q x1 mi2 ml2 z2) ∧ (¬ x2 = 0 → (vp_in a1 40) ∧ Q x1 mi2 (upL ml2 116 a1.toNatClampNeg x1) z2))))) : CLg l (h + 1) m_Tr_put [.ref 115, .int a1, .long a2] mi ml z Q := by
  show Ev l (h + 1) m_Tr_put 0 ([.ref 115, .int a1, .long a2, .retAddr 0, .retAddr 0, .retAddr 0], [], st mi ml z) (qL Q)
  refine ev_aload_n (i := 0) rfl rfl (a_dec_at dc_Tr_put 0 rfl) ?_
  refine ev_lload_n (i := 2) rfl rfl (a_dec_at dc_Tr_put 1 rfl) ?_
  refine cV1L cs_Tr_41 sh115 rfl (Nat.le_of_ble_eq_true rfl) (Nat.le_of_ble_eq_true rfl) (a_dec_at dc_Tr_put 2 rfl) ?_
  refine CLg.mono (fun x1 mi1 ml1 z1 H => ?_) H
  refine ev_lstore (by decide) rfl (a_dec_at dc_Tr_put 3 rfl) ?_
  refine ev_aload_n (i := 0) rfl rfl (a_dec_at dc_Tr_put 4 rfl) ?_
  refine ev_iload_n (i := 1) rfl rfl (a_dec_at dc_Tr_put 5 rfl) ?_
  refine cV1I cs_Tr_37 sh115 rfl (Nat.le_of_ble_eq_true rfl) (Nat.le_of_ble_eq_true rfl) (a_dec_at dc_Tr_put 6 rfl) ?_
  refine CI.mono (fun x2 mi2 ml2 z2 H => ?_) H
  refine ev_if_eq (tgt := 23) (a_dec_at dc_Tr_put 7 rfl) (by decide) (fun b3 => ?_) (fun b3 => ?_)
  · have H := H.1 b3
    refine ev_lload rfl (a_dec_at dc_Tr_put 13 rfl) ?_
    exact m_retL (a_dec_at dc_Tr_put 14 rfl) rfl H
  · have H := H.2 b3
    refine ev_aload_n (i := 0) rfl rfl (a_dec_at dc_Tr_put 8 rfl) ?_
    refine m_getR (y := 116) fl_Tr_9 rfl sh115 (mr_115_0 _) (by decide) (a_dec_at dc_Tr_put 9 rfl) ?_
    refine ev_iload_n (i := 1) rfl rfl (a_dec_at dc_Tr_put 10 rfl) ?_
    refine ev_lload rfl (a_dec_at dc_Tr_put 11 rfl) ?_
    obtain ⟨c4, H⟩ := H
    refine w_last (k := a1.toNatClampNeg) sh116 c4 rfl (a_dec_at dc_Tr_put 12 rfl) ?_
    refine ev_lload rfl (a_dec_at dc_Tr_put 13 rfl) ?_
    exact m_retL (a_dec_at dc_Tr_put 14 rfl) rfl H
set_option maxRecDepth 20000 in
theorem t_Tr_cutTo_115 {l : Launch} {h : Nat} (mi : TMi) (ml : TMl) (z : Nat) (a1 : Int64) {Q : Int64 → TMi → TMl → Nat → Prop} (H : (((mi 115 1) = 0 → Q a1.toInt32.toInt8.toInt32.toInt64 mi ml z) ∧ (((mi 115 1) = 1 → Q a1.toInt32.toInt16.toInt32.toInt64 mi ml z) ∧ (((mi 115 1) = 2 → Q a1.toInt32.toInt64 mi ml z) ∧ (¬ (mi 115 1) = 0 → ¬ (mi 115 1) = 1 → ¬ (mi 115 1) = 2 → Q a1 mi ml z))))) : CLg l (h + 1) m_Tr_cutTo [.ref 115, .long a1] mi ml z Q := by
  show Ev l (h + 1) m_Tr_cutTo 0 ([.ref 115, .long a1, .retAddr 0], [], st mi ml z) (qL Q)
  refine ev_aload_n (i := 0) rfl rfl (a_dec_at dc_Tr_cutTo 0 rfl) ?_
  refine m_getI fl_Tr_15 rfl sh115 (a_dec_at dc_Tr_cutTo 1 rfl) ?_
  by_cases e1 : (mi 115 1) = 0
  · have H := H.1 e1
    refine w_tableIn (c := 0) (off := 28) (tgt := 32) (a_dec_at dc_Tr_cutTo 2 rfl) e1 (by decide) (by decide) (by decide) (by decide) ?_
    refine ev_lload_n (i := 1) rfl rfl (a_dec_at dc_Tr_cutTo 3 rfl) ?_
    refine ev_l2i (a_dec_at dc_Tr_cutTo 4 rfl) ?_
    refine ev_i2b (a_dec_at dc_Tr_cutTo 5 rfl) ?_
    refine ev_i2l (a_dec_at dc_Tr_cutTo 6 rfl) ?_
    exact m_retL (a_dec_at dc_Tr_cutTo 7 rfl) rfl H
  have H := H.2
  by_cases e2 : (mi 115 1) = 1
  · have H := H.1 e2
    refine w_tableIn (c := 1) (off := 33) (tgt := 37) (a_dec_at dc_Tr_cutTo 2 rfl) e2 (by decide) (by decide) (by decide) (by decide) ?_
    refine ev_lload_n (i := 1) rfl rfl (a_dec_at dc_Tr_cutTo 8 rfl) ?_
    refine ev_l2i (a_dec_at dc_Tr_cutTo 9 rfl) ?_
    refine ev_i2s (a_dec_at dc_Tr_cutTo 10 rfl) ?_
    refine ev_i2l (a_dec_at dc_Tr_cutTo 11 rfl) ?_
    exact m_retL (a_dec_at dc_Tr_cutTo 12 rfl) rfl H
  have H := H.2
  by_cases e3 : (mi 115 1) = 2
  · have H := H.1 e3
    refine w_tableIn (c := 2) (off := 38) (tgt := 42) (a_dec_at dc_Tr_cutTo 2 rfl) e3 (by decide) (by decide) (by decide) (by decide) ?_
    refine ev_lload_n (i := 1) rfl rfl (a_dec_at dc_Tr_cutTo 13 rfl) ?_
    refine ev_l2i (a_dec_at dc_Tr_cutTo 14 rfl) ?_
    refine ev_i2l (a_dec_at dc_Tr_cutTo 15 rfl) ?_
    exact m_retL (a_dec_at dc_Tr_cutTo 16 rfl) rfl H
  have H := H.2
  refine w_tableOut (tgt := 46) [0, 1, 2] (a_dec_at dc_Tr_cutTo 2 rfl) (by decide) (by intro c hc; simp only [List.mem_cons, List.not_mem_nil, or_false] at hc; rcases hc with rfl | rfl | rfl <;> assumption) (by decide) ?_
  have H := H e1 e2 e3
  refine ev_lload_n (i := 1) rfl rfl (a_dec_at dc_Tr_cutTo 17 rfl) ?_
  exact m_retL (a_dec_at dc_Tr_cutTo 18 rfl) rfl H
set_option maxRecDepth 20000 in
theorem t_Tr_missing_117 {l : Launch} {h : Nat} (mi : TMi) (ml : TMl) (z : Nat) {Q : Int32 → TMi → TMl → Nat → Prop} (H : ((¬ (mi 117 1) = (-1) → Q 0 mi ml z) ∧ ((mi 117 1) = (-1) → Q 1 mi ml z))) : CI l (h + 1) m_Tr_missing [.ref 117] mi ml z Q := by
  show Ev l (h + 1) m_Tr_missing 0 ([.ref 117], [], st mi ml z) (qI Q)
  refine ev_aload_n (i := 0) rfl rfl (a_dec_at dc_Tr_missing 0 rfl) ?_
  refine m_getI fl_Tr_15 rfl sh117 (a_dec_at dc_Tr_missing 1 rfl) ?_
  refine ev_iconst (v := (-1)) rfl (a_dec_at dc_Tr_missing 2 rfl) ?_
  refine ev_icmp_ne (tgt := 12) (a_dec_at dc_Tr_missing 3 rfl) (by decide) (fun b1 => ?_) (fun b1 => ?_)
  · have H := H.1 b1
    refine ev_iconst (v := 0) rfl (a_dec_at dc_Tr_missing 6 rfl) ?_
    exact m_retI (a_dec_at dc_Tr_missing 7 rfl) rfl rfl H
  · have H := H.2 b1
    refine ev_iconst (v := 1) rfl (a_dec_at dc_Tr_missing 4 rfl) ?_
    refine ev_goto (tgt := 13) (a_dec_at dc_Tr_missing 5 rfl) (by decide) ?_
    exact m_retI (a_dec_at dc_Tr_missing 7 rfl) rfl rfl H
set_option maxRecDepth 20000 in
theorem t_Tr_at_117 {l : Launch} {h : Nat} (mi : TMi) (ml : TMl) (z : Nat) (a1 : Int32) {Q : Int64 → TMi → TMl → Nat → Prop} (H : CI l h m_Tr_hasPlace [.ref 117, .int a1] mi ml z (fun x1 mi1 ml1 z1 => ((x1 = 0 → Q 0 mi1 ml1 z1) ∧ (¬ x1 = 0 → (vp_in a1 40) ∧ Q (ml1 118 a1.toNatClampNeg) mi1 ml1 z1)))) : CLg l (h + 1) m_Tr_at [.ref 117, .int a1] mi ml z Q := by
  show Ev l (h + 1) m_Tr_at 0 ([.ref 117, .int a1], [], st mi ml z) (qL Q)
  refine ev_aload_n (i := 0) rfl rfl (a_dec_at dc_Tr_at 0 rfl) ?_
  refine ev_iload_n (i := 1) rfl rfl (a_dec_at dc_Tr_at 1 rfl) ?_
  refine cV1I cs_Tr_37 sh117 rfl (Nat.le_of_ble_eq_true rfl) (Nat.le_of_ble_eq_true rfl) (a_dec_at dc_Tr_at 2 rfl) ?_
  refine CI.mono (fun x1 mi1 ml1 z1 H => ?_) H
  refine ev_if_eq (tgt := 17) (a_dec_at dc_Tr_at 3 rfl) (by decide) (fun b2 => ?_) (fun b2 => ?_)
  · have H := H.1 b2
    refine ev_lconst (v := 0) rfl (a_dec_at dc_Tr_at 9 rfl) ?_
    exact m_retL (a_dec_at dc_Tr_at 10 rfl) rfl H
  · have H := H.2 b2
    refine ev_aload_n (i := 0) rfl rfl (a_dec_at dc_Tr_at 4 rfl) ?_
    refine m_getR (y := 118) fl_Tr_9 rfl sh117 (mr_117_0 _) (by decide) (a_dec_at dc_Tr_at 5 rfl) ?_
    refine ev_iload_n (i := 1) rfl rfl (a_dec_at dc_Tr_at 6 rfl) ?_
    obtain ⟨c3, H⟩ := H
    refine w_lald (k := a1.toNatClampNeg) sh118 c3 rfl (a_dec_at dc_Tr_at 7 rfl) ?_
    refine ev_goto (tgt := 18) (a_dec_at dc_Tr_at 8 rfl) (by decide) ?_
    exact m_retL (a_dec_at dc_Tr_at 10 rfl) rfl H
set_option maxRecDepth 20000 in
theorem t_Tr_hasPlace_117 {l : Launch} {h : Nat} (mi : TMi) (ml : TMl) (z : Nat) (a1 : Int32) {Q : Int32 → TMi → TMl → Nat → Prop} (H : ((a1 < 0 → Q 0 mi ml z) ∧ (¬ a1 < 0 → (((mi 117 2) ≤ a1 → Q 0 mi ml z) ∧ (¬ (mi 117 2) ≤ a1 → Q 1 mi ml z))))) : CI l (h + 1) m_Tr_hasPlace [.ref 117, .int a1] mi ml z Q := by
  show Ev l (h + 1) m_Tr_hasPlace 0 ([.ref 117, .int a1], [], st mi ml z) (qI Q)
  refine ev_iload_n (i := 1) rfl rfl (a_dec_at dc_Tr_hasPlace 0 rfl) ?_
  refine ev_if_lt (tgt := 16) (a_dec_at dc_Tr_hasPlace 1 rfl) (by decide) (fun b1 => ?_) (fun b1 => ?_)
  · have H := H.1 b1
    refine ev_iconst (v := 0) rfl (a_dec_at dc_Tr_hasPlace 8 rfl) ?_
    exact m_retI (a_dec_at dc_Tr_hasPlace 9 rfl) rfl rfl H
  · have H := H.2 b1
    refine ev_iload_n (i := 1) rfl rfl (a_dec_at dc_Tr_hasPlace 2 rfl) ?_
    refine ev_aload_n (i := 0) rfl rfl (a_dec_at dc_Tr_hasPlace 3 rfl) ?_
    refine m_getI fl_Tr_28 rfl sh117 (a_dec_at dc_Tr_hasPlace 4 rfl) ?_
    refine ev_icmp_ge (tgt := 16) (a_dec_at dc_Tr_hasPlace 5 rfl) (by decide) (fun b2 => ?_) (fun b2 => ?_)
    · have H := H.1 b2
      refine ev_iconst (v := 0) rfl (a_dec_at dc_Tr_hasPlace 8 rfl) ?_
      exact m_retI (a_dec_at dc_Tr_hasPlace 9 rfl) rfl rfl H
    · have H := H.2 b2
      refine ev_iconst (v := 1) rfl (a_dec_at dc_Tr_hasPlace 6 rfl) ?_
      refine ev_goto (tgt := 17) (a_dec_at dc_Tr_hasPlace 7 rfl) (by decide) ?_
      exact m_retI (a_dec_at dc_Tr_hasPlace 9 rfl) rfl rfl H
set_option maxRecDepth 20000 in
theorem t_Tr_make_117 {l : Launch} {h : Nat} (mi : TMi) (ml : TMl) (z : Nat) (a1 : Int32) (a2 : Int32) {Q : TMi → TMl → Nat → Prop} (H : CV l h m_JA_fill2 [.ref 118, .long 0] (up (up mi 117 1 a1) 117 2 (if 0 < (if a2 > 40 then 40 else a2) then if a2 > 40 then 40 else a2 else 0)) ml z (fun mi1 ml1 z1 => Q mi1 ml1 z1)) : CV l (h + 1) m_Tr_make [.ref 117, .int a1, .int a2] mi ml z Q := by
  show Ev l (h + 1) m_Tr_make 0 ([.ref 117, .int a1, .int a2], [], st mi ml z) (qV Q)
  refine ev_aload_n (i := 0) rfl rfl (a_dec_at dc_Tr_make 0 rfl) ?_
  refine ev_iload_n (i := 1) rfl rfl (a_dec_at dc_Tr_make 1 rfl) ?_
  refine m_putI fl_Tr_15 rfl (fun _ _ _ h => by cases h; exact Or.inl rfl) sh117 (a_dec_at dc_Tr_make 2 rfl) ?_
  refine ev_aload_n (i := 0) rfl rfl (a_dec_at dc_Tr_make 3 rfl) ?_
  refine ev_iconst (v := 0) rfl (a_dec_at dc_Tr_make 4 rfl) ?_
  refine ev_iload_n (i := 2) rfl rfl (a_dec_at dc_Tr_make 5 rfl) ?_
  refine ev_bipush (v := 40) rfl (a_dec_at dc_Tr_make 6 rfl) ?_
  refine w_mmin cs_Tr_19 (Nat.le_of_ble_eq_true rfl) (a_dec_at dc_Tr_make 7 rfl) ?_
  refine w_mmax cs_Tr_25 (Nat.le_of_ble_eq_true rfl) (a_dec_at dc_Tr_make 8 rfl) ?_
  refine m_putI fl_Tr_28 rfl (fun _ _ _ h => by cases h; exact Or.inl rfl) sh117 (a_dec_at dc_Tr_make 9 rfl) ?_
  refine ev_aload_n (i := 0) rfl rfl (a_dec_at dc_Tr_make 10 rfl) ?_
  refine m_getR (y := 118) fl_Tr_9 rfl sh117 (mr_117_0 _) (by decide) (a_dec_at dc_Tr_make 11 rfl) ?_
  refine ev_lconst (v := 0) rfl (a_dec_at dc_Tr_make 12 rfl) ?_
  refine cS2V cs_Tr_31 rfl (Nat.le_of_ble_eq_true rfl) (Nat.le_of_ble_eq_true rfl) (a_dec_at dc_Tr_make 13 rfl) ?_
  refine CV.mono (fun mi1 ml1 z1 H => ?_) H
  exact m_retV (a_dec_at dc_Tr_make 14 rfl) rfl H
set_option maxRecDepth 20000 in
theorem t_Tr_put_117 {l : Launch} {h : Nat} (mi : TMi) (ml : TMl) (z : Nat) (a1 : Int32) (a2 : Int64) {Q : Int64 → TMi → TMl → Nat → Prop} (H : CLg l h m_Tr_cutTo [.ref 117, .long a2] mi ml z (fun x1 mi1 ml1 z1 => CI l h m_Tr_hasPlace [.ref 117, .int a1] mi1 ml1 z1 (fun x2 mi2 ml2 z2 => ((x2 = 0 → Q x1 mi2 ml2 z2) ∧ (¬ x2 = 0 → (vp_in a1 40) ∧ Q x1 mi2 (upL ml2 118 a1.toNatClampNeg x1) z2))))) : CLg l (h + 1) m_Tr_put [.ref 117, .int a1, .long a2] mi ml z Q := by
  show Ev l (h + 1) m_Tr_put 0 ([.ref 117, .int a1, .long a2, .retAddr 0, .retAddr 0, .retAddr 0], [], st mi ml z) (qL Q)
  refine ev_aload_n (i := 0) rfl rfl (a_dec_at dc_Tr_put 0 rfl) ?_
  refine ev_lload_n (i := 2) rfl rfl (a_dec_at dc_Tr_put 1 rfl) ?_
  refine cV1L cs_Tr_41 sh117 rfl (Nat.le_of_ble_eq_true rfl) (Nat.le_of_ble_eq_true rfl) (a_dec_at dc_Tr_put 2 rfl) ?_
  refine CLg.mono (fun x1 mi1 ml1 z1 H => ?_) H
  refine ev_lstore (by decide) rfl (a_dec_at dc_Tr_put 3 rfl) ?_
  refine ev_aload_n (i := 0) rfl rfl (a_dec_at dc_Tr_put 4 rfl) ?_
  refine ev_iload_n (i := 1) rfl rfl (a_dec_at dc_Tr_put 5 rfl) ?_
  refine cV1I cs_Tr_37 sh117 rfl (Nat.le_of_ble_eq_true rfl) (Nat.le_of_ble_eq_true rfl) (a_dec_at dc_Tr_put 6 rfl) ?_
  refine CI.mono (fun x2 mi2 ml2 z2 H => ?_) H
  refine ev_if_eq (tgt := 23) (a_dec_at dc_Tr_put 7 rfl) (by decide) (fun b3 => ?_) (fun b3 => ?_)
  · have H := H.1 b3
    refine ev_lload rfl (a_dec_at dc_Tr_put 13 rfl) ?_
    exact m_retL (a_dec_at dc_Tr_put 14 rfl) rfl H
  · have H := H.2 b3
    refine ev_aload_n (i := 0) rfl rfl (a_dec_at dc_Tr_put 8 rfl) ?_
    refine m_getR (y := 118) fl_Tr_9 rfl sh117 (mr_117_0 _) (by decide) (a_dec_at dc_Tr_put 9 rfl) ?_
    refine ev_iload_n (i := 1) rfl rfl (a_dec_at dc_Tr_put 10 rfl) ?_
    refine ev_lload rfl (a_dec_at dc_Tr_put 11 rfl) ?_
    obtain ⟨c4, H⟩ := H
    refine w_last (k := a1.toNatClampNeg) sh118 c4 rfl (a_dec_at dc_Tr_put 12 rfl) ?_
    refine ev_lload rfl (a_dec_at dc_Tr_put 13 rfl) ?_
    exact m_retL (a_dec_at dc_Tr_put 14 rfl) rfl H
set_option maxRecDepth 20000 in
theorem t_Tr_cutTo_117 {l : Launch} {h : Nat} (mi : TMi) (ml : TMl) (z : Nat) (a1 : Int64) {Q : Int64 → TMi → TMl → Nat → Prop} (H : (((mi 117 1) = 0 → Q a1.toInt32.toInt8.toInt32.toInt64 mi ml z) ∧ (((mi 117 1) = 1 → Q a1.toInt32.toInt16.toInt32.toInt64 mi ml z) ∧ (((mi 117 1) = 2 → Q a1.toInt32.toInt64 mi ml z) ∧ (¬ (mi 117 1) = 0 → ¬ (mi 117 1) = 1 → ¬ (mi 117 1) = 2 → Q a1 mi ml z))))) : CLg l (h + 1) m_Tr_cutTo [.ref 117, .long a1] mi ml z Q := by
  show Ev l (h + 1) m_Tr_cutTo 0 ([.ref 117, .long a1, .retAddr 0], [], st mi ml z) (qL Q)
  refine ev_aload_n (i := 0) rfl rfl (a_dec_at dc_Tr_cutTo 0 rfl) ?_
  refine m_getI fl_Tr_15 rfl sh117 (a_dec_at dc_Tr_cutTo 1 rfl) ?_
  by_cases e1 : (mi 117 1) = 0
  · have H := H.1 e1
    refine w_tableIn (c := 0) (off := 28) (tgt := 32) (a_dec_at dc_Tr_cutTo 2 rfl) e1 (by decide) (by decide) (by decide) (by decide) ?_
    refine ev_lload_n (i := 1) rfl rfl (a_dec_at dc_Tr_cutTo 3 rfl) ?_
    refine ev_l2i (a_dec_at dc_Tr_cutTo 4 rfl) ?_
    refine ev_i2b (a_dec_at dc_Tr_cutTo 5 rfl) ?_
    refine ev_i2l (a_dec_at dc_Tr_cutTo 6 rfl) ?_
    exact m_retL (a_dec_at dc_Tr_cutTo 7 rfl) rfl H
  have H := H.2
  by_cases e2 : (mi 117 1) = 1
  · have H := H.1 e2
    refine w_tableIn (c := 1) (off := 33) (tgt := 37) (a_dec_at dc_Tr_cutTo 2 rfl) e2 (by decide) (by decide) (by decide) (by decide) ?_
    refine ev_lload_n (i := 1) rfl rfl (a_dec_at dc_Tr_cutTo 8 rfl) ?_
    refine ev_l2i (a_dec_at dc_Tr_cutTo 9 rfl) ?_
    refine ev_i2s (a_dec_at dc_Tr_cutTo 10 rfl) ?_
    refine ev_i2l (a_dec_at dc_Tr_cutTo 11 rfl) ?_
    exact m_retL (a_dec_at dc_Tr_cutTo 12 rfl) rfl H
  have H := H.2
  by_cases e3 : (mi 117 1) = 2
  · have H := H.1 e3
    refine w_tableIn (c := 2) (off := 38) (tgt := 42) (a_dec_at dc_Tr_cutTo 2 rfl) e3 (by decide) (by decide) (by decide) (by decide) ?_
    refine ev_lload_n (i := 1) rfl rfl (a_dec_at dc_Tr_cutTo 13 rfl) ?_
    refine ev_l2i (a_dec_at dc_Tr_cutTo 14 rfl) ?_
    refine ev_i2l (a_dec_at dc_Tr_cutTo 15 rfl) ?_
    exact m_retL (a_dec_at dc_Tr_cutTo 16 rfl) rfl H
  have H := H.2
  refine w_tableOut (tgt := 46) [0, 1, 2] (a_dec_at dc_Tr_cutTo 2 rfl) (by decide) (by intro c hc; simp only [List.mem_cons, List.not_mem_nil, or_false] at hc; rcases hc with rfl | rfl | rfl <;> assumption) (by decide) ?_
  have H := H e1 e2 e3
  refine ev_lload_n (i := 1) rfl rfl (a_dec_at dc_Tr_cutTo 17 rfl) ?_
  exact m_retL (a_dec_at dc_Tr_cutTo 18 rfl) rfl H
set_option maxRecDepth 20000 in
theorem t_To_open {l : Launch} {h : Nat} (mi : TMi) (ml : TMl) (z : Nat) (a1 : Int32) {Q : TMi → TMl → Nat → Prop} (H : CV l h m_To_advance [.ref 12] (up (up (up (up mi 12 1 (if 0 < (if a1 > (nI 900) then nI 900 else a1) then if a1 > (nI 900) then nI 900 else a1 else 0)) 12 2 0) 12 6 0) 12 7 (-1)) ml z (fun mi1 ml1 z1 => Q mi1 ml1 z1)) : CV l (h + 1) m_To_open [.ref 12, .int a1] mi ml z Q := by
  show Ev l (h + 1) m_To_open 0 ([.ref 12, .int a1], [], st mi ml z) (qV Q)
  refine ev_aload_n (i := 0) rfl rfl (a_dec_at dc_To_open 0 rfl) ?_
  refine ev_iconst (v := 0) rfl (a_dec_at dc_To_open 1 rfl) ?_
  refine ev_iload_n (i := 1) rfl rfl (a_dec_at dc_To_open 2 rfl) ?_
  refine ev_aload_n (i := 0) rfl rfl (a_dec_at dc_To_open 3 rfl) ?_
  refine m_getR (y := 2) fl_To_9 rfl sh12 (mr_12_0 _) (by decide) (a_dec_at dc_To_open 4 rfl) ?_
  refine m_alen (by decide) sh2 (a_dec_at dc_To_open 5 rfl) ?_
  refine w_mmin cs_To_15 (Nat.le_of_ble_eq_true rfl) (a_dec_at dc_To_open 6 rfl) ?_
  refine w_mmax cs_To_21 (Nat.le_of_ble_eq_true rfl) (a_dec_at dc_To_open 7 rfl) ?_
  refine m_putI fl_To_24 rfl (fun _ _ _ h => by cases h; exact Or.inl rfl) sh12 (a_dec_at dc_To_open 8 rfl) ?_
  refine ev_aload_n (i := 0) rfl rfl (a_dec_at dc_To_open 9 rfl) ?_
  refine ev_iconst (v := 0) rfl (a_dec_at dc_To_open 10 rfl) ?_
  refine m_putI fl_To_28 rfl (fun _ _ _ h => by cases h; exact Or.inl rfl) sh12 (a_dec_at dc_To_open 11 rfl) ?_
  refine ev_aload_n (i := 0) rfl rfl (a_dec_at dc_To_open 12 rfl) ?_
  refine ev_iconst (v := 0) rfl (a_dec_at dc_To_open 13 rfl) ?_
  refine m_putI fl_To_31 rfl (fun _ _ _ h => by cases h; exact Or.inl rfl) sh12 (a_dec_at dc_To_open 14 rfl) ?_
  refine ev_aload_n (i := 0) rfl rfl (a_dec_at dc_To_open 15 rfl) ?_
  refine ev_iconst (v := (-1)) rfl (a_dec_at dc_To_open 16 rfl) ?_
  refine m_putI fl_To_34 rfl (fun _ _ _ h => by cases h; exact Or.inl rfl) sh12 (a_dec_at dc_To_open 17 rfl) ?_
  refine ev_aload_n (i := 0) rfl rfl (a_dec_at dc_To_open 18 rfl) ?_
  refine cV0V cs_To_37 sh12 rfl (Nat.le_of_ble_eq_true rfl) (Nat.le_of_ble_eq_true rfl) (a_dec_at dc_To_open 19 rfl) ?_
  refine CV.mono (fun mi1 ml1 z1 H => ?_) H
  exact m_retV (a_dec_at dc_To_open 20 rfl) rfl H
set_option maxRecDepth 20000 in
theorem t_To_advance {l : Launch} {h : Nat} (mi : TMi) (ml : TMl) (z : Nat) {Q : TMi → TMl → Nat → Prop} (H : (((mi 12 6) = 0 → Ev l (h + 1) m_To_advance 8 ([.ref 12], [], st mi ml z) (qV Q)) ∧ (¬ (mi 12 6) = 0 → Q mi ml z))) : CV l (h + 1) m_To_advance [.ref 12] mi ml z Q := by
  show Ev l (h + 1) m_To_advance 0 ([.ref 12], [], st mi ml z) (qV Q)
  refine ev_aload_n (i := 0) rfl rfl (a_dec_at dc_To_advance 0 rfl) ?_
  refine m_getI fl_To_31 rfl sh12 (a_dec_at dc_To_advance 1 rfl) ?_
  refine ev_if_eq (tgt := 8) (a_dec_at dc_To_advance 2 rfl) (by decide) (fun b1 => ?_) (fun b1 => ?_)
  · have H := H.1 b1
    exact Ev.drop (L' := [.ref 12]) (And.intro rfl trivial) H
  · have H := H.2 b1
    exact m_retV (a_dec_at dc_To_advance 3 rfl) rfl H
set_option maxRecDepth 20000 in
theorem t_To_advance_8 {l : Launch} {h : Nat} (mi : TMi) (ml : TMl) (z : Nat) {Q : TMi → TMl → Nat → Prop} (H : (((mi 12 1) ≤ (mi 12 2) → ((((up mi 12 4 (mi 12 2)) 12 2) < ((up mi 12 4 (mi 12 2)) 12 1) → (vp_in ((up mi 12 4 (mi 12 2)) 12 2) 900) ∧ CI l h m_To_isLetter [.int ((up mi 12 4 (mi 12 2)) 2 (((up mi 12 4 (mi 12 2)) 12 2).toNatClampNeg))] (up mi 12 4 (mi 12 2)) ml z (fun x4 mi4 ml4 z4 => ((x4 = 0 → (vp_in (mi4 12 2) 900) ∧ CI l h m_To_isDigit [.int (mi4 2 ((mi4 12 2).toNatClampNeg))] mi4 ml4 z4 (fun x7 mi7 ml7 z7 => ((x7 = 0 → (vp_in (mi7 12 2) 900) ∧ CI l h m_To_sign [.int (mi7 2 ((mi7 12 2).toNatClampNeg))] mi7 ml7 z7 (fun x10 mi10 ml10 z10 => Q (up (up mi10 12 3 x10) 12 2 (((up mi10 12 3 x10) 12 2) + 1)) ml10 z10)) ∧ (¬ x7 = 0 → CI l h m_To_number [.ref 12] mi7 ml7 z7 (fun x11 mi11 ml11 z11 => Q (up mi11 12 3 x11) ml11 z11))))) ∧ (¬ x4 = 0 → CI l h m_To_word [.ref 12] mi4 ml4 z4 (fun x12 mi12 ml12 z12 => Q (up mi12 12 3 x12) ml12 z12))))) ∧ (¬ ((up mi 12 4 (mi 12 2)) 12 2) < ((up mi 12 4 (mi 12 2)) 12 1) → Q (up (up mi 12 4 (mi 12 2)) 12 3 22) ml z))) ∧ (¬ (mi 12 1) ≤ (mi 12 2) → (vp_in (mi 12 2) 900) ∧ (((mi 2 ((mi 12 2).toNatClampNeg)) = 10 → Ev l (h + 1) m_To_advance 8 ([.ref 12], [], st (up mi 12 2 ((mi 12 2) + 1)) ml z) (qV Q)) ∧ (¬ (mi 2 ((mi 12 2).toNatClampNeg)) = 10 → (vp_in (mi 12 2) 900) ∧ ((¬ (mi 2 ((mi 12 2).toNatClampNeg)) = 32 → ((((up mi 12 4 (mi 12 2)) 12 2) < ((up mi 12 4 (mi 12 2)) 12 1) → (vp_in ((up mi 12 4 (mi 12 2)) 12 2) 900) ∧ CI l h m_To_isLetter [.int ((up mi 12 4 (mi 12 2)) 2 (((up mi 12 4 (mi 12 2)) 12 2).toNatClampNeg))] (up mi 12 4 (mi 12 2)) ml z (fun x19 mi19 ml19 z19 => ((x19 = 0 → (vp_in (mi19 12 2) 900) ∧ CI l h m_To_isDigit [.int (mi19 2 ((mi19 12 2).toNatClampNeg))] mi19 ml19 z19 (fun x22 mi22 ml22 z22 => ((x22 = 0 → (vp_in (mi22 12 2) 900) ∧ CI l h m_To_sign [.int (mi22 2 ((mi22 12 2).toNatClampNeg))] mi22 ml22 z22 (fun x25 mi25 ml25 z25 => Q (up (up mi25 12 3 x25) 12 2 (((up mi25 12 3 x25) 12 2) + 1)) ml25 z25)) ∧ (¬ x22 = 0 → CI l h m_To_number [.ref 12] mi22 ml22 z22 (fun x26 mi26 ml26 z26 => Q (up mi26 12 3 x26) ml26 z26))))) ∧ (¬ x19 = 0 → CI l h m_To_word [.ref 12] mi19 ml19 z19 (fun x27 mi27 ml27 z27 => Q (up mi27 12 3 x27) ml27 z27))))) ∧ (¬ ((up mi 12 4 (mi 12 2)) 12 2) < ((up mi 12 4 (mi 12 2)) 12 1) → Q (up (up mi 12 4 (mi 12 2)) 12 3 22) ml z))) ∧ ((mi 2 ((mi 12 2).toNatClampNeg)) = 32 → Ev l (h + 1) m_To_advance 8 ([.ref 12], [], st (up mi 12 2 ((mi 12 2) + 1)) ml z) (qV Q)))))))) : Ev l (h + 1) m_To_advance 8 ([.ref 12], [], st mi ml z) (qV Q) := by
  refine ev_aload_n (i := 0) rfl rfl (a_dec_at dc_To_advance 4 rfl) ?_
  refine m_getI fl_To_28 rfl sh12 (a_dec_at dc_To_advance 5 rfl) ?_
  refine ev_aload_n (i := 0) rfl rfl (a_dec_at dc_To_advance 6 rfl) ?_
  refine m_getI fl_To_24 rfl sh12 (a_dec_at dc_To_advance 7 rfl) ?_
  refine ev_icmp_ge (tgt := 60) (a_dec_at dc_To_advance 8 rfl) (by decide) (fun b1 => ?_) (fun b1 => ?_)
  · have H := H.1 b1
    refine ev_aload_n (i := 0) rfl rfl (a_dec_at dc_To_advance 30 rfl) ?_
    refine ev_aload_n (i := 0) rfl rfl (a_dec_at dc_To_advance 31 rfl) ?_
    refine m_getI fl_To_28 rfl sh12 (a_dec_at dc_To_advance 32 rfl) ?_
    refine m_putI fl_To_40 rfl (fun _ _ _ h => by cases h; exact Or.inl rfl) sh12 (a_dec_at dc_To_advance 33 rfl) ?_
    refine ev_aload_n (i := 0) rfl rfl (a_dec_at dc_To_advance 34 rfl) ?_
    refine m_getI fl_To_28 rfl sh12 (a_dec_at dc_To_advance 35 rfl) ?_
    refine ev_aload_n (i := 0) rfl rfl (a_dec_at dc_To_advance 36 rfl) ?_
    refine m_getI fl_To_24 rfl sh12 (a_dec_at dc_To_advance 37 rfl) ?_
    refine ev_icmp_lt (tgt := 88) (a_dec_at dc_To_advance 38 rfl) (by decide) (fun b2 => ?_) (fun b2 => ?_)
    · have H := H.1 b2
      refine ev_aload_n (i := 0) rfl rfl (a_dec_at dc_To_advance 43 rfl) ?_
      refine m_getR (y := 2) fl_To_9 rfl sh12 (mr_12_0 _) (by decide) (a_dec_at dc_To_advance 44 rfl) ?_
      refine ev_aload_n (i := 0) rfl rfl (a_dec_at dc_To_advance 45 rfl) ?_
      refine m_getI fl_To_28 rfl sh12 (a_dec_at dc_To_advance 46 rfl) ?_
      obtain ⟨c3, H⟩ := H
      refine w_bald (k := ((up mi 12 4 (mi 12 2)) 12 2).toNatClampNeg) sh2 c3 rfl (a_dec_at dc_To_advance 47 rfl) ?_
      refine cS1I cs_To_46 rfl (Nat.le_of_ble_eq_true rfl) (Nat.le_of_ble_eq_true rfl) (a_dec_at dc_To_advance 48 rfl) ?_
      refine CI.mono (fun x4 mi4 ml4 z4 H => ?_) H
      refine ev_if_eq (tgt := 114) (a_dec_at dc_To_advance 49 rfl) (by decide) (fun b5 => ?_) (fun b5 => ?_)
      · have H := H.1 b5
        refine ev_aload_n (i := 0) rfl rfl (a_dec_at dc_To_advance 55 rfl) ?_
        refine m_getR (y := 2) fl_To_9 rfl sh12 (mr_12_0 _) (by decide) (a_dec_at dc_To_advance 56 rfl) ?_
        refine ev_aload_n (i := 0) rfl rfl (a_dec_at dc_To_advance 57 rfl) ?_
        refine m_getI fl_To_28 rfl sh12 (a_dec_at dc_To_advance 58 rfl) ?_
        obtain ⟨c6, H⟩ := H
        refine w_bald (k := (mi4 12 2).toNatClampNeg) sh2 c6 rfl (a_dec_at dc_To_advance 59 rfl) ?_
        refine cS1I cs_To_54 rfl (Nat.le_of_ble_eq_true rfl) (Nat.le_of_ble_eq_true rfl) (a_dec_at dc_To_advance 60 rfl) ?_
        refine CI.mono (fun x7 mi7 ml7 z7 H => ?_) H
        refine ev_if_eq (tgt := 140) (a_dec_at dc_To_advance 61 rfl) (by decide) (fun b8 => ?_) (fun b8 => ?_)
        · have H := H.1 b8
          refine ev_aload_n (i := 0) rfl rfl (a_dec_at dc_To_advance 67 rfl) ?_
          refine ev_aload_n (i := 0) rfl rfl (a_dec_at dc_To_advance 68 rfl) ?_
          refine m_getR (y := 2) fl_To_9 rfl sh12 (mr_12_0 _) (by decide) (a_dec_at dc_To_advance 69 rfl) ?_
          refine ev_aload_n (i := 0) rfl rfl (a_dec_at dc_To_advance 70 rfl) ?_
          refine m_getI fl_To_28 rfl sh12 (a_dec_at dc_To_advance 71 rfl) ?_
          obtain ⟨c9, H⟩ := H
          refine w_bald (k := (mi7 12 2).toNatClampNeg) sh2 c9 rfl (a_dec_at dc_To_advance 72 rfl) ?_
          refine cS1I cs_To_60 rfl (Nat.le_of_ble_eq_true rfl) (Nat.le_of_ble_eq_true rfl) (a_dec_at dc_To_advance 73 rfl) ?_
          refine CI.mono (fun x10 mi10 ml10 z10 H => ?_) H
          refine m_putI fl_To_43 rfl (fun _ _ _ h => by cases h; exact Or.inl rfl) sh12 (a_dec_at dc_To_advance 74 rfl) ?_
          refine ev_aload_n (i := 0) rfl rfl (a_dec_at dc_To_advance 75 rfl) ?_
          refine ev_dup rfl (a_dec_at dc_To_advance 76 rfl) ?_
          refine m_getI fl_To_28 rfl sh12 (a_dec_at dc_To_advance 77 rfl) ?_
          refine ev_iconst (v := 1) rfl (a_dec_at dc_To_advance 78 rfl) ?_
          refine ev_iadd (a_dec_at dc_To_advance 79 rfl) ?_
          refine m_putI fl_To_28 rfl (fun _ _ _ h => by cases h; exact Or.inl rfl) sh12 (a_dec_at dc_To_advance 80 rfl) ?_
          exact m_retV (a_dec_at dc_To_advance 81 rfl) rfl H
        · have H := H.2 b8
          refine ev_aload_n (i := 0) rfl rfl (a_dec_at dc_To_advance 62 rfl) ?_
          refine ev_aload_n (i := 0) rfl rfl (a_dec_at dc_To_advance 63 rfl) ?_
          refine cV0I cs_To_57 sh12 rfl (Nat.le_of_ble_eq_true rfl) (Nat.le_of_ble_eq_true rfl) (a_dec_at dc_To_advance 64 rfl) ?_
          refine CI.mono (fun x11 mi11 ml11 z11 H => ?_) H
          refine m_putI fl_To_43 rfl (fun _ _ _ h => by cases h; exact Or.inl rfl) sh12 (a_dec_at dc_To_advance 65 rfl) ?_
          refine ev_goto (tgt := 166) (a_dec_at dc_To_advance 66 rfl) (by decide) ?_
          exact m_retV (a_dec_at dc_To_advance 81 rfl) rfl H
      · have H := H.2 b5
        refine ev_aload_n (i := 0) rfl rfl (a_dec_at dc_To_advance 50 rfl) ?_
        refine ev_aload_n (i := 0) rfl rfl (a_dec_at dc_To_advance 51 rfl) ?_
        refine cV0I cs_To_50 sh12 rfl (Nat.le_of_ble_eq_true rfl) (Nat.le_of_ble_eq_true rfl) (a_dec_at dc_To_advance 52 rfl) ?_
        refine CI.mono (fun x12 mi12 ml12 z12 H => ?_) H
        refine m_putI fl_To_43 rfl (fun _ _ _ h => by cases h; exact Or.inl rfl) sh12 (a_dec_at dc_To_advance 53 rfl) ?_
        refine ev_goto (tgt := 166) (a_dec_at dc_To_advance 54 rfl) (by decide) ?_
        exact m_retV (a_dec_at dc_To_advance 81 rfl) rfl H
    · have H := H.2 b2
      refine ev_aload_n (i := 0) rfl rfl (a_dec_at dc_To_advance 39 rfl) ?_
      refine ev_bipush (v := 22) rfl (a_dec_at dc_To_advance 40 rfl) ?_
      refine m_putI fl_To_43 rfl (fun _ _ _ h => by cases h; exact Or.inl rfl) sh12 (a_dec_at dc_To_advance 41 rfl) ?_
      refine ev_goto (tgt := 166) (a_dec_at dc_To_advance 42 rfl) (by decide) ?_
      exact m_retV (a_dec_at dc_To_advance 81 rfl) rfl H
  · have H := H.2 b1
    refine ev_aload_n (i := 0) rfl rfl (a_dec_at dc_To_advance 9 rfl) ?_
    refine m_getR (y := 2) fl_To_9 rfl sh12 (mr_12_0 _) (by decide) (a_dec_at dc_To_advance 10 rfl) ?_
    refine ev_aload_n (i := 0) rfl rfl (a_dec_at dc_To_advance 11 rfl) ?_
    refine m_getI fl_To_28 rfl sh12 (a_dec_at dc_To_advance 12 rfl) ?_
    obtain ⟨c13, H⟩ := H
    refine w_bald (k := (mi 12 2).toNatClampNeg) sh2 c13 rfl (a_dec_at dc_To_advance 13 rfl) ?_
    refine ev_bipush (v := 10) rfl (a_dec_at dc_To_advance 14 rfl) ?_
    refine ev_icmp_eq (tgt := 47) (a_dec_at dc_To_advance 15 rfl) (by decide) (fun b14 => ?_) (fun b14 => ?_)
    · have H := H.1 b14
      refine ev_aload_n (i := 0) rfl rfl (a_dec_at dc_To_advance 23 rfl) ?_
      refine ev_dup rfl (a_dec_at dc_To_advance 24 rfl) ?_
      refine m_getI fl_To_28 rfl sh12 (a_dec_at dc_To_advance 25 rfl) ?_
      refine ev_iconst (v := 1) rfl (a_dec_at dc_To_advance 26 rfl) ?_
      refine ev_iadd (a_dec_at dc_To_advance 27 rfl) ?_
      refine m_putI fl_To_28 rfl (fun _ _ _ h => by cases h; exact Or.inl rfl) sh12 (a_dec_at dc_To_advance 28 rfl) ?_
      refine ev_goto (tgt := 8) (a_dec_at dc_To_advance 29 rfl) (by decide) ?_
      exact Ev.drop (L' := [.ref 12]) (And.intro rfl trivial) H
    · have H := H.2 b14
      refine ev_aload_n (i := 0) rfl rfl (a_dec_at dc_To_advance 16 rfl) ?_
      refine m_getR (y := 2) fl_To_9 rfl sh12 (mr_12_0 _) (by decide) (a_dec_at dc_To_advance 17 rfl) ?_
      refine ev_aload_n (i := 0) rfl rfl (a_dec_at dc_To_advance 18 rfl) ?_
      refine m_getI fl_To_28 rfl sh12 (a_dec_at dc_To_advance 19 rfl) ?_
      obtain ⟨c15, H⟩ := H
      refine w_bald (k := (mi 12 2).toNatClampNeg) sh2 c15 rfl (a_dec_at dc_To_advance 20 rfl) ?_
      refine ev_bipush (v := 32) rfl (a_dec_at dc_To_advance 21 rfl) ?_
      refine ev_icmp_ne (tgt := 60) (a_dec_at dc_To_advance 22 rfl) (by decide) (fun b16 => ?_) (fun b16 => ?_)
      · have H := H.1 b16
        refine ev_aload_n (i := 0) rfl rfl (a_dec_at dc_To_advance 30 rfl) ?_
        refine ev_aload_n (i := 0) rfl rfl (a_dec_at dc_To_advance 31 rfl) ?_
        refine m_getI fl_To_28 rfl sh12 (a_dec_at dc_To_advance 32 rfl) ?_
        refine m_putI fl_To_40 rfl (fun _ _ _ h => by cases h; exact Or.inl rfl) sh12 (a_dec_at dc_To_advance 33 rfl) ?_
        refine ev_aload_n (i := 0) rfl rfl (a_dec_at dc_To_advance 34 rfl) ?_
        refine m_getI fl_To_28 rfl sh12 (a_dec_at dc_To_advance 35 rfl) ?_
        refine ev_aload_n (i := 0) rfl rfl (a_dec_at dc_To_advance 36 rfl) ?_
        refine m_getI fl_To_24 rfl sh12 (a_dec_at dc_To_advance 37 rfl) ?_
        refine ev_icmp_lt (tgt := 88) (a_dec_at dc_To_advance 38 rfl) (by decide) (fun b17 => ?_) (fun b17 => ?_)
        · have H := H.1 b17
          refine ev_aload_n (i := 0) rfl rfl (a_dec_at dc_To_advance 43 rfl) ?_
          refine m_getR (y := 2) fl_To_9 rfl sh12 (mr_12_0 _) (by decide) (a_dec_at dc_To_advance 44 rfl) ?_
          refine ev_aload_n (i := 0) rfl rfl (a_dec_at dc_To_advance 45 rfl) ?_
          refine m_getI fl_To_28 rfl sh12 (a_dec_at dc_To_advance 46 rfl) ?_
          obtain ⟨c18, H⟩ := H
          refine w_bald (k := ((up mi 12 4 (mi 12 2)) 12 2).toNatClampNeg) sh2 c18 rfl (a_dec_at dc_To_advance 47 rfl) ?_
          refine cS1I cs_To_46 rfl (Nat.le_of_ble_eq_true rfl) (Nat.le_of_ble_eq_true rfl) (a_dec_at dc_To_advance 48 rfl) ?_
          refine CI.mono (fun x19 mi19 ml19 z19 H => ?_) H
          refine ev_if_eq (tgt := 114) (a_dec_at dc_To_advance 49 rfl) (by decide) (fun b20 => ?_) (fun b20 => ?_)
          · have H := H.1 b20
            refine ev_aload_n (i := 0) rfl rfl (a_dec_at dc_To_advance 55 rfl) ?_
            refine m_getR (y := 2) fl_To_9 rfl sh12 (mr_12_0 _) (by decide) (a_dec_at dc_To_advance 56 rfl) ?_
            refine ev_aload_n (i := 0) rfl rfl (a_dec_at dc_To_advance 57 rfl) ?_
            refine m_getI fl_To_28 rfl sh12 (a_dec_at dc_To_advance 58 rfl) ?_
            obtain ⟨c21, H⟩ := H
            refine w_bald (k := (mi19 12 2).toNatClampNeg) sh2 c21 rfl (a_dec_at dc_To_advance 59 rfl) ?_
            refine cS1I cs_To_54 rfl (Nat.le_of_ble_eq_true rfl) (Nat.le_of_ble_eq_true rfl) (a_dec_at dc_To_advance 60 rfl) ?_
            refine CI.mono (fun x22 mi22 ml22 z22 H => ?_) H
            refine ev_if_eq (tgt := 140) (a_dec_at dc_To_advance 61 rfl) (by decide) (fun b23 => ?_) (fun b23 => ?_)
            · have H := H.1 b23
              refine ev_aload_n (i := 0) rfl rfl (a_dec_at dc_To_advance 67 rfl) ?_
              refine ev_aload_n (i := 0) rfl rfl (a_dec_at dc_To_advance 68 rfl) ?_
              refine m_getR (y := 2) fl_To_9 rfl sh12 (mr_12_0 _) (by decide) (a_dec_at dc_To_advance 69 rfl) ?_
              refine ev_aload_n (i := 0) rfl rfl (a_dec_at dc_To_advance 70 rfl) ?_
              refine m_getI fl_To_28 rfl sh12 (a_dec_at dc_To_advance 71 rfl) ?_
              obtain ⟨c24, H⟩ := H
              refine w_bald (k := (mi22 12 2).toNatClampNeg) sh2 c24 rfl (a_dec_at dc_To_advance 72 rfl) ?_
              refine cS1I cs_To_60 rfl (Nat.le_of_ble_eq_true rfl) (Nat.le_of_ble_eq_true rfl) (a_dec_at dc_To_advance 73 rfl) ?_
              refine CI.mono (fun x25 mi25 ml25 z25 H => ?_) H
              refine m_putI fl_To_43 rfl (fun _ _ _ h => by cases h; exact Or.inl rfl) sh12 (a_dec_at dc_To_advance 74 rfl) ?_
              refine ev_aload_n (i := 0) rfl rfl (a_dec_at dc_To_advance 75 rfl) ?_
              refine ev_dup rfl (a_dec_at dc_To_advance 76 rfl) ?_
              refine m_getI fl_To_28 rfl sh12 (a_dec_at dc_To_advance 77 rfl) ?_
              refine ev_iconst (v := 1) rfl (a_dec_at dc_To_advance 78 rfl) ?_
              refine ev_iadd (a_dec_at dc_To_advance 79 rfl) ?_
              refine m_putI fl_To_28 rfl (fun _ _ _ h => by cases h; exact Or.inl rfl) sh12 (a_dec_at dc_To_advance 80 rfl) ?_
              exact m_retV (a_dec_at dc_To_advance 81 rfl) rfl H
            · have H := H.2 b23
              refine ev_aload_n (i := 0) rfl rfl (a_dec_at dc_To_advance 62 rfl) ?_
              refine ev_aload_n (i := 0) rfl rfl (a_dec_at dc_To_advance 63 rfl) ?_
              refine cV0I cs_To_57 sh12 rfl (Nat.le_of_ble_eq_true rfl) (Nat.le_of_ble_eq_true rfl) (a_dec_at dc_To_advance 64 rfl) ?_
              refine CI.mono (fun x26 mi26 ml26 z26 H => ?_) H
              refine m_putI fl_To_43 rfl (fun _ _ _ h => by cases h; exact Or.inl rfl) sh12 (a_dec_at dc_To_advance 65 rfl) ?_
              refine ev_goto (tgt := 166) (a_dec_at dc_To_advance 66 rfl) (by decide) ?_
              exact m_retV (a_dec_at dc_To_advance 81 rfl) rfl H
          · have H := H.2 b20
            refine ev_aload_n (i := 0) rfl rfl (a_dec_at dc_To_advance 50 rfl) ?_
            refine ev_aload_n (i := 0) rfl rfl (a_dec_at dc_To_advance 51 rfl) ?_
            refine cV0I cs_To_50 sh12 rfl (Nat.le_of_ble_eq_true rfl) (Nat.le_of_ble_eq_true rfl) (a_dec_at dc_To_advance 52 rfl) ?_
            refine CI.mono (fun x27 mi27 ml27 z27 H => ?_) H
            refine m_putI fl_To_43 rfl (fun _ _ _ h => by cases h; exact Or.inl rfl) sh12 (a_dec_at dc_To_advance 53 rfl) ?_
            refine ev_goto (tgt := 166) (a_dec_at dc_To_advance 54 rfl) (by decide) ?_
            exact m_retV (a_dec_at dc_To_advance 81 rfl) rfl H
        · have H := H.2 b17
          refine ev_aload_n (i := 0) rfl rfl (a_dec_at dc_To_advance 39 rfl) ?_
          refine ev_bipush (v := 22) rfl (a_dec_at dc_To_advance 40 rfl) ?_
          refine m_putI fl_To_43 rfl (fun _ _ _ h => by cases h; exact Or.inl rfl) sh12 (a_dec_at dc_To_advance 41 rfl) ?_
          refine ev_goto (tgt := 166) (a_dec_at dc_To_advance 42 rfl) (by decide) ?_
          exact m_retV (a_dec_at dc_To_advance 81 rfl) rfl H
      · have H := H.2 b16
        refine ev_aload_n (i := 0) rfl rfl (a_dec_at dc_To_advance 23 rfl) ?_
        refine ev_dup rfl (a_dec_at dc_To_advance 24 rfl) ?_
        refine m_getI fl_To_28 rfl sh12 (a_dec_at dc_To_advance 25 rfl) ?_
        refine ev_iconst (v := 1) rfl (a_dec_at dc_To_advance 26 rfl) ?_
        refine ev_iadd (a_dec_at dc_To_advance 27 rfl) ?_
        refine m_putI fl_To_28 rfl (fun _ _ _ h => by cases h; exact Or.inl rfl) sh12 (a_dec_at dc_To_advance 28 rfl) ?_
        refine ev_goto (tgt := 8) (a_dec_at dc_To_advance 29 rfl) (by decide) ?_
        exact Ev.drop (L' := [.ref 12]) (And.intro rfl trivial) H
set_option maxRecDepth 20000 in
theorem t_To_isLetter {l : Launch} {h : Nat} (mi : TMi) (ml : TMl) (z : Nat) (a1 : Int32) {Q : Int32 → TMi → TMl → Nat → Prop} (H : ((a1 < 97 → Q 0 mi ml z) ∧ (¬ a1 < 97 → ((122 < a1 → Q 0 mi ml z) ∧ (¬ 122 < a1 → Q 1 mi ml z))))) : CI l (h + 1) m_To_isLetter [.int a1] mi ml z Q := by
  show Ev l (h + 1) m_To_isLetter 0 ([.int a1], [], st mi ml z) (qI Q)
  refine ev_iload_n (i := 0) rfl rfl (a_dec_at dc_To_isLetter 0 rfl) ?_
  refine ev_bipush (v := 97) rfl (a_dec_at dc_To_isLetter 1 rfl) ?_
  refine ev_icmp_lt (tgt := 16) (a_dec_at dc_To_isLetter 2 rfl) (by decide) (fun b1 => ?_) (fun b1 => ?_)
  · have H := H.1 b1
    refine ev_iconst (v := 0) rfl (a_dec_at dc_To_isLetter 8 rfl) ?_
    exact m_retI (a_dec_at dc_To_isLetter 9 rfl) rfl rfl H
  · have H := H.2 b1
    refine ev_iload_n (i := 0) rfl rfl (a_dec_at dc_To_isLetter 3 rfl) ?_
    refine ev_bipush (v := 122) rfl (a_dec_at dc_To_isLetter 4 rfl) ?_
    refine ev_icmp_gt (tgt := 16) (a_dec_at dc_To_isLetter 5 rfl) (by decide) (fun b2 => ?_) (fun b2 => ?_)
    · have H := H.1 b2
      refine ev_iconst (v := 0) rfl (a_dec_at dc_To_isLetter 8 rfl) ?_
      exact m_retI (a_dec_at dc_To_isLetter 9 rfl) rfl rfl H
    · have H := H.2 b2
      refine ev_iconst (v := 1) rfl (a_dec_at dc_To_isLetter 6 rfl) ?_
      refine ev_goto (tgt := 17) (a_dec_at dc_To_isLetter 7 rfl) (by decide) ?_
      exact m_retI (a_dec_at dc_To_isLetter 9 rfl) rfl rfl H
set_option maxRecDepth 20000 in
theorem t_To_word {l : Launch} {h : Nat} (mi : TMi) (ml : TMl) (z : Nat) {Q : Int32 → TMi → TMl → Nat → Prop} (H : (((mi 12 1) ≤ (mi 12 2) → Ev l (h + 1) m_To_word 51 ([.ref 12, .int ((mi 12 2) - (mi 12 4)), .int 0, .retAddr 0], [], st mi ml z) (qI Q)) ∧ (¬ (mi 12 1) ≤ (mi 12 2) → (vp_in (mi 12 2) 900) ∧ CI l h m_To_isLetter [.int (mi 2 ((mi 12 2).toNatClampNeg))] mi ml z (fun x3 mi3 ml3 z3 => ((x3 = 0 → Ev l (h + 1) m_To_word 51 ([.ref 12, .int ((mi3 12 2) - (mi3 12 4)), .int 0, .retAddr 0], [], st mi3 ml3 z3) (qI Q)) ∧ (¬ x3 = 0 → Ev l (h + 1) m_To_word 0 ([.ref 12, .retAddr 0, .retAddr 0, .retAddr 0], [], st (up mi3 12 2 ((mi3 12 2) + 1)) ml3 z3) (qI Q))))))) : CI l (h + 1) m_To_word [.ref 12] mi ml z Q := by
  show Ev l (h + 1) m_To_word 0 ([.ref 12, .retAddr 0, .retAddr 0, .retAddr 0], [], st mi ml z) (qI Q)
  refine ev_aload_n (i := 0) rfl rfl (a_dec_at dc_To_word 0 rfl) ?_
  refine m_getI fl_To_28 rfl sh12 (a_dec_at dc_To_word 1 rfl) ?_
  refine ev_aload_n (i := 0) rfl rfl (a_dec_at dc_To_word 2 rfl) ?_
  refine m_getI fl_To_24 rfl sh12 (a_dec_at dc_To_word 3 rfl) ?_
  refine ev_icmp_ge (tgt := 39) (a_dec_at dc_To_word 4 rfl) (by decide) (fun b1 => ?_) (fun b1 => ?_)
  · have H := H.1 b1
    refine ev_aload_n (i := 0) rfl rfl (a_dec_at dc_To_word 19 rfl) ?_
    refine m_getI fl_To_28 rfl sh12 (a_dec_at dc_To_word 20 rfl) ?_
    refine ev_aload_n (i := 0) rfl rfl (a_dec_at dc_To_word 21 rfl) ?_
    refine m_getI fl_To_40 rfl sh12 (a_dec_at dc_To_word 22 rfl) ?_
    refine ev_isub (a_dec_at dc_To_word 23 rfl) ?_
    refine ev_istore_n (i := 1) rfl (by decide) rfl (a_dec_at dc_To_word 24 rfl) ?_
    refine ev_iconst (v := 0) rfl (a_dec_at dc_To_word 25 rfl) ?_
    refine ev_istore_n (i := 2) rfl (by decide) rfl (a_dec_at dc_To_word 26 rfl) ?_
    exact Ev.drop (L' := [.ref 12, .int ((mi 12 2) - (mi 12 4)), .int 0, .retAddr 0]) (And.intro rfl (And.intro rfl (And.intro rfl trivial))) H
  · have H := H.2 b1
    refine ev_aload_n (i := 0) rfl rfl (a_dec_at dc_To_word 5 rfl) ?_
    refine m_getR (y := 2) fl_To_9 rfl sh12 (mr_12_0 _) (by decide) (a_dec_at dc_To_word 6 rfl) ?_
    refine ev_aload_n (i := 0) rfl rfl (a_dec_at dc_To_word 7 rfl) ?_
    refine m_getI fl_To_28 rfl sh12 (a_dec_at dc_To_word 8 rfl) ?_
    obtain ⟨c2, H⟩ := H
    refine w_bald (k := (mi 12 2).toNatClampNeg) sh2 c2 rfl (a_dec_at dc_To_word 9 rfl) ?_
    refine cS1I cs_To_46 rfl (Nat.le_of_ble_eq_true rfl) (Nat.le_of_ble_eq_true rfl) (a_dec_at dc_To_word 10 rfl) ?_
    refine CI.mono (fun x3 mi3 ml3 z3 H => ?_) H
    refine ev_if_eq (tgt := 39) (a_dec_at dc_To_word 11 rfl) (by decide) (fun b4 => ?_) (fun b4 => ?_)
    · have H := H.1 b4
      refine ev_aload_n (i := 0) rfl rfl (a_dec_at dc_To_word 19 rfl) ?_
      refine m_getI fl_To_28 rfl sh12 (a_dec_at dc_To_word 20 rfl) ?_
      refine ev_aload_n (i := 0) rfl rfl (a_dec_at dc_To_word 21 rfl) ?_
      refine m_getI fl_To_40 rfl sh12 (a_dec_at dc_To_word 22 rfl) ?_
      refine ev_isub (a_dec_at dc_To_word 23 rfl) ?_
      refine ev_istore_n (i := 1) rfl (by decide) rfl (a_dec_at dc_To_word 24 rfl) ?_
      refine ev_iconst (v := 0) rfl (a_dec_at dc_To_word 25 rfl) ?_
      refine ev_istore_n (i := 2) rfl (by decide) rfl (a_dec_at dc_To_word 26 rfl) ?_
      exact Ev.drop (L' := [.ref 12, .int ((mi3 12 2) - (mi3 12 4)), .int 0, .retAddr 0]) (And.intro rfl (And.intro rfl (And.intro rfl trivial))) H
    · have H := H.2 b4
      refine ev_aload_n (i := 0) rfl rfl (a_dec_at dc_To_word 12 rfl) ?_
      refine ev_dup rfl (a_dec_at dc_To_word 13 rfl) ?_
      refine m_getI fl_To_28 rfl sh12 (a_dec_at dc_To_word 14 rfl) ?_
      refine ev_iconst (v := 1) rfl (a_dec_at dc_To_word 15 rfl) ?_
      refine ev_iadd (a_dec_at dc_To_word 16 rfl) ?_
      refine m_putI fl_To_28 rfl (fun _ _ _ h => by cases h; exact Or.inl rfl) sh12 (a_dec_at dc_To_word 17 rfl) ?_
      refine ev_goto (tgt := 0) (a_dec_at dc_To_word 18 rfl) (by decide) ?_
      exact Ev.drop (L' := [.ref 12, .retAddr 0, .retAddr 0, .retAddr 0]) (And.intro rfl trivial) H
set_option maxRecDepth 20000 in
theorem t_To_word_51 {l : Launch} {h : Nat} (mi : TMi) (ml : TMl) (z : Nat) (v1 : Int32) (v2 : Int32) {Q : Int32 → TMi → TMl → Nat → Prop} (H : ((20 ≤ v2 → Q 20 mi ml z) ∧ (¬ 20 ≤ v2 → ((5 < v1 → Q 20 mi ml z) ∧ (¬ 5 < v1 → Ev l (h + 1) m_To_word 64 ([.ref 12, .int v1, .int v2, .int 0], [], st mi ml z) (qI Q)))))) : Ev l (h + 1) m_To_word 51 ([.ref 12, .int v1, .int v2, .retAddr 0], [], st mi ml z) (qI Q) := by
  refine ev_iload_n (i := 2) rfl rfl (a_dec_at dc_To_word 27 rfl) ?_
  refine ev_bipush (v := 20) rfl (a_dec_at dc_To_word 28 rfl) ?_
  refine ev_icmp_ge (tgt := 122) (a_dec_at dc_To_word 29 rfl) (by decide) (fun b1 => ?_) (fun b1 => ?_)
  · have H := H.1 b1
    refine ev_bipush (v := 20) rfl (a_dec_at dc_To_word 67 rfl) ?_
    exact m_retI (a_dec_at dc_To_word 68 rfl) rfl rfl H
  · have H := H.2 b1
    refine ev_iload_n (i := 1) rfl rfl (a_dec_at dc_To_word 30 rfl) ?_
    refine ev_iconst (v := 5) rfl (a_dec_at dc_To_word 31 rfl) ?_
    refine ev_icmp_gt (tgt := 122) (a_dec_at dc_To_word 32 rfl) (by decide) (fun b2 => ?_) (fun b2 => ?_)
    · have H := H.1 b2
      refine ev_bipush (v := 20) rfl (a_dec_at dc_To_word 67 rfl) ?_
      exact m_retI (a_dec_at dc_To_word 68 rfl) rfl rfl H
    · have H := H.2 b2
      refine ev_iconst (v := 0) rfl (a_dec_at dc_To_word 33 rfl) ?_
      refine ev_istore_n (i := 3) rfl (by decide) rfl (a_dec_at dc_To_word 34 rfl) ?_
      exact Ev.drop (L' := [.ref 12, .int v1, .int v2, .int 0]) (And.intro rfl (And.intro rfl (And.intro rfl (And.intro rfl trivial)))) H
set_option maxRecDepth 20000 in
theorem t_To_word_0 {l : Launch} {h : Nat} (mi : TMi) (ml : TMl) (z : Nat) {Q : Int32 → TMi → TMl → Nat → Prop} (H : (((mi 12 1) ≤ (mi 12 2) → Ev l (h + 1) m_To_word 51 ([.ref 12, .int ((mi 12 2) - (mi 12 4)), .int 0, .retAddr 0], [], st mi ml z) (qI Q)) ∧ (¬ (mi 12 1) ≤ (mi 12 2) → (vp_in (mi 12 2) 900) ∧ CI l h m_To_isLetter [.int (mi 2 ((mi 12 2).toNatClampNeg))] mi ml z (fun x3 mi3 ml3 z3 => ((x3 = 0 → Ev l (h + 1) m_To_word 51 ([.ref 12, .int ((mi3 12 2) - (mi3 12 4)), .int 0, .retAddr 0], [], st mi3 ml3 z3) (qI Q)) ∧ (¬ x3 = 0 → Ev l (h + 1) m_To_word 0 ([.ref 12, .retAddr 0, .retAddr 0, .retAddr 0], [], st (up mi3 12 2 ((mi3 12 2) + 1)) ml3 z3) (qI Q))))))) : Ev l (h + 1) m_To_word 0 ([.ref 12, .retAddr 0, .retAddr 0, .retAddr 0], [], st mi ml z) (qI Q) := by
  refine ev_aload_n (i := 0) rfl rfl (a_dec_at dc_To_word 0 rfl) ?_
  refine m_getI fl_To_28 rfl sh12 (a_dec_at dc_To_word 1 rfl) ?_
  refine ev_aload_n (i := 0) rfl rfl (a_dec_at dc_To_word 2 rfl) ?_
  refine m_getI fl_To_24 rfl sh12 (a_dec_at dc_To_word 3 rfl) ?_
  refine ev_icmp_ge (tgt := 39) (a_dec_at dc_To_word 4 rfl) (by decide) (fun b1 => ?_) (fun b1 => ?_)
  · have H := H.1 b1
    refine ev_aload_n (i := 0) rfl rfl (a_dec_at dc_To_word 19 rfl) ?_
    refine m_getI fl_To_28 rfl sh12 (a_dec_at dc_To_word 20 rfl) ?_
    refine ev_aload_n (i := 0) rfl rfl (a_dec_at dc_To_word 21 rfl) ?_
    refine m_getI fl_To_40 rfl sh12 (a_dec_at dc_To_word 22 rfl) ?_
    refine ev_isub (a_dec_at dc_To_word 23 rfl) ?_
    refine ev_istore_n (i := 1) rfl (by decide) rfl (a_dec_at dc_To_word 24 rfl) ?_
    refine ev_iconst (v := 0) rfl (a_dec_at dc_To_word 25 rfl) ?_
    refine ev_istore_n (i := 2) rfl (by decide) rfl (a_dec_at dc_To_word 26 rfl) ?_
    exact Ev.drop (L' := [.ref 12, .int ((mi 12 2) - (mi 12 4)), .int 0, .retAddr 0]) (And.intro rfl (And.intro rfl (And.intro rfl trivial))) H
  · have H := H.2 b1
    refine ev_aload_n (i := 0) rfl rfl (a_dec_at dc_To_word 5 rfl) ?_
    refine m_getR (y := 2) fl_To_9 rfl sh12 (mr_12_0 _) (by decide) (a_dec_at dc_To_word 6 rfl) ?_
    refine ev_aload_n (i := 0) rfl rfl (a_dec_at dc_To_word 7 rfl) ?_
    refine m_getI fl_To_28 rfl sh12 (a_dec_at dc_To_word 8 rfl) ?_
    obtain ⟨c2, H⟩ := H
    refine w_bald (k := (mi 12 2).toNatClampNeg) sh2 c2 rfl (a_dec_at dc_To_word 9 rfl) ?_
    refine cS1I cs_To_46 rfl (Nat.le_of_ble_eq_true rfl) (Nat.le_of_ble_eq_true rfl) (a_dec_at dc_To_word 10 rfl) ?_
    refine CI.mono (fun x3 mi3 ml3 z3 H => ?_) H
    refine ev_if_eq (tgt := 39) (a_dec_at dc_To_word 11 rfl) (by decide) (fun b4 => ?_) (fun b4 => ?_)
    · have H := H.1 b4
      refine ev_aload_n (i := 0) rfl rfl (a_dec_at dc_To_word 19 rfl) ?_
      refine m_getI fl_To_28 rfl sh12 (a_dec_at dc_To_word 20 rfl) ?_
      refine ev_aload_n (i := 0) rfl rfl (a_dec_at dc_To_word 21 rfl) ?_
      refine m_getI fl_To_40 rfl sh12 (a_dec_at dc_To_word 22 rfl) ?_
      refine ev_isub (a_dec_at dc_To_word 23 rfl) ?_
      refine ev_istore_n (i := 1) rfl (by decide) rfl (a_dec_at dc_To_word 24 rfl) ?_
      refine ev_iconst (v := 0) rfl (a_dec_at dc_To_word 25 rfl) ?_
      refine ev_istore_n (i := 2) rfl (by decide) rfl (a_dec_at dc_To_word 26 rfl) ?_
      exact Ev.drop (L' := [.ref 12, .int ((mi3 12 2) - (mi3 12 4)), .int 0, .retAddr 0]) (And.intro rfl (And.intro rfl (And.intro rfl trivial))) H
    · have H := H.2 b4
      refine ev_aload_n (i := 0) rfl rfl (a_dec_at dc_To_word 12 rfl) ?_
      refine ev_dup rfl (a_dec_at dc_To_word 13 rfl) ?_
      refine m_getI fl_To_28 rfl sh12 (a_dec_at dc_To_word 14 rfl) ?_
      refine ev_iconst (v := 1) rfl (a_dec_at dc_To_word 15 rfl) ?_
      refine ev_iadd (a_dec_at dc_To_word 16 rfl) ?_
      refine m_putI fl_To_28 rfl (fun _ _ _ h => by cases h; exact Or.inl rfl) sh12 (a_dec_at dc_To_word 17 rfl) ?_
      refine ev_goto (tgt := 0) (a_dec_at dc_To_word 18 rfl) (by decide) ?_
      exact Ev.drop (L' := [.ref 12, .retAddr 0, .retAddr 0, .retAddr 0]) (And.intro rfl trivial) H
set_option maxRecDepth 20000 in
theorem t_To_word_64 {l : Launch} {h : Nat} (mi : TMi) (ml : TMl) (z : Nat) (v1 : Int32) (v2 : Int32) (v3 : Int32) {Q : Int32 → TMi → TMl → Nat → Prop} (H : ((5 ≤ v3 → ((¬ v3 = 5 → Ev l (h + 1) m_To_word 51 ([.ref 12, .int v1, .int (v2 + 1), .retAddr 0], [], st mi ml z) (qI Q)) ∧ (v3 = 5 → Q v2 mi ml z))) ∧ (¬ 5 ≤ v3 → CI l h m_JS_charAt [.ref (1000000 + 0), .int ((v2 * 5) + v3)] mi ml z (fun x3 mi3 ml3 z3 => ((v1 ≤ v3 → ((¬ x3 = 32 → ((¬ v3 = 5 → Ev l (h + 1) m_To_word 51 ([.ref 12, .int v1, .int (v2 + 1), .retAddr 0], [], st mi3 ml3 z3) (qI Q)) ∧ (v3 = 5 → Q v2 mi3 ml3 z3))) ∧ (x3 = 32 → Ev l (h + 1) m_To_word 64 ([.ref 12, .int v1, .int v2, .int (v3 + 1)], [], st mi3 ml3 z3) (qI Q)))) ∧ (¬ v1 ≤ v3 → (vp_in ((mi3 12 4) + v3) 900) ∧ ((¬ x3 = (mi3 2 (((mi3 12 4) + v3).toNatClampNeg)) → ((¬ v3 = 5 → Ev l (h + 1) m_To_word 51 ([.ref 12, .int v1, .int (v2 + 1), .retAddr 0], [], st mi3 ml3 z3) (qI Q)) ∧ (v3 = 5 → Q v2 mi3 ml3 z3))) ∧ (x3 = (mi3 2 (((mi3 12 4) + v3).toNatClampNeg)) → Ev l (h + 1) m_To_word 64 ([.ref 12, .int v1, .int v2, .int (v3 + 1)], [], st mi3 ml3 z3) (qI Q))))))))) : Ev l (h + 1) m_To_word 64 ([.ref 12, .int v1, .int v2, .int v3], [], st mi ml z) (qI Q) := by
  refine ev_iload_n (i := 3) rfl rfl (a_dec_at dc_To_word 35 rfl) ?_
  refine ev_iconst (v := 5) rfl (a_dec_at dc_To_word 36 rfl) ?_
  refine ev_icmp_ge (tgt := 109) (a_dec_at dc_To_word 37 rfl) (by decide) (fun b1 => ?_) (fun b1 => ?_)
  · have H := H.1 b1
    refine ev_iload_n (i := 3) rfl rfl (a_dec_at dc_To_word 60 rfl) ?_
    refine ev_iconst (v := 5) rfl (a_dec_at dc_To_word 61 rfl) ?_
    refine ev_icmp_ne (tgt := 116) (a_dec_at dc_To_word 62 rfl) (by decide) (fun b2 => ?_) (fun b2 => ?_)
    · have H := H.1 b2
      refine ev_iinc (v := 1) rfl rfl (by decide) rfl (a_dec_at dc_To_word 65 rfl) ?_
      refine ev_goto (tgt := 51) (a_dec_at dc_To_word 66 rfl) (by decide) ?_
      exact Ev.drop (L' := [.ref 12, .int v1, .int (v2 + 1), .retAddr 0]) (And.intro rfl (And.intro rfl (And.intro rfl trivial))) H
    · have H := H.2 b2
      refine ev_iload_n (i := 2) rfl rfl (a_dec_at dc_To_word 63 rfl) ?_
      exact m_retI (a_dec_at dc_To_word 64 rfl) rfl rfl H
  · have H := H.2 b1
    refine ev_ldcS (tx := "land beck flow mark rivername giftsdry  to   room bearslikestakesif   then else end  not  and  or   ") (j := 0) (by decide +kernel) (by decide) (a_dec_at dc_To_word 38 rfl) ?_
    refine ev_iload_n (i := 2) rfl rfl (a_dec_at dc_To_word 39 rfl) ?_
    refine ev_iconst (v := 5) rfl (a_dec_at dc_To_word 40 rfl) ?_
    refine ev_imul (a_dec_at dc_To_word 41 rfl) ?_
    refine ev_iload_n (i := 3) rfl rfl (a_dec_at dc_To_word 42 rfl) ?_
    refine ev_iadd (a_dec_at dc_To_word 43 rfl) ?_
    refine cT1I cs_To_76 (by decide) rfl (Nat.le_of_ble_eq_true rfl) (Nat.le_of_ble_eq_true rfl) (a_dec_at dc_To_word 44 rfl) ?_
    refine CI.mono (fun x3 mi3 ml3 z3 H => ?_) H
    refine ev_iload_n (i := 3) rfl rfl (a_dec_at dc_To_word 45 rfl) ?_
    refine ev_iload_n (i := 1) rfl rfl (a_dec_at dc_To_word 46 rfl) ?_
    refine ev_icmp_ge (tgt := 98) (a_dec_at dc_To_word 47 rfl) (by decide) (fun b4 => ?_) (fun b4 => ?_)
    · have H := H.1 b4
      refine ev_bipush (v := 32) rfl (a_dec_at dc_To_word 56 rfl) ?_
      refine ev_icmp_ne (tgt := 109) (a_dec_at dc_To_word 57 rfl) (by decide) (fun b5 => ?_) (fun b5 => ?_)
      · have H := H.1 b5
        refine ev_iload_n (i := 3) rfl rfl (a_dec_at dc_To_word 60 rfl) ?_
        refine ev_iconst (v := 5) rfl (a_dec_at dc_To_word 61 rfl) ?_
        refine ev_icmp_ne (tgt := 116) (a_dec_at dc_To_word 62 rfl) (by decide) (fun b6 => ?_) (fun b6 => ?_)
        · have H := H.1 b6
          refine ev_iinc (v := 1) rfl rfl (by decide) rfl (a_dec_at dc_To_word 65 rfl) ?_
          refine ev_goto (tgt := 51) (a_dec_at dc_To_word 66 rfl) (by decide) ?_
          exact Ev.drop (L' := [.ref 12, .int v1, .int (v2 + 1), .retAddr 0]) (And.intro rfl (And.intro rfl (And.intro rfl trivial))) H
        · have H := H.2 b6
          refine ev_iload_n (i := 2) rfl rfl (a_dec_at dc_To_word 63 rfl) ?_
          exact m_retI (a_dec_at dc_To_word 64 rfl) rfl rfl H
      · have H := H.2 b5
        refine ev_iinc (v := 1) rfl rfl (by decide) rfl (a_dec_at dc_To_word 58 rfl) ?_
        refine ev_goto (tgt := 64) (a_dec_at dc_To_word 59 rfl) (by decide) ?_
        exact Ev.drop (L' := [.ref 12, .int v1, .int v2, .int (v3 + 1)]) (And.intro rfl (And.intro rfl (And.intro rfl (And.intro rfl trivial)))) H
    · have H := H.2 b4
      refine ev_aload_n (i := 0) rfl rfl (a_dec_at dc_To_word 48 rfl) ?_
      refine m_getR (y := 2) fl_To_9 rfl sh12 (mr_12_0 _) (by decide) (a_dec_at dc_To_word 49 rfl) ?_
      refine ev_aload_n (i := 0) rfl rfl (a_dec_at dc_To_word 50 rfl) ?_
      refine m_getI fl_To_40 rfl sh12 (a_dec_at dc_To_word 51 rfl) ?_
      refine ev_iload_n (i := 3) rfl rfl (a_dec_at dc_To_word 52 rfl) ?_
      refine ev_iadd (a_dec_at dc_To_word 53 rfl) ?_
      obtain ⟨c7, H⟩ := H
      refine w_bald (k := ((mi3 12 4) + v3).toNatClampNeg) sh2 c7 rfl (a_dec_at dc_To_word 54 rfl) ?_
      refine ev_goto (tgt := 100) (a_dec_at dc_To_word 55 rfl) (by decide) ?_
      refine ev_icmp_ne (tgt := 109) (a_dec_at dc_To_word 57 rfl) (by decide) (fun b8 => ?_) (fun b8 => ?_)
      · have H := H.1 b8
        refine ev_iload_n (i := 3) rfl rfl (a_dec_at dc_To_word 60 rfl) ?_
        refine ev_iconst (v := 5) rfl (a_dec_at dc_To_word 61 rfl) ?_
        refine ev_icmp_ne (tgt := 116) (a_dec_at dc_To_word 62 rfl) (by decide) (fun b9 => ?_) (fun b9 => ?_)
        · have H := H.1 b9
          refine ev_iinc (v := 1) rfl rfl (by decide) rfl (a_dec_at dc_To_word 65 rfl) ?_
          refine ev_goto (tgt := 51) (a_dec_at dc_To_word 66 rfl) (by decide) ?_
          exact Ev.drop (L' := [.ref 12, .int v1, .int (v2 + 1), .retAddr 0]) (And.intro rfl (And.intro rfl (And.intro rfl trivial))) H
        · have H := H.2 b9
          refine ev_iload_n (i := 2) rfl rfl (a_dec_at dc_To_word 63 rfl) ?_
          exact m_retI (a_dec_at dc_To_word 64 rfl) rfl rfl H
      · have H := H.2 b8
        refine ev_iinc (v := 1) rfl rfl (by decide) rfl (a_dec_at dc_To_word 58 rfl) ?_
        refine ev_goto (tgt := 64) (a_dec_at dc_To_word 59 rfl) (by decide) ?_
        exact Ev.drop (L' := [.ref 12, .int v1, .int v2, .int (v3 + 1)]) (And.intro rfl (And.intro rfl (And.intro rfl (And.intro rfl trivial)))) H
set_option maxRecDepth 20000 in
theorem t_To_isDigit {l : Launch} {h : Nat} (mi : TMi) (ml : TMl) (z : Nat) (a1 : Int32) {Q : Int32 → TMi → TMl → Nat → Prop} (H : ((a1 < 48 → Q 0 mi ml z) ∧ (¬ a1 < 48 → ((57 < a1 → Q 0 mi ml z) ∧ (¬ 57 < a1 → Q 1 mi ml z))))) : CI l (h + 1) m_To_isDigit [.int a1] mi ml z Q := by
  show Ev l (h + 1) m_To_isDigit 0 ([.int a1], [], st mi ml z) (qI Q)
  refine ev_iload_n (i := 0) rfl rfl (a_dec_at dc_To_isDigit 0 rfl) ?_
  refine ev_bipush (v := 48) rfl (a_dec_at dc_To_isDigit 1 rfl) ?_
  refine ev_icmp_lt (tgt := 16) (a_dec_at dc_To_isDigit 2 rfl) (by decide) (fun b1 => ?_) (fun b1 => ?_)
  · have H := H.1 b1
    refine ev_iconst (v := 0) rfl (a_dec_at dc_To_isDigit 8 rfl) ?_
    exact m_retI (a_dec_at dc_To_isDigit 9 rfl) rfl rfl H
  · have H := H.2 b1
    refine ev_iload_n (i := 0) rfl rfl (a_dec_at dc_To_isDigit 3 rfl) ?_
    refine ev_bipush (v := 57) rfl (a_dec_at dc_To_isDigit 4 rfl) ?_
    refine ev_icmp_gt (tgt := 16) (a_dec_at dc_To_isDigit 5 rfl) (by decide) (fun b2 => ?_) (fun b2 => ?_)
    · have H := H.1 b2
      refine ev_iconst (v := 0) rfl (a_dec_at dc_To_isDigit 8 rfl) ?_
      exact m_retI (a_dec_at dc_To_isDigit 9 rfl) rfl rfl H
    · have H := H.2 b2
      refine ev_iconst (v := 1) rfl (a_dec_at dc_To_isDigit 6 rfl) ?_
      refine ev_goto (tgt := 17) (a_dec_at dc_To_isDigit 7 rfl) (by decide) ?_
      exact m_retI (a_dec_at dc_To_isDigit 9 rfl) rfl rfl H
set_option maxRecDepth 20000 in
theorem t_To_number {l : Launch} {h : Nat} (mi : TMi) (ml : TMl) (z : Nat) {Q : Int32 → TMi → TMl → Nat → Prop} (H : Ev l (h + 1) m_To_number 7 ([.ref 12, .int 0], [], st (up mi 12 5 0) ml z) (qI Q)) : CI l (h + 1) m_To_number [.ref 12] mi ml z Q := by
  show Ev l (h + 1) m_To_number 0 ([.ref 12, .retAddr 0], [], st mi ml z) (qI Q)
  refine ev_iconst (v := 0) rfl (a_dec_at dc_To_number 0 rfl) ?_
  refine ev_istore_n (i := 1) rfl (by decide) rfl (a_dec_at dc_To_number 1 rfl) ?_
  refine ev_aload_n (i := 0) rfl rfl (a_dec_at dc_To_number 2 rfl) ?_
  refine ev_iconst (v := 0) rfl (a_dec_at dc_To_number 3 rfl) ?_
  refine m_putI fl_To_71 rfl (fun _ _ _ h => by cases h; exact Or.inl rfl) sh12 (a_dec_at dc_To_number 4 rfl) ?_
  exact Ev.drop (L' := [.ref 12, .int 0]) (And.intro rfl (And.intro rfl trivial)) H
set_option maxRecDepth 20000 in
theorem t_To_number_7 {l : Launch} {h : Nat} (mi : TMi) (ml : TMl) (z : Nat) (v1 : Int32) {Q : Int32 → TMi → TMl → Nat → Prop} (H : (((mi 12 1) ≤ (mi 12 2) → ((3 < v1 → Q 23 mi ml z) ∧ (¬ 3 < v1 → Q 21 mi ml z))) ∧ (¬ (mi 12 1) ≤ (mi 12 2) → (vp_in (mi 12 2) 900) ∧ CI l h m_To_isDigit [.int (mi 2 ((mi 12 2).toNatClampNeg))] mi ml z (fun x4 mi4 ml4 z4 => ((x4 = 0 → ((3 < v1 → Q 23 mi4 ml4 z4) ∧ (¬ 3 < v1 → Q 21 mi4 ml4 z4))) ∧ (¬ x4 = 0 → ((3 ≤ v1 → Ev l (h + 1) m_To_number 7 ([.ref 12, .int (v1 + 1)], [], st (up mi4 12 2 ((mi4 12 2) + 1)) ml4 z4) (qI Q)) ∧ (¬ 3 ≤ v1 → (vp_in (mi4 12 2) 900) ∧ Ev l (h + 1) m_To_number 7 ([.ref 12, .int (v1 + 1)], [], st (up (up mi4 12 5 ((((mi4 12 5) * 10) + (mi4 2 ((mi4 12 2).toNatClampNeg))) - 48)) 12 2 (((up mi4 12 5 ((((mi4 12 5) * 10) + (mi4 2 ((mi4 12 2).toNatClampNeg))) - 48)) 12 2) + 1)) ml4 z4) (qI Q))))))))) : Ev l (h + 1) m_To_number 7 ([.ref 12, .int v1], [], st mi ml z) (qI Q) := by
  refine ev_aload_n (i := 0) rfl rfl (a_dec_at dc_To_number 5 rfl) ?_
  refine m_getI fl_To_28 rfl sh12 (a_dec_at dc_To_number 6 rfl) ?_
  refine ev_aload_n (i := 0) rfl rfl (a_dec_at dc_To_number 7 rfl) ?_
  refine m_getI fl_To_24 rfl sh12 (a_dec_at dc_To_number 8 rfl) ?_
  refine ev_icmp_ge (tgt := 78) (a_dec_at dc_To_number 9 rfl) (by decide) (fun b1 => ?_) (fun b1 => ?_)
  · have H := H.1 b1
    refine ev_iload_n (i := 1) rfl rfl (a_dec_at dc_To_number 42 rfl) ?_
    refine ev_iconst (v := 3) rfl (a_dec_at dc_To_number 43 rfl) ?_
    refine ev_icmp_gt (tgt := 88) (a_dec_at dc_To_number 44 rfl) (by decide) (fun b2 => ?_) (fun b2 => ?_)
    · have H := H.1 b2
      refine ev_bipush (v := 23) rfl (a_dec_at dc_To_number 47 rfl) ?_
      exact m_retI (a_dec_at dc_To_number 48 rfl) rfl rfl H
    · have H := H.2 b2
      refine ev_bipush (v := 21) rfl (a_dec_at dc_To_number 45 rfl) ?_
      refine ev_goto (tgt := 90) (a_dec_at dc_To_number 46 rfl) (by decide) ?_
      exact m_retI (a_dec_at dc_To_number 48 rfl) rfl rfl H
  · have H := H.2 b1
    refine ev_aload_n (i := 0) rfl rfl (a_dec_at dc_To_number 10 rfl) ?_
    refine m_getR (y := 2) fl_To_9 rfl sh12 (mr_12_0 _) (by decide) (a_dec_at dc_To_number 11 rfl) ?_
    refine ev_aload_n (i := 0) rfl rfl (a_dec_at dc_To_number 12 rfl) ?_
    refine m_getI fl_To_28 rfl sh12 (a_dec_at dc_To_number 13 rfl) ?_
    obtain ⟨c3, H⟩ := H
    refine w_bald (k := (mi 12 2).toNatClampNeg) sh2 c3 rfl (a_dec_at dc_To_number 14 rfl) ?_
    refine cS1I cs_To_54 rfl (Nat.le_of_ble_eq_true rfl) (Nat.le_of_ble_eq_true rfl) (a_dec_at dc_To_number 15 rfl) ?_
    refine CI.mono (fun x4 mi4 ml4 z4 H => ?_) H
    refine ev_if_eq (tgt := 78) (a_dec_at dc_To_number 16 rfl) (by decide) (fun b5 => ?_) (fun b5 => ?_)
    · have H := H.1 b5
      refine ev_iload_n (i := 1) rfl rfl (a_dec_at dc_To_number 42 rfl) ?_
      refine ev_iconst (v := 3) rfl (a_dec_at dc_To_number 43 rfl) ?_
      refine ev_icmp_gt (tgt := 88) (a_dec_at dc_To_number 44 rfl) (by decide) (fun b6 => ?_) (fun b6 => ?_)
      · have H := H.1 b6
        refine ev_bipush (v := 23) rfl (a_dec_at dc_To_number 47 rfl) ?_
        exact m_retI (a_dec_at dc_To_number 48 rfl) rfl rfl H
      · have H := H.2 b6
        refine ev_bipush (v := 21) rfl (a_dec_at dc_To_number 45 rfl) ?_
        refine ev_goto (tgt := 90) (a_dec_at dc_To_number 46 rfl) (by decide) ?_
        exact m_retI (a_dec_at dc_To_number 48 rfl) rfl rfl H
    · have H := H.2 b5
      refine ev_iload_n (i := 1) rfl rfl (a_dec_at dc_To_number 17 rfl) ?_
      refine ev_iconst (v := 3) rfl (a_dec_at dc_To_number 18 rfl) ?_
      refine ev_icmp_ge (tgt := 62) (a_dec_at dc_To_number 19 rfl) (by decide) (fun b7 => ?_) (fun b7 => ?_)
      · have H := H.1 b7
        refine ev_iinc (v := 1) rfl rfl (by decide) rfl (a_dec_at dc_To_number 34 rfl) ?_
        refine ev_aload_n (i := 0) rfl rfl (a_dec_at dc_To_number 35 rfl) ?_
        refine ev_dup rfl (a_dec_at dc_To_number 36 rfl) ?_
        refine m_getI fl_To_28 rfl sh12 (a_dec_at dc_To_number 37 rfl) ?_
        refine ev_iconst (v := 1) rfl (a_dec_at dc_To_number 38 rfl) ?_
        refine ev_iadd (a_dec_at dc_To_number 39 rfl) ?_
        refine m_putI fl_To_28 rfl (fun _ _ _ h => by cases h; exact Or.inl rfl) sh12 (a_dec_at dc_To_number 40 rfl) ?_
        refine ev_goto (tgt := 7) (a_dec_at dc_To_number 41 rfl) (by decide) ?_
        exact Ev.drop (L' := [.ref 12, .int (v1 + 1)]) (And.intro rfl (And.intro rfl trivial)) H
      · have H := H.2 b7
        refine ev_aload_n (i := 0) rfl rfl (a_dec_at dc_To_number 20 rfl) ?_
        refine ev_aload_n (i := 0) rfl rfl (a_dec_at dc_To_number 21 rfl) ?_
        refine m_getI fl_To_71 rfl sh12 (a_dec_at dc_To_number 22 rfl) ?_
        refine ev_bipush (v := 10) rfl (a_dec_at dc_To_number 23 rfl) ?_
        refine ev_imul (a_dec_at dc_To_number 24 rfl) ?_
        refine ev_aload_n (i := 0) rfl rfl (a_dec_at dc_To_number 25 rfl) ?_
        refine m_getR (y := 2) fl_To_9 rfl sh12 (mr_12_0 _) (by decide) (a_dec_at dc_To_number 26 rfl) ?_
        refine ev_aload_n (i := 0) rfl rfl (a_dec_at dc_To_number 27 rfl) ?_
        refine m_getI fl_To_28 rfl sh12 (a_dec_at dc_To_number 28 rfl) ?_
        obtain ⟨c8, H⟩ := H
        refine w_bald (k := (mi4 12 2).toNatClampNeg) sh2 c8 rfl (a_dec_at dc_To_number 29 rfl) ?_
        refine ev_iadd (a_dec_at dc_To_number 30 rfl) ?_
        refine ev_bipush (v := 48) rfl (a_dec_at dc_To_number 31 rfl) ?_
        refine ev_isub (a_dec_at dc_To_number 32 rfl) ?_
        refine m_putI fl_To_71 rfl (fun _ _ _ h => by cases h; exact Or.inl rfl) sh12 (a_dec_at dc_To_number 33 rfl) ?_
        refine ev_iinc (v := 1) rfl rfl (by decide) rfl (a_dec_at dc_To_number 34 rfl) ?_
        refine ev_aload_n (i := 0) rfl rfl (a_dec_at dc_To_number 35 rfl) ?_
        refine ev_dup rfl (a_dec_at dc_To_number 36 rfl) ?_
        refine m_getI fl_To_28 rfl sh12 (a_dec_at dc_To_number 37 rfl) ?_
        refine ev_iconst (v := 1) rfl (a_dec_at dc_To_number 38 rfl) ?_
        refine ev_iadd (a_dec_at dc_To_number 39 rfl) ?_
        refine m_putI fl_To_28 rfl (fun _ _ _ h => by cases h; exact Or.inl rfl) sh12 (a_dec_at dc_To_number 40 rfl) ?_
        refine ev_goto (tgt := 7) (a_dec_at dc_To_number 41 rfl) (by decide) ?_
        exact Ev.drop (L' := [.ref 12, .int (v1 + 1)]) (And.intro rfl (And.intro rfl trivial)) H
set_option maxRecDepth 20000 in
theorem t_To_sign {l : Launch} {h : Nat} (mi : TMi) (ml : TMl) (z : Nat) (a1 : Int32) {Q : Int32 → TMi → TMl → Nat → Prop} (H : ((a1 ≤ 0 → Q 23 mi ml z) ∧ (¬ a1 ≤ 0 → CI l h m_JS_indexOf [.ref (1000000 + 1), .int ((a1.toUInt32 % 65536).toInt32)] mi ml z (fun x2 mi2 ml2 z2 => ((x2 < 0 → Q 23 mi2 ml2 z2) ∧ (¬ x2 < 0 → Q a1 mi2 ml2 z2)))))) : CI l (h + 1) m_To_sign [.int a1] mi ml z Q := by
  show Ev l (h + 1) m_To_sign 0 ([.int a1], [], st mi ml z) (qI Q)
  refine ev_iload_n (i := 0) rfl rfl (a_dec_at dc_To_sign 0 rfl) ?_
  refine ev_if_le (tgt := 18) (a_dec_at dc_To_sign 1 rfl) (by decide) (fun b1 => ?_) (fun b1 => ?_)
  · have H := H.1 b1
    refine ev_bipush (v := 23) rfl (a_dec_at dc_To_sign 9 rfl) ?_
    exact m_retI (a_dec_at dc_To_sign 10 rfl) rfl rfl H
  · have H := H.2 b1
    refine ev_ldcS (tx := ";:+-*()[]=<>") (j := 1) (by decide +kernel) (by decide) (a_dec_at dc_To_sign 2 rfl) ?_
    refine ev_iload_n (i := 0) rfl rfl (a_dec_at dc_To_sign 3 rfl) ?_
    refine ev_i2c (a_dec_at dc_To_sign 4 rfl) ?_
    refine cT1I cs_To_66 (by decide) rfl (Nat.le_of_ble_eq_true rfl) (Nat.le_of_ble_eq_true rfl) (a_dec_at dc_To_sign 5 rfl) ?_
    refine CI.mono (fun x2 mi2 ml2 z2 H => ?_) H
    refine ev_if_lt (tgt := 18) (a_dec_at dc_To_sign 6 rfl) (by decide) (fun b3 => ?_) (fun b3 => ?_)
    · have H := H.1 b3
      refine ev_bipush (v := 23) rfl (a_dec_at dc_To_sign 9 rfl) ?_
      exact m_retI (a_dec_at dc_To_sign 10 rfl) rfl rfl H
    · have H := H.2 b3
      refine ev_iload_n (i := 0) rfl rfl (a_dec_at dc_To_sign 7 rfl) ?_
      refine ev_goto (tgt := 20) (a_dec_at dc_To_sign 8 rfl) (by decide) ?_
      exact m_retI (a_dec_at dc_To_sign 10 rfl) rfl rfl H
set_option maxRecDepth 20000 in
theorem t_To_expect {l : Launch} {h : Nat} (mi : TMi) (ml : TMl) (z : Nat) (a1 : Int32) {Q : TMi → TMl → Nat → Prop} (H : CI l h m_To_sees [.ref 12, .int a1] mi ml z (fun x1 mi1 ml1 z1 => ((x1 = 0 → CV l h m_To_refuse [.ref 12, .int 2] mi1 ml1 z1 (fun mi3 ml3 z3 => Q mi3 ml3 z3)) ∧ (¬ x1 = 0 → CV l h m_To_advance [.ref 12] mi1 ml1 z1 (fun mi4 ml4 z4 => Q mi4 ml4 z4))))) : CV l (h + 1) m_To_expect [.ref 12, .int a1] mi ml z Q := by
  show Ev l (h + 1) m_To_expect 0 ([.ref 12, .int a1], [], st mi ml z) (qV Q)
  refine ev_aload_n (i := 0) rfl rfl (a_dec_at dc_To_expect 0 rfl) ?_
  refine ev_iload_n (i := 1) rfl rfl (a_dec_at dc_To_expect 1 rfl) ?_
  refine cV1I cs_To_80 sh12 rfl (Nat.le_of_ble_eq_true rfl) (Nat.le_of_ble_eq_true rfl) (a_dec_at dc_To_expect 2 rfl) ?_
  refine CI.mono (fun x1 mi1 ml1 z1 H => ?_) H
  refine ev_if_eq (tgt := 15) (a_dec_at dc_To_expect 3 rfl) (by decide) (fun b2 => ?_) (fun b2 => ?_)
  · have H := H.1 b2
    refine ev_aload_n (i := 0) rfl rfl (a_dec_at dc_To_expect 7 rfl) ?_
    refine ev_iconst (v := 2) rfl (a_dec_at dc_To_expect 8 rfl) ?_
    refine cV1V cs_To_83 sh12 rfl (Nat.le_of_ble_eq_true rfl) (Nat.le_of_ble_eq_true rfl) (a_dec_at dc_To_expect 9 rfl) ?_
    refine CV.mono (fun mi3 ml3 z3 H => ?_) H
    exact m_retV (a_dec_at dc_To_expect 10 rfl) rfl H
  · have H := H.2 b2
    refine ev_aload_n (i := 0) rfl rfl (a_dec_at dc_To_expect 4 rfl) ?_
    refine cV0V cs_To_37 sh12 rfl (Nat.le_of_ble_eq_true rfl) (Nat.le_of_ble_eq_true rfl) (a_dec_at dc_To_expect 5 rfl) ?_
    refine CV.mono (fun mi4 ml4 z4 H => ?_) H
    refine ev_goto (tgt := 20) (a_dec_at dc_To_expect 6 rfl) (by decide) ?_
    exact m_retV (a_dec_at dc_To_expect 10 rfl) rfl H
set_option maxRecDepth 20000 in
theorem t_To_sees {l : Launch} {h : Nat} (mi : TMi) (ml : TMl) (z : Nat) (a1 : Int32) {Q : Int32 → TMi → TMl → Nat → Prop} (H : ((¬ (mi 12 6) = 0 → Q 0 mi ml z) ∧ ((mi 12 6) = 0 → ((¬ (mi 12 3) = a1 → Q 0 mi ml z) ∧ ((mi 12 3) = a1 → Q 1 mi ml z))))) : CI l (h + 1) m_To_sees [.ref 12, .int a1] mi ml z Q := by
  show Ev l (h + 1) m_To_sees 0 ([.ref 12, .int a1], [], st mi ml z) (qI Q)
  refine ev_aload_n (i := 0) rfl rfl (a_dec_at dc_To_sees 0 rfl) ?_
  refine m_getI fl_To_31 rfl sh12 (a_dec_at dc_To_sees 1 rfl) ?_
  refine ev_if_ne (tgt := 19) (a_dec_at dc_To_sees 2 rfl) (by decide) (fun b1 => ?_) (fun b1 => ?_)
  · have H := H.1 b1
    refine ev_iconst (v := 0) rfl (a_dec_at dc_To_sees 9 rfl) ?_
    exact m_retI (a_dec_at dc_To_sees 10 rfl) rfl rfl H
  · have H := H.2 b1
    refine ev_aload_n (i := 0) rfl rfl (a_dec_at dc_To_sees 3 rfl) ?_
    refine m_getI fl_To_43 rfl sh12 (a_dec_at dc_To_sees 4 rfl) ?_
    refine ev_iload_n (i := 1) rfl rfl (a_dec_at dc_To_sees 5 rfl) ?_
    refine ev_icmp_ne (tgt := 19) (a_dec_at dc_To_sees 6 rfl) (by decide) (fun b2 => ?_) (fun b2 => ?_)
    · have H := H.1 b2
      refine ev_iconst (v := 0) rfl (a_dec_at dc_To_sees 9 rfl) ?_
      exact m_retI (a_dec_at dc_To_sees 10 rfl) rfl rfl H
    · have H := H.2 b2
      refine ev_iconst (v := 1) rfl (a_dec_at dc_To_sees 7 rfl) ?_
      refine ev_goto (tgt := 20) (a_dec_at dc_To_sees 8 rfl) (by decide) ?_
      exact m_retI (a_dec_at dc_To_sees 10 rfl) rfl rfl H
set_option maxRecDepth 20000 in
theorem t_To_refuse {l : Launch} {h : Nat} (mi : TMi) (ml : TMl) (z : Nat) (a1 : Int32) {Q : TMi → TMl → Nat → Prop} (H : ((¬ (mi 12 6) = 0 → Q mi ml z) ∧ ((mi 12 6) = 0 → ((¬ (mi 12 3) = 23 → Q (up (up mi 12 6 a1) 12 7 ((up mi 12 6 a1) 12 4)) ml z) ∧ ((mi 12 3) = 23 → Q (up (up mi 12 6 1) 12 7 ((up mi 12 6 1) 12 4)) ml z))))) : CV l (h + 1) m_To_refuse [.ref 12, .int a1] mi ml z Q := by
  show Ev l (h + 1) m_To_refuse 0 ([.ref 12, .int a1], [], st mi ml z) (qV Q)
  refine ev_aload_n (i := 0) rfl rfl (a_dec_at dc_To_refuse 0 rfl) ?_
  refine m_getI fl_To_31 rfl sh12 (a_dec_at dc_To_refuse 1 rfl) ?_
  refine ev_if_ne (tgt := 33) (a_dec_at dc_To_refuse 2 rfl) (by decide) (fun b1 => ?_) (fun b1 => ?_)
  · have H := H.1 b1
    exact m_retV (a_dec_at dc_To_refuse 16 rfl) rfl H
  · have H := H.2 b1
    refine ev_aload_n (i := 0) rfl rfl (a_dec_at dc_To_refuse 3 rfl) ?_
    refine ev_aload_n (i := 0) rfl rfl (a_dec_at dc_To_refuse 4 rfl) ?_
    refine m_getI fl_To_43 rfl sh12 (a_dec_at dc_To_refuse 5 rfl) ?_
    refine ev_bipush (v := 23) rfl (a_dec_at dc_To_refuse 6 rfl) ?_
    refine ev_icmp_ne (tgt := 21) (a_dec_at dc_To_refuse 7 rfl) (by decide) (fun b2 => ?_) (fun b2 => ?_)
    · have H := H.1 b2
      refine ev_iload_n (i := 1) rfl rfl (a_dec_at dc_To_refuse 10 rfl) ?_
      refine m_putI fl_To_31 rfl (fun _ _ _ h => by cases h; exact Or.inl rfl) sh12 (a_dec_at dc_To_refuse 11 rfl) ?_
      refine ev_aload_n (i := 0) rfl rfl (a_dec_at dc_To_refuse 12 rfl) ?_
      refine ev_aload_n (i := 0) rfl rfl (a_dec_at dc_To_refuse 13 rfl) ?_
      refine m_getI fl_To_40 rfl sh12 (a_dec_at dc_To_refuse 14 rfl) ?_
      refine m_putI fl_To_34 rfl (fun _ _ _ h => by cases h; exact Or.inl rfl) sh12 (a_dec_at dc_To_refuse 15 rfl) ?_
      exact m_retV (a_dec_at dc_To_refuse 16 rfl) rfl H
    · have H := H.2 b2
      refine ev_iconst (v := 1) rfl (a_dec_at dc_To_refuse 8 rfl) ?_
      refine ev_goto (tgt := 22) (a_dec_at dc_To_refuse 9 rfl) (by decide) ?_
      refine m_putI fl_To_31 rfl (fun _ _ _ h => by cases h; exact Or.inl rfl) sh12 (a_dec_at dc_To_refuse 11 rfl) ?_
      refine ev_aload_n (i := 0) rfl rfl (a_dec_at dc_To_refuse 12 rfl) ?_
      refine ev_aload_n (i := 0) rfl rfl (a_dec_at dc_To_refuse 13 rfl) ?_
      refine m_getI fl_To_40 rfl sh12 (a_dec_at dc_To_refuse 14 rfl) ?_
      refine m_putI fl_To_34 rfl (fun _ _ _ h => by cases h; exact Or.inl rfl) sh12 (a_dec_at dc_To_refuse 15 rfl) ?_
      exact m_retV (a_dec_at dc_To_refuse 16 rfl) rfl H
set_option maxRecDepth 20000 in
theorem t_To_goesOn {l : Launch} {h : Nat} (mi : TMi) (ml : TMl) (z : Nat) {Q : Int32 → TMi → TMl → Nat → Prop} (H : ((¬ (mi 12 6) = 0 → Q 0 mi ml z) ∧ ((mi 12 6) = 0 → (((mi 12 3) = 22 → Q 0 mi ml z) ∧ (¬ (mi 12 3) = 22 → Q 1 mi ml z))))) : CI l (h + 1) m_To_goesOn [.ref 12] mi ml z Q := by
  show Ev l (h + 1) m_To_goesOn 0 ([.ref 12], [], st mi ml z) (qI Q)
  refine ev_aload_n (i := 0) rfl rfl (a_dec_at dc_To_goesOn 0 rfl) ?_
  refine m_getI fl_To_31 rfl sh12 (a_dec_at dc_To_goesOn 1 rfl) ?_
  refine ev_if_ne (tgt := 20) (a_dec_at dc_To_goesOn 2 rfl) (by decide) (fun b1 => ?_) (fun b1 => ?_)
  · have H := H.1 b1
    refine ev_iconst (v := 0) rfl (a_dec_at dc_To_goesOn 9 rfl) ?_
    exact m_retI (a_dec_at dc_To_goesOn 10 rfl) rfl rfl H
  · have H := H.2 b1
    refine ev_aload_n (i := 0) rfl rfl (a_dec_at dc_To_goesOn 3 rfl) ?_
    refine m_getI fl_To_43 rfl sh12 (a_dec_at dc_To_goesOn 4 rfl) ?_
    refine ev_bipush (v := 22) rfl (a_dec_at dc_To_goesOn 5 rfl) ?_
    refine ev_icmp_eq (tgt := 20) (a_dec_at dc_To_goesOn 6 rfl) (by decide) (fun b2 => ?_) (fun b2 => ?_)
    · have H := H.1 b2
      refine ev_iconst (v := 0) rfl (a_dec_at dc_To_goesOn 9 rfl) ?_
      exact m_retI (a_dec_at dc_To_goesOn 10 rfl) rfl rfl H
    · have H := H.2 b2
      refine ev_iconst (v := 1) rfl (a_dec_at dc_To_goesOn 7 rfl) ?_
      refine ev_goto (tgt := 21) (a_dec_at dc_To_goesOn 8 rfl) (by decide) ?_
      exact m_retI (a_dec_at dc_To_goesOn 10 rfl) rfl rfl H
set_option maxRecDepth 20000 in
theorem t_To_expectNumber {l : Launch} {h : Nat} (mi : TMi) (ml : TMl) (z : Nat) (a1 : Int32) {Q : Int32 → TMi → TMl → Nat → Prop} (H : CI l h m_To_sees [.ref 12, .int 21] mi ml z (fun x1 mi1 ml1 z1 => ((¬ x1 = 0 → (((mi1 12 5) ≤ a1 → CV l h m_To_advance [.ref 12] mi1 ml1 z1 (fun mi4 ml4 z4 => Q (mi1 12 5) mi4 ml4 z4)) ∧ (¬ (mi1 12 5) ≤ a1 → CV l h m_To_refuse [.ref 12, .int 3] mi1 ml1 z1 (fun mi5 ml5 z5 => Q 0 mi5 ml5 z5)))) ∧ (x1 = 0 → CV l h m_To_refuse [.ref 12, .int 2] mi1 ml1 z1 (fun mi6 ml6 z6 => Q 0 mi6 ml6 z6))))) : CI l (h + 1) m_To_expectNumber [.ref 12, .int a1] mi ml z Q := by
  show Ev l (h + 1) m_To_expectNumber 0 ([.ref 12, .int a1, .retAddr 0], [], st mi ml z) (qI Q)
  refine ev_aload_n (i := 0) rfl rfl (a_dec_at dc_To_expectNumber 0 rfl) ?_
  refine ev_bipush (v := 21) rfl (a_dec_at dc_To_expectNumber 1 rfl) ?_
  refine cV1I cs_To_80 sh12 rfl (Nat.le_of_ble_eq_true rfl) (Nat.le_of_ble_eq_true rfl) (a_dec_at dc_To_expectNumber 2 rfl) ?_
  refine CI.mono (fun x1 mi1 ml1 z1 H => ?_) H
  refine ev_if_ne (tgt := 16) (a_dec_at dc_To_expectNumber 3 rfl) (by decide) (fun b2 => ?_) (fun b2 => ?_)
  · have H := H.1 b2
    refine ev_aload_n (i := 0) rfl rfl (a_dec_at dc_To_expectNumber 9 rfl) ?_
    refine m_getI fl_To_71 rfl sh12 (a_dec_at dc_To_expectNumber 10 rfl) ?_
    refine ev_iload_n (i := 1) rfl rfl (a_dec_at dc_To_expectNumber 11 rfl) ?_
    refine ev_icmp_le (tgt := 31) (a_dec_at dc_To_expectNumber 12 rfl) (by decide) (fun b3 => ?_) (fun b3 => ?_)
    · have H := H.1 b3
      refine ev_aload_n (i := 0) rfl rfl (a_dec_at dc_To_expectNumber 18 rfl) ?_
      refine m_getI fl_To_71 rfl sh12 (a_dec_at dc_To_expectNumber 19 rfl) ?_
      refine ev_istore_n (i := 2) rfl (by decide) rfl (a_dec_at dc_To_expectNumber 20 rfl) ?_
      refine ev_aload_n (i := 0) rfl rfl (a_dec_at dc_To_expectNumber 21 rfl) ?_
      refine cV0V cs_To_37 sh12 rfl (Nat.le_of_ble_eq_true rfl) (Nat.le_of_ble_eq_true rfl) (a_dec_at dc_To_expectNumber 22 rfl) ?_
      refine CV.mono (fun mi4 ml4 z4 H => ?_) H
      refine ev_iload_n (i := 2) rfl rfl (a_dec_at dc_To_expectNumber 23 rfl) ?_
      exact m_retI (a_dec_at dc_To_expectNumber 24 rfl) rfl rfl H
    · have H := H.2 b3
      refine ev_aload_n (i := 0) rfl rfl (a_dec_at dc_To_expectNumber 13 rfl) ?_
      refine ev_iconst (v := 3) rfl (a_dec_at dc_To_expectNumber 14 rfl) ?_
      refine cV1V cs_To_83 sh12 rfl (Nat.le_of_ble_eq_true rfl) (Nat.le_of_ble_eq_true rfl) (a_dec_at dc_To_expectNumber 15 rfl) ?_
      refine CV.mono (fun mi5 ml5 z5 H => ?_) H
      refine ev_iconst (v := 0) rfl (a_dec_at dc_To_expectNumber 16 rfl) ?_
      exact m_retI (a_dec_at dc_To_expectNumber 17 rfl) rfl rfl H
  · have H := H.2 b2
    refine ev_aload_n (i := 0) rfl rfl (a_dec_at dc_To_expectNumber 4 rfl) ?_
    refine ev_iconst (v := 2) rfl (a_dec_at dc_To_expectNumber 5 rfl) ?_
    refine cV1V cs_To_83 sh12 rfl (Nat.le_of_ble_eq_true rfl) (Nat.le_of_ble_eq_true rfl) (a_dec_at dc_To_expectNumber 6 rfl) ?_
    refine CV.mono (fun mi6 ml6 z6 H => ?_) H
    refine ev_iconst (v := 0) rfl (a_dec_at dc_To_expectNumber 7 rfl) ?_
    exact m_retI (a_dec_at dc_To_expectNumber 8 rfl) rfl rfl H
set_option maxRecDepth 20000 in
theorem t_Re_readAll {l : Launch} {h : Nat} (mi : TMi) (ml : TMl) (z : Nat) {Q : TMi → TMl → Nat → Prop} (H : CV l h m_La_clear [.ref 3] mi ml z (fun mi1 ml1 z1 => CV l h m_To_expect [.ref 12, .int 0] mi1 ml1 z1 (fun mi2 ml2 z2 => CV l h m_To_expect [.ref 12, .int 59] mi2 ml2 z2 (fun mi3 ml3 z3 => Ev l (h + 1) m_Re_readAll 34 ([.ref 13, .int 0], [], st (up mi3 3 2 1) ml3 z3) (qV Q))))) : CV l (h + 1) m_Re_readAll [.ref 13] mi ml z Q := by
  show Ev l (h + 1) m_Re_readAll 0 ([.ref 13, .retAddr 0], [], st mi ml z) (qV Q)
  refine ev_aload_n (i := 0) rfl rfl (a_dec_at dc_Re_readAll 0 rfl) ?_
  refine m_getR (y := 3) fl_Re_15 rfl sh13 (mr_13_1 _) (by decide) (a_dec_at dc_Re_readAll 1 rfl) ?_
  refine cV0V cs_Re_19 sh3 rfl (Nat.le_of_ble_eq_true rfl) (Nat.le_of_ble_eq_true rfl) (a_dec_at dc_Re_readAll 2 rfl) ?_
  refine CV.mono (fun mi1 ml1 z1 H => ?_) H
  refine ev_aload_n (i := 0) rfl rfl (a_dec_at dc_Re_readAll 3 rfl) ?_
  refine m_getR (y := 12) fl_Re_9 rfl sh13 (mr_13_0 _) (by decide) (a_dec_at dc_Re_readAll 4 rfl) ?_
  refine ev_iconst (v := 0) rfl (a_dec_at dc_Re_readAll 5 rfl) ?_
  refine cV1V cs_Re_26 sh12 rfl (Nat.le_of_ble_eq_true rfl) (Nat.le_of_ble_eq_true rfl) (a_dec_at dc_Re_readAll 6 rfl) ?_
  refine CV.mono (fun mi2 ml2 z2 H => ?_) H
  refine ev_aload_n (i := 0) rfl rfl (a_dec_at dc_Re_readAll 7 rfl) ?_
  refine m_getR (y := 12) fl_Re_9 rfl sh13 (mr_13_0 _) (by decide) (a_dec_at dc_Re_readAll 8 rfl) ?_
  refine ev_bipush (v := 59) rfl (a_dec_at dc_Re_readAll 9 rfl) ?_
  refine cV1V cs_Re_26 sh12 rfl (Nat.le_of_ble_eq_true rfl) (Nat.le_of_ble_eq_true rfl) (a_dec_at dc_Re_readAll 10 rfl) ?_
  refine CV.mono (fun mi3 ml3 z3 H => ?_) H
  refine ev_aload_n (i := 0) rfl rfl (a_dec_at dc_Re_readAll 11 rfl) ?_
  refine m_getR (y := 3) fl_Re_15 rfl sh13 (mr_13_1 _) (by decide) (a_dec_at dc_Re_readAll 12 rfl) ?_
  refine ev_iconst (v := 1) rfl (a_dec_at dc_Re_readAll 13 rfl) ?_
  refine m_putI fl_Re_30 rfl (fun _ _ _ h => by cases h; exact Or.inl rfl) sh3 (a_dec_at dc_Re_readAll 14 rfl) ?_
  refine ev_iconst (v := 0) rfl (a_dec_at dc_Re_readAll 15 rfl) ?_
  refine ev_istore_n (i := 1) rfl (by decide) rfl (a_dec_at dc_Re_readAll 16 rfl) ?_
  exact Ev.drop (L' := [.ref 13, .int 0]) (And.intro rfl (And.intro rfl trivial)) H
set_option maxRecDepth 20000 in
theorem t_Re_readAll_34 {l : Launch} {h : Nat} (mi : TMi) (ml : TMl) (z : Nat) (v1 : Int32) {Q : TMi → TMl → Nat → Prop} (H : ((900 ≤ v1 → Q mi ml z) ∧ (¬ 900 ≤ v1 → CI l h m_To_goesOn [.ref 12] mi ml z (fun x2 mi2 ml2 z2 => ((x2 = 0 → Q mi2 ml2 z2) ∧ (¬ x2 = 0 → CV l h m_Re_readLine [.ref 13] mi2 ml2 z2 (fun mi4 ml4 z4 => CV l h m_To_expect [.ref 12, .int 59] mi4 ml4 z4 (fun mi5 ml5 z5 => Ev l (h + 1) m_Re_readAll 34 ([.ref 13, .int (v1 + 1)], [], st (up mi5 3 2 ((mi5 3 2) + 1)) ml5 z5) (qV Q))))))))) : Ev l (h + 1) m_Re_readAll 34 ([.ref 13, .int v1], [], st mi ml z) (qV Q) := by
  refine ev_iload_n (i := 1) rfl rfl (a_dec_at dc_Re_readAll 17 rfl) ?_
  refine ev_sipush (v := 900) rfl (a_dec_at dc_Re_readAll 18 rfl) ?_
  refine ev_icmp_ge (tgt := 83) (a_dec_at dc_Re_readAll 19 rfl) (by decide) (fun b1 => ?_) (fun b1 => ?_)
  · have H := H.1 b1
    exact m_retV (a_dec_at dc_Re_readAll 39 rfl) rfl H
  · have H := H.2 b1
    refine ev_aload_n (i := 0) rfl rfl (a_dec_at dc_Re_readAll 20 rfl) ?_
    refine m_getR (y := 12) fl_Re_9 rfl sh13 (mr_13_0 _) (by decide) (a_dec_at dc_Re_readAll 21 rfl) ?_
    refine cV0I cs_Re_34 sh12 rfl (Nat.le_of_ble_eq_true rfl) (Nat.le_of_ble_eq_true rfl) (a_dec_at dc_Re_readAll 22 rfl) ?_
    refine CI.mono (fun x2 mi2 ml2 z2 H => ?_) H
    refine ev_if_eq (tgt := 83) (a_dec_at dc_Re_readAll 23 rfl) (by decide) (fun b3 => ?_) (fun b3 => ?_)
    · have H := H.1 b3
      exact m_retV (a_dec_at dc_Re_readAll 39 rfl) rfl H
    · have H := H.2 b3
      refine ev_aload_n (i := 0) rfl rfl (a_dec_at dc_Re_readAll 24 rfl) ?_
      refine cV0V cs_Re_38 sh13 rfl (Nat.le_of_ble_eq_true rfl) (Nat.le_of_ble_eq_true rfl) (a_dec_at dc_Re_readAll 25 rfl) ?_
      refine CV.mono (fun mi4 ml4 z4 H => ?_) H
      refine ev_aload_n (i := 0) rfl rfl (a_dec_at dc_Re_readAll 26 rfl) ?_
      refine m_getR (y := 12) fl_Re_9 rfl sh13 (mr_13_0 _) (by decide) (a_dec_at dc_Re_readAll 27 rfl) ?_
      refine ev_bipush (v := 59) rfl (a_dec_at dc_Re_readAll 28 rfl) ?_
      refine cV1V cs_Re_26 sh12 rfl (Nat.le_of_ble_eq_true rfl) (Nat.le_of_ble_eq_true rfl) (a_dec_at dc_Re_readAll 29 rfl) ?_
      refine CV.mono (fun mi5 ml5 z5 H => ?_) H
      refine ev_aload_n (i := 0) rfl rfl (a_dec_at dc_Re_readAll 30 rfl) ?_
      refine m_getR (y := 3) fl_Re_15 rfl sh13 (mr_13_1 _) (by decide) (a_dec_at dc_Re_readAll 31 rfl) ?_
      refine ev_dup rfl (a_dec_at dc_Re_readAll 32 rfl) ?_
      refine m_getI fl_Re_30 rfl sh3 (a_dec_at dc_Re_readAll 33 rfl) ?_
      refine ev_iconst (v := 1) rfl (a_dec_at dc_Re_readAll 34 rfl) ?_
      refine ev_iadd (a_dec_at dc_Re_readAll 35 rfl) ?_
      refine m_putI fl_Re_30 rfl (fun _ _ _ h => by cases h; exact Or.inl rfl) sh3 (a_dec_at dc_Re_readAll 36 rfl) ?_
      refine ev_iinc (v := 1) rfl rfl (by decide) rfl (a_dec_at dc_Re_readAll 37 rfl) ?_
      refine ev_goto (tgt := 34) (a_dec_at dc_Re_readAll 38 rfl) (by decide) ?_
      exact Ev.drop (L' := [.ref 13, .int (v1 + 1)]) (And.intro rfl (And.intro rfl trivial)) H
set_option maxRecDepth 20000 in
theorem t_Re_readLine {l : Launch} {h : Nat} (mi : TMi) (ml : TMl) (z : Nat) {Q : TMi → TMl → Nat → Prop} (H : (((mi 12 3) = 1 → CV l h m_Re_readBeck [.ref 13] mi ml z (fun mi2 ml2 z2 => Q mi2 ml2 z2)) ∧ (((mi 12 3) = 4 → CV l h m_Re_readRiver [.ref 13] mi ml z (fun mi4 ml4 z4 => Q mi4 ml4 z4)) ∧ (((mi 12 3) = 11 → CI l h m_Re_readLaw [.ref 13] mi ml z (fun x6 mi6 ml6 z6 => Q (up mi6 3 12 x6) ml6 z6)) ∧ (((mi 12 3) = 12 → CI l h m_Re_readLaw [.ref 13] mi ml z (fun x8 mi8 ml8 z8 => Q (up mi8 3 13 x8) ml8 z8)) ∧ (¬ (mi 12 3) = 1 → ¬ (mi 12 3) = 4 → ¬ (mi 12 3) = 11 → ¬ (mi 12 3) = 12 → CV l h m_To_refuse [.ref 12, .int 2] mi ml z (fun mi9 ml9 z9 => Q mi9 ml9 z9))))))) : CV l (h + 1) m_Re_readLine [.ref 13] mi ml z Q := by
  show Ev l (h + 1) m_Re_readLine 0 ([.ref 13], [], st mi ml z) (qV Q)
  refine ev_aload_n (i := 0) rfl rfl (a_dec_at dc_Re_readLine 0 rfl) ?_
  refine m_getR (y := 12) fl_Re_9 rfl sh13 (mr_13_0 _) (by decide) (a_dec_at dc_Re_readLine 1 rfl) ?_
  refine m_getI fl_Re_41 rfl sh12 (a_dec_at dc_Re_readLine 2 rfl) ?_
  by_cases e1 : (mi 12 3) = 1
  · have H := H.1 e1
    refine ev_lookup (off := 41) (tgt := 48) (a_dec_at dc_Re_readLine 3 rfl) (by decide) (by rw [e1]; decide) (by decide) ?_
    refine ev_aload_n (i := 0) rfl rfl (a_dec_at dc_Re_readLine 4 rfl) ?_
    refine cV0V cs_Re_44 sh13 rfl (Nat.le_of_ble_eq_true rfl) (Nat.le_of_ble_eq_true rfl) (a_dec_at dc_Re_readLine 5 rfl) ?_
    refine CV.mono (fun mi2 ml2 z2 H => ?_) H
    refine ev_goto (tgt := 98) (a_dec_at dc_Re_readLine 6 rfl) (by decide) ?_
    exact m_retV (a_dec_at dc_Re_readLine 26 rfl) rfl H
  have H := H.2
  by_cases e3 : (mi 12 3) = 4
  · have H := H.1 e3
    refine ev_lookup (off := 48) (tgt := 55) (a_dec_at dc_Re_readLine 3 rfl) (by decide) (by rw [e3]; decide) (by decide) ?_
    refine ev_aload_n (i := 0) rfl rfl (a_dec_at dc_Re_readLine 7 rfl) ?_
    refine cV0V cs_Re_47 sh13 rfl (Nat.le_of_ble_eq_true rfl) (Nat.le_of_ble_eq_true rfl) (a_dec_at dc_Re_readLine 8 rfl) ?_
    refine CV.mono (fun mi4 ml4 z4 H => ?_) H
    refine ev_goto (tgt := 98) (a_dec_at dc_Re_readLine 9 rfl) (by decide) ?_
    exact m_retV (a_dec_at dc_Re_readLine 26 rfl) rfl H
  have H := H.2
  by_cases e5 : (mi 12 3) = 11
  · have H := H.1 e5
    refine ev_lookup (off := 55) (tgt := 62) (a_dec_at dc_Re_readLine 3 rfl) (by decide) (by rw [e5]; decide) (by decide) ?_
    refine ev_aload_n (i := 0) rfl rfl (a_dec_at dc_Re_readLine 10 rfl) ?_
    refine m_getR (y := 3) fl_Re_15 rfl sh13 (mr_13_1 _) (by decide) (a_dec_at dc_Re_readLine 11 rfl) ?_
    refine ev_aload_n (i := 0) rfl rfl (a_dec_at dc_Re_readLine 12 rfl) ?_
    refine cV0I cs_Re_50 sh13 rfl (Nat.le_of_ble_eq_true rfl) (Nat.le_of_ble_eq_true rfl) (a_dec_at dc_Re_readLine 13 rfl) ?_
    refine CI.mono (fun x6 mi6 ml6 z6 H => ?_) H
    refine m_putI fl_Re_54 rfl (fun _ _ _ h => by cases h; exact Or.inl rfl) sh3 (a_dec_at dc_Re_readLine 14 rfl) ?_
    refine ev_goto (tgt := 98) (a_dec_at dc_Re_readLine 15 rfl) (by decide) ?_
    exact m_retV (a_dec_at dc_Re_readLine 26 rfl) rfl H
  have H := H.2
  by_cases e7 : (mi 12 3) = 12
  · have H := H.1 e7
    refine ev_lookup (off := 69) (tgt := 76) (a_dec_at dc_Re_readLine 3 rfl) (by decide) (by rw [e7]; decide) (by decide) ?_
    refine ev_aload_n (i := 0) rfl rfl (a_dec_at dc_Re_readLine 16 rfl) ?_
    refine m_getR (y := 3) fl_Re_15 rfl sh13 (mr_13_1 _) (by decide) (a_dec_at dc_Re_readLine 17 rfl) ?_
    refine ev_aload_n (i := 0) rfl rfl (a_dec_at dc_Re_readLine 18 rfl) ?_
    refine cV0I cs_Re_50 sh13 rfl (Nat.le_of_ble_eq_true rfl) (Nat.le_of_ble_eq_true rfl) (a_dec_at dc_Re_readLine 19 rfl) ?_
    refine CI.mono (fun x8 mi8 ml8 z8 H => ?_) H
    refine m_putI fl_Re_57 rfl (fun _ _ _ h => by cases h; exact Or.inl rfl) sh3 (a_dec_at dc_Re_readLine 20 rfl) ?_
    refine ev_goto (tgt := 98) (a_dec_at dc_Re_readLine 21 rfl) (by decide) ?_
    exact m_retV (a_dec_at dc_Re_readLine 26 rfl) rfl H
  have H := H.2
  refine ev_lookup (off := 83) (tgt := 90) (a_dec_at dc_Re_readLine 3 rfl) (by decide) (by refine (lv_osw (k := 1) e1 (by decide)).trans ?_; refine (lv_osw (k := 4) e3 (by decide)).trans ?_; refine (lv_osw (k := 11) e5 (by decide)).trans ?_; refine (lv_osw (k := 12) e7 (by decide)).trans ?_; rfl) (by decide) ?_
  have H := H e1 e3 e5 e7
  refine ev_aload_n (i := 0) rfl rfl (a_dec_at dc_Re_readLine 22 rfl) ?_
  refine m_getR (y := 12) fl_Re_9 rfl sh13 (mr_13_0 _) (by decide) (a_dec_at dc_Re_readLine 23 rfl) ?_
  refine ev_iconst (v := 2) rfl (a_dec_at dc_Re_readLine 24 rfl) ?_
  refine cV1V cs_Re_60 sh12 rfl (Nat.le_of_ble_eq_true rfl) (Nat.le_of_ble_eq_true rfl) (a_dec_at dc_Re_readLine 25 rfl) ?_
  refine CV.mono (fun mi9 ml9 z9 H => ?_) H
  exact m_retV (a_dec_at dc_Re_readLine 26 rfl) rfl H
set_option maxRecDepth 20000 in
theorem t_Re_readBeck {l : Launch} {h : Nat} (mi : TMi) (ml : TMl) (z : Nat) {Q : TMi → TMl → Nat → Prop} (H : CI l h m_La_addBeck [.ref 3] mi ml z (fun x1 mi1 ml1 z1 => ((¬ x1 = (-1) → CV l h m_To_advance [.ref 12] mi1 ml1 z1 (fun mi3 ml3 z3 => CV l h m_To_expect [.ref 12, .int 2] mi3 ml3 z3 (fun mi4 ml4 z4 => CI l h m_To_expectNumber [.ref 12, .int 9] mi4 ml4 z4 (fun x5 mi5 ml5 z5 => (vp_in x1 6) ∧ Ev l (h + 1) m_Re_readBeck 57 ([.ref 13, .int x1, .int 0], [], st (up mi5 4 x1.toNatClampNeg x5) ml5 z5) (qV Q))))) ∧ (x1 = (-1) → CV l h m_To_refuse [.ref 12, .int 4] mi1 ml1 z1 (fun mi7 ml7 z7 => Q mi7 ml7 z7))))) : CV l (h + 1) m_Re_readBeck [.ref 13] mi ml z Q := by
  show Ev l (h + 1) m_Re_readBeck 0 ([.ref 13, .retAddr 0, .retAddr 0], [], st mi ml z) (qV Q)
  refine ev_aload_n (i := 0) rfl rfl (a_dec_at dc_Re_readBeck 0 rfl) ?_
  refine m_getR (y := 3) fl_Re_15 rfl sh13 (mr_13_1 _) (by decide) (a_dec_at dc_Re_readBeck 1 rfl) ?_
  refine cV0I cs_Re_63 sh3 rfl (Nat.le_of_ble_eq_true rfl) (Nat.le_of_ble_eq_true rfl) (a_dec_at dc_Re_readBeck 2 rfl) ?_
  refine CI.mono (fun x1 mi1 ml1 z1 H => ?_) H
  refine ev_istore_n (i := 1) rfl (by decide) rfl (a_dec_at dc_Re_readBeck 3 rfl) ?_
  refine ev_iload_n (i := 1) rfl rfl (a_dec_at dc_Re_readBeck 4 rfl) ?_
  refine ev_iconst (v := (-1)) rfl (a_dec_at dc_Re_readBeck 5 rfl) ?_
  refine ev_icmp_ne (tgt := 22) (a_dec_at dc_Re_readBeck 6 rfl) (by decide) (fun b2 => ?_) (fun b2 => ?_)
  · have H := H.1 b2
    refine ev_aload_n (i := 0) rfl rfl (a_dec_at dc_Re_readBeck 12 rfl) ?_
    refine m_getR (y := 12) fl_Re_9 rfl sh13 (mr_13_0 _) (by decide) (a_dec_at dc_Re_readBeck 13 rfl) ?_
    refine cV0V cs_Re_66 sh12 rfl (Nat.le_of_ble_eq_true rfl) (Nat.le_of_ble_eq_true rfl) (a_dec_at dc_Re_readBeck 14 rfl) ?_
    refine CV.mono (fun mi3 ml3 z3 H => ?_) H
    refine ev_aload_n (i := 0) rfl rfl (a_dec_at dc_Re_readBeck 15 rfl) ?_
    refine m_getR (y := 12) fl_Re_9 rfl sh13 (mr_13_0 _) (by decide) (a_dec_at dc_Re_readBeck 16 rfl) ?_
    refine ev_iconst (v := 2) rfl (a_dec_at dc_Re_readBeck 17 rfl) ?_
    refine cV1V cs_Re_26 sh12 rfl (Nat.le_of_ble_eq_true rfl) (Nat.le_of_ble_eq_true rfl) (a_dec_at dc_Re_readBeck 18 rfl) ?_
    refine CV.mono (fun mi4 ml4 z4 H => ?_) H
    refine ev_aload_n (i := 0) rfl rfl (a_dec_at dc_Re_readBeck 19 rfl) ?_
    refine m_getR (y := 3) fl_Re_15 rfl sh13 (mr_13_1 _) (by decide) (a_dec_at dc_Re_readBeck 20 rfl) ?_
    refine m_getR (y := 4) fl_Re_69 rfl sh3 (mr_3_3 _) (by decide) (a_dec_at dc_Re_readBeck 21 rfl) ?_
    refine ev_iload_n (i := 1) rfl rfl (a_dec_at dc_Re_readBeck 22 rfl) ?_
    refine ev_aload_n (i := 0) rfl rfl (a_dec_at dc_Re_readBeck 23 rfl) ?_
    refine m_getR (y := 12) fl_Re_9 rfl sh13 (mr_13_0 _) (by decide) (a_dec_at dc_Re_readBeck 24 rfl) ?_
    refine ev_bipush (v := 9) rfl (a_dec_at dc_Re_readBeck 25 rfl) ?_
    refine cV1I cs_Re_73 sh12 rfl (Nat.le_of_ble_eq_true rfl) (Nat.le_of_ble_eq_true rfl) (a_dec_at dc_Re_readBeck 26 rfl) ?_
    refine CI.mono (fun x5 mi5 ml5 z5 H => ?_) H
    obtain ⟨c6, H⟩ := H
    refine w_iast (k := x1.toNatClampNeg) sh4 c6 rfl (a_dec_at dc_Re_readBeck 27 rfl) ?_
    refine ev_iconst (v := 0) rfl (a_dec_at dc_Re_readBeck 28 rfl) ?_
    refine ev_istore_n (i := 2) rfl (by decide) rfl (a_dec_at dc_Re_readBeck 29 rfl) ?_
    exact Ev.drop (L' := [.ref 13, .int x1, .int 0]) (And.intro rfl (And.intro rfl (And.intro rfl trivial))) H
  · have H := H.2 b2
    refine ev_aload_n (i := 0) rfl rfl (a_dec_at dc_Re_readBeck 7 rfl) ?_
    refine m_getR (y := 12) fl_Re_9 rfl sh13 (mr_13_0 _) (by decide) (a_dec_at dc_Re_readBeck 8 rfl) ?_
    refine ev_iconst (v := 4) rfl (a_dec_at dc_Re_readBeck 9 rfl) ?_
    refine cV1V cs_Re_60 sh12 rfl (Nat.le_of_ble_eq_true rfl) (Nat.le_of_ble_eq_true rfl) (a_dec_at dc_Re_readBeck 10 rfl) ?_
    refine CV.mono (fun mi7 ml7 z7 H => ?_) H
    exact m_retV (a_dec_at dc_Re_readBeck 11 rfl) rfl H
set_option maxRecDepth 20000 in
theorem t_Re_readBeck_57 {l : Launch} {h : Nat} (mi : TMi) (ml : TMl) (z : Nat) (v1 : Int32) (v2 : Int32) {Q : TMi → TMl → Nat → Prop} (H : ((900 ≤ v2 → Q mi ml z) ∧ (¬ 900 ≤ v2 → CI l h m_To_sees [.ref 12, .int 3] mi ml z (fun x2 mi2 ml2 z2 => ((x2 = 0 → CI l h m_To_sees [.ref 12, .int 7] mi2 ml2 z2 (fun x4 mi4 ml4 z4 => ((x4 = 0 → CI l h m_To_sees [.ref 12, .int 8] mi4 ml4 z4 (fun x6 mi6 ml6 z6 => ((x6 = 0 → Q mi6 ml6 z6) ∧ (¬ x6 = 0 → CV l h m_To_advance [.ref 12] mi6 ml6 z6 (fun mi8 ml8 z8 => CV l h m_Re_readTo [.ref 13, .int v1] mi8 ml8 z8 (fun mi9 ml9 z9 => Ev l (h + 1) m_Re_readBeck 57 ([.ref 13, .int v1, .int (v2 + 1)], [], st mi9 ml9 z9) (qV Q))))))) ∧ (¬ x4 = 0 → CV l h m_To_advance [.ref 12] mi4 ml4 z4 (fun mi10 ml10 z10 => CI l h m_To_expectNumber [.ref 12, .int 10] mi10 ml10 z10 (fun x11 mi11 ml11 z11 => (vp_in v1 6) ∧ Ev l (h + 1) m_Re_readBeck 57 ([.ref 13, .int v1, .int (v2 + 1)], [], st (up mi11 6 v1.toNatClampNeg x11) ml11 z11) (qV Q))))))) ∧ (¬ x2 = 0 → CV l h m_To_advance [.ref 12] mi2 ml2 z2 (fun mi13 ml13 z13 => CI l h m_To_expectNumber [.ref 12, .int 9] mi13 ml13 z13 (fun x14 mi14 ml14 z14 => (vp_in v1 6) ∧ Ev l (h + 1) m_Re_readBeck 57 ([.ref 13, .int v1, .int (v2 + 1)], [], st (up mi14 5 v1.toNatClampNeg x14) ml14 z14) (qV Q))))))))) : Ev l (h + 1) m_Re_readBeck 57 ([.ref 13, .int v1, .int v2], [], st mi ml z) (qV Q) := by
  refine ev_iload_n (i := 2) rfl rfl (a_dec_at dc_Re_readBeck 30 rfl) ?_
  refine ev_sipush (v := 900) rfl (a_dec_at dc_Re_readBeck 31 rfl) ?_
  refine ev_icmp_ge (tgt := 177) (a_dec_at dc_Re_readBeck 32 rfl) (by decide) (fun b1 => ?_) (fun b1 => ?_)
  · have H := H.1 b1
    exact m_retV (a_dec_at dc_Re_readBeck 84 rfl) rfl H
  · have H := H.2 b1
    refine ev_aload_n (i := 0) rfl rfl (a_dec_at dc_Re_readBeck 33 rfl) ?_
    refine m_getR (y := 12) fl_Re_9 rfl sh13 (mr_13_0 _) (by decide) (a_dec_at dc_Re_readBeck 34 rfl) ?_
    refine ev_iconst (v := 3) rfl (a_dec_at dc_Re_readBeck 35 rfl) ?_
    refine cV1I cs_Re_77 sh12 rfl (Nat.le_of_ble_eq_true rfl) (Nat.le_of_ble_eq_true rfl) (a_dec_at dc_Re_readBeck 36 rfl) ?_
    refine CI.mono (fun x2 mi2 ml2 z2 H => ?_) H
    refine ev_if_eq (tgt := 103) (a_dec_at dc_Re_readBeck 37 rfl) (by decide) (fun b3 => ?_) (fun b3 => ?_)
    · have H := H.1 b3
      refine ev_aload_n (i := 0) rfl rfl (a_dec_at dc_Re_readBeck 51 rfl) ?_
      refine m_getR (y := 12) fl_Re_9 rfl sh13 (mr_13_0 _) (by decide) (a_dec_at dc_Re_readBeck 52 rfl) ?_
      refine ev_bipush (v := 7) rfl (a_dec_at dc_Re_readBeck 53 rfl) ?_
      refine cV1I cs_Re_77 sh12 rfl (Nat.le_of_ble_eq_true rfl) (Nat.le_of_ble_eq_true rfl) (a_dec_at dc_Re_readBeck 54 rfl) ?_
      refine CI.mono (fun x4 mi4 ml4 z4 H => ?_) H
      refine ev_if_eq (tgt := 143) (a_dec_at dc_Re_readBeck 55 rfl) (by decide) (fun b5 => ?_) (fun b5 => ?_)
      · have H := H.1 b5
        refine ev_aload_n (i := 0) rfl rfl (a_dec_at dc_Re_readBeck 69 rfl) ?_
        refine m_getR (y := 12) fl_Re_9 rfl sh13 (mr_13_0 _) (by decide) (a_dec_at dc_Re_readBeck 70 rfl) ?_
        refine ev_bipush (v := 8) rfl (a_dec_at dc_Re_readBeck 71 rfl) ?_
        refine cV1I cs_Re_77 sh12 rfl (Nat.le_of_ble_eq_true rfl) (Nat.le_of_ble_eq_true rfl) (a_dec_at dc_Re_readBeck 72 rfl) ?_
        refine CI.mono (fun x6 mi6 ml6 z6 H => ?_) H
        refine ev_if_eq (tgt := 170) (a_dec_at dc_Re_readBeck 73 rfl) (by decide) (fun b7 => ?_) (fun b7 => ?_)
        · have H := H.1 b7
          exact m_retV (a_dec_at dc_Re_readBeck 81 rfl) rfl H
        · have H := H.2 b7
          refine ev_aload_n (i := 0) rfl rfl (a_dec_at dc_Re_readBeck 74 rfl) ?_
          refine m_getR (y := 12) fl_Re_9 rfl sh13 (mr_13_0 _) (by decide) (a_dec_at dc_Re_readBeck 75 rfl) ?_
          refine cV0V cs_Re_66 sh12 rfl (Nat.le_of_ble_eq_true rfl) (Nat.le_of_ble_eq_true rfl) (a_dec_at dc_Re_readBeck 76 rfl) ?_
          refine CV.mono (fun mi8 ml8 z8 H => ?_) H
          refine ev_aload_n (i := 0) rfl rfl (a_dec_at dc_Re_readBeck 77 rfl) ?_
          refine ev_iload_n (i := 1) rfl rfl (a_dec_at dc_Re_readBeck 78 rfl) ?_
          refine cV1V cs_Re_87 sh13 rfl (Nat.le_of_ble_eq_true rfl) (Nat.le_of_ble_eq_true rfl) (a_dec_at dc_Re_readBeck 79 rfl) ?_
          refine CV.mono (fun mi9 ml9 z9 H => ?_) H
          refine ev_goto (tgt := 171) (a_dec_at dc_Re_readBeck 80 rfl) (by decide) ?_
          refine ev_iinc (v := 1) rfl rfl (by decide) rfl (a_dec_at dc_Re_readBeck 82 rfl) ?_
          refine ev_goto (tgt := 57) (a_dec_at dc_Re_readBeck 83 rfl) (by decide) ?_
          exact Ev.drop (L' := [.ref 13, .int v1, .int (v2 + 1)]) (And.intro rfl (And.intro rfl (And.intro rfl trivial))) H
      · have H := H.2 b5
        refine ev_aload_n (i := 0) rfl rfl (a_dec_at dc_Re_readBeck 56 rfl) ?_
        refine m_getR (y := 12) fl_Re_9 rfl sh13 (mr_13_0 _) (by decide) (a_dec_at dc_Re_readBeck 57 rfl) ?_
        refine cV0V cs_Re_66 sh12 rfl (Nat.le_of_ble_eq_true rfl) (Nat.le_of_ble_eq_true rfl) (a_dec_at dc_Re_readBeck 58 rfl) ?_
        refine CV.mono (fun mi10 ml10 z10 H => ?_) H
        refine ev_aload_n (i := 0) rfl rfl (a_dec_at dc_Re_readBeck 59 rfl) ?_
        refine m_getR (y := 3) fl_Re_15 rfl sh13 (mr_13_1 _) (by decide) (a_dec_at dc_Re_readBeck 60 rfl) ?_
        refine m_getR (y := 6) fl_Re_84 rfl sh3 (mr_3_5 _) (by decide) (a_dec_at dc_Re_readBeck 61 rfl) ?_
        refine ev_iload_n (i := 1) rfl rfl (a_dec_at dc_Re_readBeck 62 rfl) ?_
        refine ev_aload_n (i := 0) rfl rfl (a_dec_at dc_Re_readBeck 63 rfl) ?_
        refine m_getR (y := 12) fl_Re_9 rfl sh13 (mr_13_0 _) (by decide) (a_dec_at dc_Re_readBeck 64 rfl) ?_
        refine ev_bipush (v := 10) rfl (a_dec_at dc_Re_readBeck 65 rfl) ?_
        refine cV1I cs_Re_73 sh12 rfl (Nat.le_of_ble_eq_true rfl) (Nat.le_of_ble_eq_true rfl) (a_dec_at dc_Re_readBeck 66 rfl) ?_
        refine CI.mono (fun x11 mi11 ml11 z11 H => ?_) H
        obtain ⟨c12, H⟩ := H
        refine w_iast (k := v1.toNatClampNeg) sh6 c12 rfl (a_dec_at dc_Re_readBeck 67 rfl) ?_
        refine ev_goto (tgt := 171) (a_dec_at dc_Re_readBeck 68 rfl) (by decide) ?_
        refine ev_iinc (v := 1) rfl rfl (by decide) rfl (a_dec_at dc_Re_readBeck 82 rfl) ?_
        refine ev_goto (tgt := 57) (a_dec_at dc_Re_readBeck 83 rfl) (by decide) ?_
        exact Ev.drop (L' := [.ref 13, .int v1, .int (v2 + 1)]) (And.intro rfl (And.intro rfl (And.intro rfl trivial))) H
    · have H := H.2 b3
      refine ev_aload_n (i := 0) rfl rfl (a_dec_at dc_Re_readBeck 38 rfl) ?_
      refine m_getR (y := 12) fl_Re_9 rfl sh13 (mr_13_0 _) (by decide) (a_dec_at dc_Re_readBeck 39 rfl) ?_
      refine cV0V cs_Re_66 sh12 rfl (Nat.le_of_ble_eq_true rfl) (Nat.le_of_ble_eq_true rfl) (a_dec_at dc_Re_readBeck 40 rfl) ?_
      refine CV.mono (fun mi13 ml13 z13 H => ?_) H
      refine ev_aload_n (i := 0) rfl rfl (a_dec_at dc_Re_readBeck 41 rfl) ?_
      refine m_getR (y := 3) fl_Re_15 rfl sh13 (mr_13_1 _) (by decide) (a_dec_at dc_Re_readBeck 42 rfl) ?_
      refine m_getR (y := 5) fl_Re_81 rfl sh3 (mr_3_4 _) (by decide) (a_dec_at dc_Re_readBeck 43 rfl) ?_
      refine ev_iload_n (i := 1) rfl rfl (a_dec_at dc_Re_readBeck 44 rfl) ?_
      refine ev_aload_n (i := 0) rfl rfl (a_dec_at dc_Re_readBeck 45 rfl) ?_
      refine m_getR (y := 12) fl_Re_9 rfl sh13 (mr_13_0 _) (by decide) (a_dec_at dc_Re_readBeck 46 rfl) ?_
      refine ev_bipush (v := 9) rfl (a_dec_at dc_Re_readBeck 47 rfl) ?_
      refine cV1I cs_Re_73 sh12 rfl (Nat.le_of_ble_eq_true rfl) (Nat.le_of_ble_eq_true rfl) (a_dec_at dc_Re_readBeck 48 rfl) ?_
      refine CI.mono (fun x14 mi14 ml14 z14 H => ?_) H
      obtain ⟨c15, H⟩ := H
      refine w_iast (k := v1.toNatClampNeg) sh5 c15 rfl (a_dec_at dc_Re_readBeck 49 rfl) ?_
      refine ev_goto (tgt := 171) (a_dec_at dc_Re_readBeck 50 rfl) (by decide) ?_
      refine ev_iinc (v := 1) rfl rfl (by decide) rfl (a_dec_at dc_Re_readBeck 82 rfl) ?_
      refine ev_goto (tgt := 57) (a_dec_at dc_Re_readBeck 83 rfl) (by decide) ?_
      exact Ev.drop (L' := [.ref 13, .int v1, .int (v2 + 1)]) (And.intro rfl (And.intro rfl (And.intro rfl trivial))) H
set_option maxRecDepth 20000 in
theorem t_Re_readTo {l : Launch} {h : Nat} (mi : TMi) (ml : TMl) (z : Nat) (a1 : Int32) {Q : TMi → TMl → Nat → Prop} (H : (vp_in a1 6) ∧ CI l h m_To_sees [.ref 12, .int 21] (up mi 7 a1.toNatClampNeg (-1)) ml z (fun x2 mi2 ml2 z2 => ((¬ x2 = 0 → CI l h m_La_hasRoomFor [.ref 3, .int (mi2 12 5)] mi2 ml2 z2 (fun x4 mi4 ml4 z4 => ((¬ x4 = 0 → (vp_in a1 6) ∧ CV l h m_To_advance [.ref 12] (up mi4 7 a1.toNatClampNeg (mi4 12 5)) ml4 z4 (fun mi7 ml7 z7 => Q mi7 ml7 z7)) ∧ (x4 = 0 → CV l h m_To_refuse [.ref 12, .int 3] mi4 ml4 z4 (fun mi8 ml8 z8 => Q mi8 ml8 z8))))) ∧ (x2 = 0 → CV l h m_To_refuse [.ref 12, .int 2] mi2 ml2 z2 (fun mi9 ml9 z9 => Q mi9 ml9 z9))))) : CV l (h + 1) m_Re_readTo [.ref 13, .int a1] mi ml z Q := by
  show Ev l (h + 1) m_Re_readTo 0 ([.ref 13, .int a1], [], st mi ml z) (qV Q)
  refine ev_aload_n (i := 0) rfl rfl (a_dec_at dc_Re_readTo 0 rfl) ?_
  refine m_getR (y := 3) fl_Re_15 rfl sh13 (mr_13_1 _) (by decide) (a_dec_at dc_Re_readTo 1 rfl) ?_
  refine m_getR (y := 7) fl_Re_90 rfl sh3 (mr_3_6 _) (by decide) (a_dec_at dc_Re_readTo 2 rfl) ?_
  refine ev_iload_n (i := 1) rfl rfl (a_dec_at dc_Re_readTo 3 rfl) ?_
  refine ev_iconst (v := (-1)) rfl (a_dec_at dc_Re_readTo 4 rfl) ?_
  obtain ⟨c1, H⟩ := H
  refine w_iast (k := a1.toNatClampNeg) sh7 c1 rfl (a_dec_at dc_Re_readTo 5 rfl) ?_
  refine ev_aload_n (i := 0) rfl rfl (a_dec_at dc_Re_readTo 6 rfl) ?_
  refine m_getR (y := 12) fl_Re_9 rfl sh13 (mr_13_0 _) (by decide) (a_dec_at dc_Re_readTo 7 rfl) ?_
  refine ev_bipush (v := 21) rfl (a_dec_at dc_Re_readTo 8 rfl) ?_
  refine cV1I cs_Re_77 sh12 rfl (Nat.le_of_ble_eq_true rfl) (Nat.le_of_ble_eq_true rfl) (a_dec_at dc_Re_readTo 9 rfl) ?_
  refine CI.mono (fun x2 mi2 ml2 z2 H => ?_) H
  refine ev_if_ne (tgt := 33) (a_dec_at dc_Re_readTo 10 rfl) (by decide) (fun b3 => ?_) (fun b3 => ?_)
  · have H := H.1 b3
    refine ev_aload_n (i := 0) rfl rfl (a_dec_at dc_Re_readTo 16 rfl) ?_
    refine m_getR (y := 3) fl_Re_15 rfl sh13 (mr_13_1 _) (by decide) (a_dec_at dc_Re_readTo 17 rfl) ?_
    refine ev_aload_n (i := 0) rfl rfl (a_dec_at dc_Re_readTo 18 rfl) ?_
    refine m_getR (y := 12) fl_Re_9 rfl sh13 (mr_13_0 _) (by decide) (a_dec_at dc_Re_readTo 19 rfl) ?_
    refine m_getI fl_Re_93 rfl sh12 (a_dec_at dc_Re_readTo 20 rfl) ?_
    refine cV1I cs_Re_96 sh3 rfl (Nat.le_of_ble_eq_true rfl) (Nat.le_of_ble_eq_true rfl) (a_dec_at dc_Re_readTo 21 rfl) ?_
    refine CI.mono (fun x4 mi4 ml4 z4 H => ?_) H
    refine ev_if_ne (tgt := 61) (a_dec_at dc_Re_readTo 22 rfl) (by decide) (fun b5 => ?_) (fun b5 => ?_)
    · have H := H.1 b5
      refine ev_aload_n (i := 0) rfl rfl (a_dec_at dc_Re_readTo 28 rfl) ?_
      refine m_getR (y := 3) fl_Re_15 rfl sh13 (mr_13_1 _) (by decide) (a_dec_at dc_Re_readTo 29 rfl) ?_
      refine m_getR (y := 7) fl_Re_90 rfl sh3 (mr_3_6 _) (by decide) (a_dec_at dc_Re_readTo 30 rfl) ?_
      refine ev_iload_n (i := 1) rfl rfl (a_dec_at dc_Re_readTo 31 rfl) ?_
      refine ev_aload_n (i := 0) rfl rfl (a_dec_at dc_Re_readTo 32 rfl) ?_
      refine m_getR (y := 12) fl_Re_9 rfl sh13 (mr_13_0 _) (by decide) (a_dec_at dc_Re_readTo 33 rfl) ?_
      refine m_getI fl_Re_93 rfl sh12 (a_dec_at dc_Re_readTo 34 rfl) ?_
      obtain ⟨c6, H⟩ := H
      refine w_iast (k := a1.toNatClampNeg) sh7 c6 rfl (a_dec_at dc_Re_readTo 35 rfl) ?_
      refine ev_aload_n (i := 0) rfl rfl (a_dec_at dc_Re_readTo 36 rfl) ?_
      refine m_getR (y := 12) fl_Re_9 rfl sh13 (mr_13_0 _) (by decide) (a_dec_at dc_Re_readTo 37 rfl) ?_
      refine cV0V cs_Re_66 sh12 rfl (Nat.le_of_ble_eq_true rfl) (Nat.le_of_ble_eq_true rfl) (a_dec_at dc_Re_readTo 38 rfl) ?_
      refine CV.mono (fun mi7 ml7 z7 H => ?_) H
      exact m_retV (a_dec_at dc_Re_readTo 39 rfl) rfl H
    · have H := H.2 b5
      refine ev_aload_n (i := 0) rfl rfl (a_dec_at dc_Re_readTo 23 rfl) ?_
      refine m_getR (y := 12) fl_Re_9 rfl sh13 (mr_13_0 _) (by decide) (a_dec_at dc_Re_readTo 24 rfl) ?_
      refine ev_iconst (v := 3) rfl (a_dec_at dc_Re_readTo 25 rfl) ?_
      refine cV1V cs_Re_60 sh12 rfl (Nat.le_of_ble_eq_true rfl) (Nat.le_of_ble_eq_true rfl) (a_dec_at dc_Re_readTo 26 rfl) ?_
      refine CV.mono (fun mi8 ml8 z8 H => ?_) H
      refine ev_goto (tgt := 84) (a_dec_at dc_Re_readTo 27 rfl) (by decide) ?_
      exact m_retV (a_dec_at dc_Re_readTo 39 rfl) rfl H
  · have H := H.2 b3
    refine ev_aload_n (i := 0) rfl rfl (a_dec_at dc_Re_readTo 11 rfl) ?_
    refine m_getR (y := 12) fl_Re_9 rfl sh13 (mr_13_0 _) (by decide) (a_dec_at dc_Re_readTo 12 rfl) ?_
    refine ev_iconst (v := 2) rfl (a_dec_at dc_Re_readTo 13 rfl) ?_
    refine cV1V cs_Re_60 sh12 rfl (Nat.le_of_ble_eq_true rfl) (Nat.le_of_ble_eq_true rfl) (a_dec_at dc_Re_readTo 14 rfl) ?_
    refine CV.mono (fun mi9 ml9 z9 H => ?_) H
    refine ev_goto (tgt := 84) (a_dec_at dc_Re_readTo 15 rfl) (by decide) ?_
    exact m_retV (a_dec_at dc_Re_readTo 39 rfl) rfl H
set_option maxRecDepth 20000 in
theorem t_Re_readRiver {l : Launch} {h : Nat} (mi : TMi) (ml : TMl) (z : Nat) {Q : TMi → TMl → Nat → Prop} (H : CI l h m_La_addRiver [.ref 3] mi ml z (fun x1 mi1 ml1 z1 => ((¬ x1 = (-1) → CV l h m_To_advance [.ref 12] mi1 ml1 z1 (fun mi3 ml3 z3 => CV l h m_To_expect [.ref 12, .int 9] mi3 ml3 z3 (fun mi4 ml4 z4 => CI l h m_To_expectNumber [.ref 12, .int 6] mi4 ml4 z4 (fun x5 mi5 ml5 z5 => (vp_in x1 4) ∧ Ev l (h + 1) m_Re_readRiver 58 ([.ref 13, .int x1, .int 0], [], st (up mi5 8 x1.toNatClampNeg x5) ml5 z5) (qV Q))))) ∧ (x1 = (-1) → CV l h m_To_refuse [.ref 12, .int 4] mi1 ml1 z1 (fun mi7 ml7 z7 => Q mi7 ml7 z7))))) : CV l (h + 1) m_Re_readRiver [.ref 13] mi ml z Q := by
  show Ev l (h + 1) m_Re_readRiver 0 ([.ref 13, .retAddr 0, .retAddr 0], [], st mi ml z) (qV Q)
  refine ev_aload_n (i := 0) rfl rfl (a_dec_at dc_Re_readRiver 0 rfl) ?_
  refine m_getR (y := 3) fl_Re_15 rfl sh13 (mr_13_1 _) (by decide) (a_dec_at dc_Re_readRiver 1 rfl) ?_
  refine cV0I cs_Re_99 sh3 rfl (Nat.le_of_ble_eq_true rfl) (Nat.le_of_ble_eq_true rfl) (a_dec_at dc_Re_readRiver 2 rfl) ?_
  refine CI.mono (fun x1 mi1 ml1 z1 H => ?_) H
  refine ev_istore_n (i := 1) rfl (by decide) rfl (a_dec_at dc_Re_readRiver 3 rfl) ?_
  refine ev_iload_n (i := 1) rfl rfl (a_dec_at dc_Re_readRiver 4 rfl) ?_
  refine ev_iconst (v := (-1)) rfl (a_dec_at dc_Re_readRiver 5 rfl) ?_
  refine ev_icmp_ne (tgt := 22) (a_dec_at dc_Re_readRiver 6 rfl) (by decide) (fun b2 => ?_) (fun b2 => ?_)
  · have H := H.1 b2
    refine ev_aload_n (i := 0) rfl rfl (a_dec_at dc_Re_readRiver 12 rfl) ?_
    refine m_getR (y := 12) fl_Re_9 rfl sh13 (mr_13_0 _) (by decide) (a_dec_at dc_Re_readRiver 13 rfl) ?_
    refine cV0V cs_Re_66 sh12 rfl (Nat.le_of_ble_eq_true rfl) (Nat.le_of_ble_eq_true rfl) (a_dec_at dc_Re_readRiver 14 rfl) ?_
    refine CV.mono (fun mi3 ml3 z3 H => ?_) H
    refine ev_aload_n (i := 0) rfl rfl (a_dec_at dc_Re_readRiver 15 rfl) ?_
    refine m_getR (y := 12) fl_Re_9 rfl sh13 (mr_13_0 _) (by decide) (a_dec_at dc_Re_readRiver 16 rfl) ?_
    refine ev_bipush (v := 9) rfl (a_dec_at dc_Re_readRiver 17 rfl) ?_
    refine cV1V cs_Re_26 sh12 rfl (Nat.le_of_ble_eq_true rfl) (Nat.le_of_ble_eq_true rfl) (a_dec_at dc_Re_readRiver 18 rfl) ?_
    refine CV.mono (fun mi4 ml4 z4 H => ?_) H
    refine ev_aload_n (i := 0) rfl rfl (a_dec_at dc_Re_readRiver 19 rfl) ?_
    refine m_getR (y := 3) fl_Re_15 rfl sh13 (mr_13_1 _) (by decide) (a_dec_at dc_Re_readRiver 20 rfl) ?_
    refine m_getR (y := 8) fl_Re_102 rfl sh3 (mr_3_7 _) (by decide) (a_dec_at dc_Re_readRiver 21 rfl) ?_
    refine ev_iload_n (i := 1) rfl rfl (a_dec_at dc_Re_readRiver 22 rfl) ?_
    refine ev_aload_n (i := 0) rfl rfl (a_dec_at dc_Re_readRiver 23 rfl) ?_
    refine m_getR (y := 12) fl_Re_9 rfl sh13 (mr_13_0 _) (by decide) (a_dec_at dc_Re_readRiver 24 rfl) ?_
    refine ev_bipush (v := 6) rfl (a_dec_at dc_Re_readRiver 25 rfl) ?_
    refine cV1I cs_Re_73 sh12 rfl (Nat.le_of_ble_eq_true rfl) (Nat.le_of_ble_eq_true rfl) (a_dec_at dc_Re_readRiver 26 rfl) ?_
    refine CI.mono (fun x5 mi5 ml5 z5 H => ?_) H
    obtain ⟨c6, H⟩ := H
    refine w_iast (k := x1.toNatClampNeg) sh8 c6 rfl (a_dec_at dc_Re_readRiver 27 rfl) ?_
    refine ev_iconst (v := 0) rfl (a_dec_at dc_Re_readRiver 28 rfl) ?_
    refine ev_istore_n (i := 2) rfl (by decide) rfl (a_dec_at dc_Re_readRiver 29 rfl) ?_
    exact Ev.drop (L' := [.ref 13, .int x1, .int 0]) (And.intro rfl (And.intro rfl (And.intro rfl trivial))) H
  · have H := H.2 b2
    refine ev_aload_n (i := 0) rfl rfl (a_dec_at dc_Re_readRiver 7 rfl) ?_
    refine m_getR (y := 12) fl_Re_9 rfl sh13 (mr_13_0 _) (by decide) (a_dec_at dc_Re_readRiver 8 rfl) ?_
    refine ev_iconst (v := 4) rfl (a_dec_at dc_Re_readRiver 9 rfl) ?_
    refine cV1V cs_Re_60 sh12 rfl (Nat.le_of_ble_eq_true rfl) (Nat.le_of_ble_eq_true rfl) (a_dec_at dc_Re_readRiver 10 rfl) ?_
    refine CV.mono (fun mi7 ml7 z7 H => ?_) H
    exact m_retV (a_dec_at dc_Re_readRiver 11 rfl) rfl H
set_option maxRecDepth 20000 in
theorem t_Re_readRiver_58 {l : Launch} {h : Nat} (mi : TMi) (ml : TMl) (z : Nat) (v1 : Int32) (v2 : Int32) {Q : TMi → TMl → Nat → Prop} (H : ((900 ≤ v2 → Q mi ml z) ∧ (¬ 900 ≤ v2 → CI l h m_To_sees [.ref 12, .int 5] mi ml z (fun x2 mi2 ml2 z2 => ((x2 = 0 → CI l h m_To_sees [.ref 12, .int 10] mi2 ml2 z2 (fun x4 mi4 ml4 z4 => ((x4 = 0 → Q mi4 ml4 z4) ∧ (¬ x4 = 0 → CV l h m_To_advance [.ref 12] mi4 ml4 z4 (fun mi6 ml6 z6 => CI l h m_To_expectNumber [.ref 12, .int 99] mi6 ml6 z6 (fun x7 mi7 ml7 z7 => (vp_in v1 4) ∧ Ev l (h + 1) m_Re_readRiver 58 ([.ref 13, .int v1, .int (v2 + 1)], [], st (up mi7 10 v1.toNatClampNeg x7) ml7 z7) (qV Q))))))) ∧ (¬ x2 = 0 → CV l h m_To_advance [.ref 12] mi2 ml2 z2 (fun mi9 ml9 z9 => CI l h m_To_expectNumber [.ref 12, .int 9] mi9 ml9 z9 (fun x10 mi10 ml10 z10 => (vp_in v1 4) ∧ Ev l (h + 1) m_Re_readRiver 58 ([.ref 13, .int v1, .int (v2 + 1)], [], st (up mi10 9 v1.toNatClampNeg x10) ml10 z10) (qV Q))))))))) : Ev l (h + 1) m_Re_readRiver 58 ([.ref 13, .int v1, .int v2], [], st mi ml z) (qV Q) := by
  refine ev_iload_n (i := 2) rfl rfl (a_dec_at dc_Re_readRiver 30 rfl) ?_
  refine ev_sipush (v := 900) rfl (a_dec_at dc_Re_readRiver 31 rfl) ?_
  refine ev_icmp_ge (tgt := 151) (a_dec_at dc_Re_readRiver 32 rfl) (by decide) (fun b1 => ?_) (fun b1 => ?_)
  · have H := H.1 b1
    exact m_retV (a_dec_at dc_Re_readRiver 72 rfl) rfl H
  · have H := H.2 b1
    refine ev_aload_n (i := 0) rfl rfl (a_dec_at dc_Re_readRiver 33 rfl) ?_
    refine m_getR (y := 12) fl_Re_9 rfl sh13 (mr_13_0 _) (by decide) (a_dec_at dc_Re_readRiver 34 rfl) ?_
    refine ev_iconst (v := 5) rfl (a_dec_at dc_Re_readRiver 35 rfl) ?_
    refine cV1I cs_Re_77 sh12 rfl (Nat.le_of_ble_eq_true rfl) (Nat.le_of_ble_eq_true rfl) (a_dec_at dc_Re_readRiver 36 rfl) ?_
    refine CI.mono (fun x2 mi2 ml2 z2 H => ?_) H
    refine ev_if_eq (tgt := 104) (a_dec_at dc_Re_readRiver 37 rfl) (by decide) (fun b3 => ?_) (fun b3 => ?_)
    · have H := H.1 b3
      refine ev_aload_n (i := 0) rfl rfl (a_dec_at dc_Re_readRiver 51 rfl) ?_
      refine m_getR (y := 12) fl_Re_9 rfl sh13 (mr_13_0 _) (by decide) (a_dec_at dc_Re_readRiver 52 rfl) ?_
      refine ev_bipush (v := 10) rfl (a_dec_at dc_Re_readRiver 53 rfl) ?_
      refine cV1I cs_Re_77 sh12 rfl (Nat.le_of_ble_eq_true rfl) (Nat.le_of_ble_eq_true rfl) (a_dec_at dc_Re_readRiver 54 rfl) ?_
      refine CI.mono (fun x4 mi4 ml4 z4 H => ?_) H
      refine ev_if_eq (tgt := 144) (a_dec_at dc_Re_readRiver 55 rfl) (by decide) (fun b5 => ?_) (fun b5 => ?_)
      · have H := H.1 b5
        exact m_retV (a_dec_at dc_Re_readRiver 69 rfl) rfl H
      · have H := H.2 b5
        refine ev_aload_n (i := 0) rfl rfl (a_dec_at dc_Re_readRiver 56 rfl) ?_
        refine m_getR (y := 12) fl_Re_9 rfl sh13 (mr_13_0 _) (by decide) (a_dec_at dc_Re_readRiver 57 rfl) ?_
        refine cV0V cs_Re_66 sh12 rfl (Nat.le_of_ble_eq_true rfl) (Nat.le_of_ble_eq_true rfl) (a_dec_at dc_Re_readRiver 58 rfl) ?_
        refine CV.mono (fun mi6 ml6 z6 H => ?_) H
        refine ev_aload_n (i := 0) rfl rfl (a_dec_at dc_Re_readRiver 59 rfl) ?_
        refine m_getR (y := 3) fl_Re_15 rfl sh13 (mr_13_1 _) (by decide) (a_dec_at dc_Re_readRiver 60 rfl) ?_
        refine m_getR (y := 10) fl_Re_108 rfl sh3 (mr_3_9 _) (by decide) (a_dec_at dc_Re_readRiver 61 rfl) ?_
        refine ev_iload_n (i := 1) rfl rfl (a_dec_at dc_Re_readRiver 62 rfl) ?_
        refine ev_aload_n (i := 0) rfl rfl (a_dec_at dc_Re_readRiver 63 rfl) ?_
        refine m_getR (y := 12) fl_Re_9 rfl sh13 (mr_13_0 _) (by decide) (a_dec_at dc_Re_readRiver 64 rfl) ?_
        refine ev_bipush (v := 99) rfl (a_dec_at dc_Re_readRiver 65 rfl) ?_
        refine cV1I cs_Re_73 sh12 rfl (Nat.le_of_ble_eq_true rfl) (Nat.le_of_ble_eq_true rfl) (a_dec_at dc_Re_readRiver 66 rfl) ?_
        refine CI.mono (fun x7 mi7 ml7 z7 H => ?_) H
        obtain ⟨c8, H⟩ := H
        refine w_iast (k := v1.toNatClampNeg) sh10 c8 rfl (a_dec_at dc_Re_readRiver 67 rfl) ?_
        refine ev_goto (tgt := 145) (a_dec_at dc_Re_readRiver 68 rfl) (by decide) ?_
        refine ev_iinc (v := 1) rfl rfl (by decide) rfl (a_dec_at dc_Re_readRiver 70 rfl) ?_
        refine ev_goto (tgt := 58) (a_dec_at dc_Re_readRiver 71 rfl) (by decide) ?_
        exact Ev.drop (L' := [.ref 13, .int v1, .int (v2 + 1)]) (And.intro rfl (And.intro rfl (And.intro rfl trivial))) H
    · have H := H.2 b3
      refine ev_aload_n (i := 0) rfl rfl (a_dec_at dc_Re_readRiver 38 rfl) ?_
      refine m_getR (y := 12) fl_Re_9 rfl sh13 (mr_13_0 _) (by decide) (a_dec_at dc_Re_readRiver 39 rfl) ?_
      refine cV0V cs_Re_66 sh12 rfl (Nat.le_of_ble_eq_true rfl) (Nat.le_of_ble_eq_true rfl) (a_dec_at dc_Re_readRiver 40 rfl) ?_
      refine CV.mono (fun mi9 ml9 z9 H => ?_) H
      refine ev_aload_n (i := 0) rfl rfl (a_dec_at dc_Re_readRiver 41 rfl) ?_
      refine m_getR (y := 3) fl_Re_15 rfl sh13 (mr_13_1 _) (by decide) (a_dec_at dc_Re_readRiver 42 rfl) ?_
      refine m_getR (y := 9) fl_Re_105 rfl sh3 (mr_3_8 _) (by decide) (a_dec_at dc_Re_readRiver 43 rfl) ?_
      refine ev_iload_n (i := 1) rfl rfl (a_dec_at dc_Re_readRiver 44 rfl) ?_
      refine ev_aload_n (i := 0) rfl rfl (a_dec_at dc_Re_readRiver 45 rfl) ?_
      refine m_getR (y := 12) fl_Re_9 rfl sh13 (mr_13_0 _) (by decide) (a_dec_at dc_Re_readRiver 46 rfl) ?_
      refine ev_bipush (v := 9) rfl (a_dec_at dc_Re_readRiver 47 rfl) ?_
      refine cV1I cs_Re_73 sh12 rfl (Nat.le_of_ble_eq_true rfl) (Nat.le_of_ble_eq_true rfl) (a_dec_at dc_Re_readRiver 48 rfl) ?_
      refine CI.mono (fun x10 mi10 ml10 z10 H => ?_) H
      obtain ⟨c11, H⟩ := H
      refine w_iast (k := v1.toNatClampNeg) sh9 c11 rfl (a_dec_at dc_Re_readRiver 49 rfl) ?_
      refine ev_goto (tgt := 145) (a_dec_at dc_Re_readRiver 50 rfl) (by decide) ?_
      refine ev_iinc (v := 1) rfl rfl (by decide) rfl (a_dec_at dc_Re_readRiver 70 rfl) ?_
      refine ev_goto (tgt := 58) (a_dec_at dc_Re_readRiver 71 rfl) (by decide) ?_
      exact Ev.drop (L' := [.ref 13, .int v1, .int (v2 + 1)]) (And.intro rfl (And.intro rfl (And.intro rfl trivial))) H
set_option maxRecDepth 20000 in
theorem t_Re_readLaw {l : Launch} {h : Nat} (mi : TMi) (ml : TMl) (z : Nat) {Q : Int32 → TMi → TMl → Nat → Prop} (H : CV l h m_To_advance [.ref 12] mi ml z (fun mi1 ml1 z1 => CV l h m_To_expect [.ref 12, .int 58] mi1 ml1 z1 (fun mi2 ml2 z2 => CV l h m_Re_readSum [.ref 13, .int 0] mi2 ml2 z2 (fun mi3 ml3 z3 => CI l h m_La_addCode [.ref 3, .int 4000] mi3 ml3 z3 (fun x4 mi4 ml4 z4 => Q (mi2 3 11) mi4 ml4 z4))))) : CI l (h + 1) m_Re_readLaw [.ref 13] mi ml z Q := by
  show Ev l (h + 1) m_Re_readLaw 0 ([.ref 13, .retAddr 0], [], st mi ml z) (qI Q)
  refine ev_aload_n (i := 0) rfl rfl (a_dec_at dc_Re_readLaw 0 rfl) ?_
  refine m_getR (y := 12) fl_Re_9 rfl sh13 (mr_13_0 _) (by decide) (a_dec_at dc_Re_readLaw 1 rfl) ?_
  refine cV0V cs_Re_66 sh12 rfl (Nat.le_of_ble_eq_true rfl) (Nat.le_of_ble_eq_true rfl) (a_dec_at dc_Re_readLaw 2 rfl) ?_
  refine CV.mono (fun mi1 ml1 z1 H => ?_) H
  refine ev_aload_n (i := 0) rfl rfl (a_dec_at dc_Re_readLaw 3 rfl) ?_
  refine m_getR (y := 12) fl_Re_9 rfl sh13 (mr_13_0 _) (by decide) (a_dec_at dc_Re_readLaw 4 rfl) ?_
  refine ev_bipush (v := 58) rfl (a_dec_at dc_Re_readLaw 5 rfl) ?_
  refine cV1V cs_Re_26 sh12 rfl (Nat.le_of_ble_eq_true rfl) (Nat.le_of_ble_eq_true rfl) (a_dec_at dc_Re_readLaw 6 rfl) ?_
  refine CV.mono (fun mi2 ml2 z2 H => ?_) H
  refine ev_aload_n (i := 0) rfl rfl (a_dec_at dc_Re_readLaw 7 rfl) ?_
  refine m_getR (y := 3) fl_Re_15 rfl sh13 (mr_13_1 _) (by decide) (a_dec_at dc_Re_readLaw 8 rfl) ?_
  refine m_getI fl_Re_111 rfl sh3 (a_dec_at dc_Re_readLaw 9 rfl) ?_
  refine ev_istore_n (i := 1) rfl (by decide) rfl (a_dec_at dc_Re_readLaw 10 rfl) ?_
  refine ev_aload_n (i := 0) rfl rfl (a_dec_at dc_Re_readLaw 11 rfl) ?_
  refine ev_iconst (v := 0) rfl (a_dec_at dc_Re_readLaw 12 rfl) ?_
  refine cV1V cs_Re_114 sh13 rfl (Nat.le_of_ble_eq_true rfl) (Nat.le_of_ble_eq_true rfl) (a_dec_at dc_Re_readLaw 13 rfl) ?_
  refine CV.mono (fun mi3 ml3 z3 H => ?_) H
  refine ev_aload_n (i := 0) rfl rfl (a_dec_at dc_Re_readLaw 14 rfl) ?_
  refine m_getR (y := 3) fl_Re_15 rfl sh13 (mr_13_1 _) (by decide) (a_dec_at dc_Re_readLaw 15 rfl) ?_
  refine ev_sipush (v := 4000) rfl (a_dec_at dc_Re_readLaw 16 rfl) ?_
  refine cV1I cs_Re_119 sh3 rfl (Nat.le_of_ble_eq_true rfl) (Nat.le_of_ble_eq_true rfl) (a_dec_at dc_Re_readLaw 17 rfl) ?_
  refine CI.mono (fun x4 mi4 ml4 z4 H => ?_) H
  refine ev_pop rfl (a_dec_at dc_Re_readLaw 18 rfl) ?_
  refine ev_iload_n (i := 1) rfl rfl (a_dec_at dc_Re_readLaw 19 rfl) ?_
  exact m_retI (a_dec_at dc_Re_readLaw 20 rfl) rfl rfl H
set_option maxRecDepth 20000 in
theorem t_Re_readSum {l : Launch} {h : Nat} (mi : TMi) (ml : TMl) (z : Nat) (a1 : Int32) {Q : TMi → TMl → Nat → Prop} (H : CV l h m_Re_readTerm [.ref 13, .int a1] mi ml z (fun mi1 ml1 z1 => Ev l (h + 1) m_Re_readSum 7 ([.ref 13, .int a1, .int 0, .retAddr 0], [], st mi1 ml1 z1) (qV Q))) : CV l (h + 1) m_Re_readSum [.ref 13, .int a1] mi ml z Q := by
  show Ev l (h + 1) m_Re_readSum 0 ([.ref 13, .int a1, .retAddr 0, .retAddr 0], [], st mi ml z) (qV Q)
  refine ev_aload_n (i := 0) rfl rfl (a_dec_at dc_Re_readSum 0 rfl) ?_
  refine ev_iload_n (i := 1) rfl rfl (a_dec_at dc_Re_readSum 1 rfl) ?_
  refine cV1V cs_Re_122 sh13 rfl (Nat.le_of_ble_eq_true rfl) (Nat.le_of_ble_eq_true rfl) (a_dec_at dc_Re_readSum 2 rfl) ?_
  refine CV.mono (fun mi1 ml1 z1 H => ?_) H
  refine ev_iconst (v := 0) rfl (a_dec_at dc_Re_readSum 3 rfl) ?_
  refine ev_istore_n (i := 2) rfl (by decide) rfl (a_dec_at dc_Re_readSum 4 rfl) ?_
  exact Ev.drop (L' := [.ref 13, .int a1, .int 0, .retAddr 0]) (And.intro rfl (And.intro rfl (And.intro rfl trivial))) H
set_option maxRecDepth 20000 in
theorem t_Re_readSum_7 {l : Launch} {h : Nat} (mi : TMi) (ml : TMl) (z : Nat) (v1 : Int32) (v2 : Int32) {Q : TMi → TMl → Nat → Prop} (H : ((900 ≤ v2 → Q mi ml z) ∧ (¬ 900 ≤ v2 → CI l h m_To_sees [.ref 12, .int 43] mi ml z (fun x2 mi2 ml2 z2 => ((¬ x2 = 0 → CI l h m_To_sees [.ref 12, .int 43] mi2 ml2 z2 (fun x4 mi4 ml4 z4 => ((x4 = 0 → CV l h m_To_advance [.ref 12] mi4 ml4 z4 (fun mi6 ml6 z6 => CV l h m_Re_readTerm [.ref 13, .int v1] mi6 ml6 z6 (fun mi7 ml7 z7 => CI l h m_La_addCode [.ref 3, .int 7000] mi7 ml7 z7 (fun x8 mi8 ml8 z8 => Ev l (h + 1) m_Re_readSum 7 ([.ref 13, .int v1, .int (v2 + 1), .retAddr 0], [], st mi8 ml8 z8) (qV Q))))) ∧ (¬ x4 = 0 → CV l h m_To_advance [.ref 12] mi4 ml4 z4 (fun mi9 ml9 z9 => CV l h m_Re_readTerm [.ref 13, .int v1] mi9 ml9 z9 (fun mi10 ml10 z10 => CI l h m_La_addCode [.ref 3, .int 6000] mi10 ml10 z10 (fun x11 mi11 ml11 z11 => Ev l (h + 1) m_Re_readSum 7 ([.ref 13, .int v1, .int (v2 + 1), .retAddr 0], [], st mi11 ml11 z11) (qV Q)))))))) ∧ (x2 = 0 → CI l h m_To_sees [.ref 12, .int 45] mi2 ml2 z2 (fun x12 mi12 ml12 z12 => ((x12 = 0 → Q mi12 ml12 z12) ∧ (¬ x12 = 0 → CI l h m_To_sees [.ref 12, .int 43] mi12 ml12 z12 (fun x14 mi14 ml14 z14 => ((x14 = 0 → CV l h m_To_advance [.ref 12] mi14 ml14 z14 (fun mi16 ml16 z16 => CV l h m_Re_readTerm [.ref 13, .int v1] mi16 ml16 z16 (fun mi17 ml17 z17 => CI l h m_La_addCode [.ref 3, .int 7000] mi17 ml17 z17 (fun x18 mi18 ml18 z18 => Ev l (h + 1) m_Re_readSum 7 ([.ref 13, .int v1, .int (v2 + 1), .retAddr 0], [], st mi18 ml18 z18) (qV Q))))) ∧ (¬ x14 = 0 → CV l h m_To_advance [.ref 12] mi14 ml14 z14 (fun mi19 ml19 z19 => CV l h m_Re_readTerm [.ref 13, .int v1] mi19 ml19 z19 (fun mi20 ml20 z20 => CI l h m_La_addCode [.ref 3, .int 6000] mi20 ml20 z20 (fun x21 mi21 ml21 z21 => Ev l (h + 1) m_Re_readSum 7 ([.ref 13, .int v1, .int (v2 + 1), .retAddr 0], [], st mi21 ml21 z21) (qV Q)))))))))))))))) : Ev l (h + 1) m_Re_readSum 7 ([.ref 13, .int v1, .int v2, .retAddr 0], [], st mi ml z) (qV Q) := by
  refine ev_iload_n (i := 2) rfl rfl (a_dec_at dc_Re_readSum 5 rfl) ?_
  refine ev_sipush (v := 900) rfl (a_dec_at dc_Re_readSum 6 rfl) ?_
  refine ev_icmp_ge (tgt := 87) (a_dec_at dc_Re_readSum 7 rfl) (by decide) (fun b1 => ?_) (fun b1 => ?_)
  · have H := H.1 b1
    exact m_retV (a_dec_at dc_Re_readSum 40 rfl) rfl H
  · have H := H.2 b1
    refine ev_aload_n (i := 0) rfl rfl (a_dec_at dc_Re_readSum 8 rfl) ?_
    refine m_getR (y := 12) fl_Re_9 rfl sh13 (mr_13_0 _) (by decide) (a_dec_at dc_Re_readSum 9 rfl) ?_
    refine ev_bipush (v := 43) rfl (a_dec_at dc_Re_readSum 10 rfl) ?_
    refine cV1I cs_Re_77 sh12 rfl (Nat.le_of_ble_eq_true rfl) (Nat.le_of_ble_eq_true rfl) (a_dec_at dc_Re_readSum 11 rfl) ?_
    refine CI.mono (fun x2 mi2 ml2 z2 H => ?_) H
    refine ev_if_ne (tgt := 38) (a_dec_at dc_Re_readSum 12 rfl) (by decide) (fun b3 => ?_) (fun b3 => ?_)
    · have H := H.1 b3
      refine ev_aload_n (i := 0) rfl rfl (a_dec_at dc_Re_readSum 18 rfl) ?_
      refine m_getR (y := 12) fl_Re_9 rfl sh13 (mr_13_0 _) (by decide) (a_dec_at dc_Re_readSum 19 rfl) ?_
      refine ev_bipush (v := 43) rfl (a_dec_at dc_Re_readSum 20 rfl) ?_
      refine cV1I cs_Re_77 sh12 rfl (Nat.le_of_ble_eq_true rfl) (Nat.le_of_ble_eq_true rfl) (a_dec_at dc_Re_readSum 21 rfl) ?_
      refine CI.mono (fun x4 mi4 ml4 z4 H => ?_) H
      refine ev_if_eq (tgt := 56) (a_dec_at dc_Re_readSum 22 rfl) (by decide) (fun b5 => ?_) (fun b5 => ?_)
      · have H := H.1 b5
        refine ev_sipush (v := 7000) rfl (a_dec_at dc_Re_readSum 25 rfl) ?_
        refine ev_istore_n (i := 3) rfl (by decide) rfl (a_dec_at dc_Re_readSum 26 rfl) ?_
        refine ev_aload_n (i := 0) rfl rfl (a_dec_at dc_Re_readSum 27 rfl) ?_
        refine m_getR (y := 12) fl_Re_9 rfl sh13 (mr_13_0 _) (by decide) (a_dec_at dc_Re_readSum 28 rfl) ?_
        refine cV0V cs_Re_66 sh12 rfl (Nat.le_of_ble_eq_true rfl) (Nat.le_of_ble_eq_true rfl) (a_dec_at dc_Re_readSum 29 rfl) ?_
        refine CV.mono (fun mi6 ml6 z6 H => ?_) H
        refine ev_aload_n (i := 0) rfl rfl (a_dec_at dc_Re_readSum 30 rfl) ?_
        refine ev_iload_n (i := 1) rfl rfl (a_dec_at dc_Re_readSum 31 rfl) ?_
        refine cV1V cs_Re_122 sh13 rfl (Nat.le_of_ble_eq_true rfl) (Nat.le_of_ble_eq_true rfl) (a_dec_at dc_Re_readSum 32 rfl) ?_
        refine CV.mono (fun mi7 ml7 z7 H => ?_) H
        refine ev_aload_n (i := 0) rfl rfl (a_dec_at dc_Re_readSum 33 rfl) ?_
        refine m_getR (y := 3) fl_Re_15 rfl sh13 (mr_13_1 _) (by decide) (a_dec_at dc_Re_readSum 34 rfl) ?_
        refine ev_iload_n (i := 3) rfl rfl (a_dec_at dc_Re_readSum 35 rfl) ?_
        refine cV1I cs_Re_119 sh3 rfl (Nat.le_of_ble_eq_true rfl) (Nat.le_of_ble_eq_true rfl) (a_dec_at dc_Re_readSum 36 rfl) ?_
        refine CI.mono (fun x8 mi8 ml8 z8 H => ?_) H
        refine ev_pop rfl (a_dec_at dc_Re_readSum 37 rfl) ?_
        refine ev_iinc (v := 1) rfl rfl (by decide) rfl (a_dec_at dc_Re_readSum 38 rfl) ?_
        refine ev_goto (tgt := 7) (a_dec_at dc_Re_readSum 39 rfl) (by decide) ?_
        exact Ev.drop (L' := [.ref 13, .int v1, .int (v2 + 1), .retAddr 0]) (And.intro rfl (And.intro rfl (And.intro rfl trivial))) H
      · have H := H.2 b5
        refine ev_sipush (v := 6000) rfl (a_dec_at dc_Re_readSum 23 rfl) ?_
        refine ev_goto (tgt := 59) (a_dec_at dc_Re_readSum 24 rfl) (by decide) ?_
        refine ev_istore_n (i := 3) rfl (by decide) rfl (a_dec_at dc_Re_readSum 26 rfl) ?_
        refine ev_aload_n (i := 0) rfl rfl (a_dec_at dc_Re_readSum 27 rfl) ?_
        refine m_getR (y := 12) fl_Re_9 rfl sh13 (mr_13_0 _) (by decide) (a_dec_at dc_Re_readSum 28 rfl) ?_
        refine cV0V cs_Re_66 sh12 rfl (Nat.le_of_ble_eq_true rfl) (Nat.le_of_ble_eq_true rfl) (a_dec_at dc_Re_readSum 29 rfl) ?_
        refine CV.mono (fun mi9 ml9 z9 H => ?_) H
        refine ev_aload_n (i := 0) rfl rfl (a_dec_at dc_Re_readSum 30 rfl) ?_
        refine ev_iload_n (i := 1) rfl rfl (a_dec_at dc_Re_readSum 31 rfl) ?_
        refine cV1V cs_Re_122 sh13 rfl (Nat.le_of_ble_eq_true rfl) (Nat.le_of_ble_eq_true rfl) (a_dec_at dc_Re_readSum 32 rfl) ?_
        refine CV.mono (fun mi10 ml10 z10 H => ?_) H
        refine ev_aload_n (i := 0) rfl rfl (a_dec_at dc_Re_readSum 33 rfl) ?_
        refine m_getR (y := 3) fl_Re_15 rfl sh13 (mr_13_1 _) (by decide) (a_dec_at dc_Re_readSum 34 rfl) ?_
        refine ev_iload_n (i := 3) rfl rfl (a_dec_at dc_Re_readSum 35 rfl) ?_
        refine cV1I cs_Re_119 sh3 rfl (Nat.le_of_ble_eq_true rfl) (Nat.le_of_ble_eq_true rfl) (a_dec_at dc_Re_readSum 36 rfl) ?_
        refine CI.mono (fun x11 mi11 ml11 z11 H => ?_) H
        refine ev_pop rfl (a_dec_at dc_Re_readSum 37 rfl) ?_
        refine ev_iinc (v := 1) rfl rfl (by decide) rfl (a_dec_at dc_Re_readSum 38 rfl) ?_
        refine ev_goto (tgt := 7) (a_dec_at dc_Re_readSum 39 rfl) (by decide) ?_
        exact Ev.drop (L' := [.ref 13, .int v1, .int (v2 + 1), .retAddr 0]) (And.intro rfl (And.intro rfl (And.intro rfl trivial))) H
    · have H := H.2 b3
      refine ev_aload_n (i := 0) rfl rfl (a_dec_at dc_Re_readSum 13 rfl) ?_
      refine m_getR (y := 12) fl_Re_9 rfl sh13 (mr_13_0 _) (by decide) (a_dec_at dc_Re_readSum 14 rfl) ?_
      refine ev_bipush (v := 45) rfl (a_dec_at dc_Re_readSum 15 rfl) ?_
      refine cV1I cs_Re_77 sh12 rfl (Nat.le_of_ble_eq_true rfl) (Nat.le_of_ble_eq_true rfl) (a_dec_at dc_Re_readSum 16 rfl) ?_
      refine CI.mono (fun x12 mi12 ml12 z12 H => ?_) H
      refine ev_if_eq (tgt := 87) (a_dec_at dc_Re_readSum 17 rfl) (by decide) (fun b13 => ?_) (fun b13 => ?_)
      · have H := H.1 b13
        exact m_retV (a_dec_at dc_Re_readSum 40 rfl) rfl H
      · have H := H.2 b13
        refine ev_aload_n (i := 0) rfl rfl (a_dec_at dc_Re_readSum 18 rfl) ?_
        refine m_getR (y := 12) fl_Re_9 rfl sh13 (mr_13_0 _) (by decide) (a_dec_at dc_Re_readSum 19 rfl) ?_
        refine ev_bipush (v := 43) rfl (a_dec_at dc_Re_readSum 20 rfl) ?_
        refine cV1I cs_Re_77 sh12 rfl (Nat.le_of_ble_eq_true rfl) (Nat.le_of_ble_eq_true rfl) (a_dec_at dc_Re_readSum 21 rfl) ?_
        refine CI.mono (fun x14 mi14 ml14 z14 H => ?_) H
        refine ev_if_eq (tgt := 56) (a_dec_at dc_Re_readSum 22 rfl) (by decide) (fun b15 => ?_) (fun b15 => ?_)
        · have H := H.1 b15
          refine ev_sipush (v := 7000) rfl (a_dec_at dc_Re_readSum 25 rfl) ?_
          refine ev_istore_n (i := 3) rfl (by decide) rfl (a_dec_at dc_Re_readSum 26 rfl) ?_
          refine ev_aload_n (i := 0) rfl rfl (a_dec_at dc_Re_readSum 27 rfl) ?_
          refine m_getR (y := 12) fl_Re_9 rfl sh13 (mr_13_0 _) (by decide) (a_dec_at dc_Re_readSum 28 rfl) ?_
          refine cV0V cs_Re_66 sh12 rfl (Nat.le_of_ble_eq_true rfl) (Nat.le_of_ble_eq_true rfl) (a_dec_at dc_Re_readSum 29 rfl) ?_
          refine CV.mono (fun mi16 ml16 z16 H => ?_) H
          refine ev_aload_n (i := 0) rfl rfl (a_dec_at dc_Re_readSum 30 rfl) ?_
          refine ev_iload_n (i := 1) rfl rfl (a_dec_at dc_Re_readSum 31 rfl) ?_
          refine cV1V cs_Re_122 sh13 rfl (Nat.le_of_ble_eq_true rfl) (Nat.le_of_ble_eq_true rfl) (a_dec_at dc_Re_readSum 32 rfl) ?_
          refine CV.mono (fun mi17 ml17 z17 H => ?_) H
          refine ev_aload_n (i := 0) rfl rfl (a_dec_at dc_Re_readSum 33 rfl) ?_
          refine m_getR (y := 3) fl_Re_15 rfl sh13 (mr_13_1 _) (by decide) (a_dec_at dc_Re_readSum 34 rfl) ?_
          refine ev_iload_n (i := 3) rfl rfl (a_dec_at dc_Re_readSum 35 rfl) ?_
          refine cV1I cs_Re_119 sh3 rfl (Nat.le_of_ble_eq_true rfl) (Nat.le_of_ble_eq_true rfl) (a_dec_at dc_Re_readSum 36 rfl) ?_
          refine CI.mono (fun x18 mi18 ml18 z18 H => ?_) H
          refine ev_pop rfl (a_dec_at dc_Re_readSum 37 rfl) ?_
          refine ev_iinc (v := 1) rfl rfl (by decide) rfl (a_dec_at dc_Re_readSum 38 rfl) ?_
          refine ev_goto (tgt := 7) (a_dec_at dc_Re_readSum 39 rfl) (by decide) ?_
          exact Ev.drop (L' := [.ref 13, .int v1, .int (v2 + 1), .retAddr 0]) (And.intro rfl (And.intro rfl (And.intro rfl trivial))) H
        · have H := H.2 b15
          refine ev_sipush (v := 6000) rfl (a_dec_at dc_Re_readSum 23 rfl) ?_
          refine ev_goto (tgt := 59) (a_dec_at dc_Re_readSum 24 rfl) (by decide) ?_
          refine ev_istore_n (i := 3) rfl (by decide) rfl (a_dec_at dc_Re_readSum 26 rfl) ?_
          refine ev_aload_n (i := 0) rfl rfl (a_dec_at dc_Re_readSum 27 rfl) ?_
          refine m_getR (y := 12) fl_Re_9 rfl sh13 (mr_13_0 _) (by decide) (a_dec_at dc_Re_readSum 28 rfl) ?_
          refine cV0V cs_Re_66 sh12 rfl (Nat.le_of_ble_eq_true rfl) (Nat.le_of_ble_eq_true rfl) (a_dec_at dc_Re_readSum 29 rfl) ?_
          refine CV.mono (fun mi19 ml19 z19 H => ?_) H
          refine ev_aload_n (i := 0) rfl rfl (a_dec_at dc_Re_readSum 30 rfl) ?_
          refine ev_iload_n (i := 1) rfl rfl (a_dec_at dc_Re_readSum 31 rfl) ?_
          refine cV1V cs_Re_122 sh13 rfl (Nat.le_of_ble_eq_true rfl) (Nat.le_of_ble_eq_true rfl) (a_dec_at dc_Re_readSum 32 rfl) ?_
          refine CV.mono (fun mi20 ml20 z20 H => ?_) H
          refine ev_aload_n (i := 0) rfl rfl (a_dec_at dc_Re_readSum 33 rfl) ?_
          refine m_getR (y := 3) fl_Re_15 rfl sh13 (mr_13_1 _) (by decide) (a_dec_at dc_Re_readSum 34 rfl) ?_
          refine ev_iload_n (i := 3) rfl rfl (a_dec_at dc_Re_readSum 35 rfl) ?_
          refine cV1I cs_Re_119 sh3 rfl (Nat.le_of_ble_eq_true rfl) (Nat.le_of_ble_eq_true rfl) (a_dec_at dc_Re_readSum 36 rfl) ?_
          refine CI.mono (fun x21 mi21 ml21 z21 H => ?_) H
          refine ev_pop rfl (a_dec_at dc_Re_readSum 37 rfl) ?_
          refine ev_iinc (v := 1) rfl rfl (by decide) rfl (a_dec_at dc_Re_readSum 38 rfl) ?_
          refine ev_goto (tgt := 7) (a_dec_at dc_Re_readSum 39 rfl) (by decide) ?_
          exact Ev.drop (L' := [.ref 13, .int v1, .int (v2 + 1), .retAddr 0]) (And.intro rfl (And.intro rfl (And.intro rfl trivial))) H
set_option maxRecDepth 20000 in
theorem t_Re_readTerm {l : Launch} {h : Nat} (mi : TMi) (ml : TMl) (z : Nat) (a1 : Int32) {Q : TMi → TMl → Nat → Prop} (H : CV l h m_Re_readAtom [.ref 13, .int a1] mi ml z (fun mi1 ml1 z1 => Ev l (h + 1) m_Re_readTerm 7 ([.ref 13, .int a1, .int 0], [], st mi1 ml1 z1) (qV Q))) : CV l (h + 1) m_Re_readTerm [.ref 13, .int a1] mi ml z Q := by
  show Ev l (h + 1) m_Re_readTerm 0 ([.ref 13, .int a1, .retAddr 0], [], st mi ml z) (qV Q)
  refine ev_aload_n (i := 0) rfl rfl (a_dec_at dc_Re_readTerm 0 rfl) ?_
  refine ev_iload_n (i := 1) rfl rfl (a_dec_at dc_Re_readTerm 1 rfl) ?_
  refine cV1V cs_Re_125 sh13 rfl (Nat.le_of_ble_eq_true rfl) (Nat.le_of_ble_eq_true rfl) (a_dec_at dc_Re_readTerm 2 rfl) ?_
  refine CV.mono (fun mi1 ml1 z1 H => ?_) H
  refine ev_iconst (v := 0) rfl (a_dec_at dc_Re_readTerm 3 rfl) ?_
  refine ev_istore_n (i := 2) rfl (by decide) rfl (a_dec_at dc_Re_readTerm 4 rfl) ?_
  exact Ev.drop (L' := [.ref 13, .int a1, .int 0]) (And.intro rfl (And.intro rfl (And.intro rfl trivial))) H
set_option maxRecDepth 20000 in
theorem t_Re_readTerm_7 {l : Launch} {h : Nat} (mi : TMi) (ml : TMl) (z : Nat) (v1 : Int32) (v2 : Int32) {Q : TMi → TMl → Nat → Prop} (H : ((900 ≤ v2 → Q mi ml z) ∧ (¬ 900 ≤ v2 → CI l h m_To_sees [.ref 12, .int 42] mi ml z (fun x2 mi2 ml2 z2 => ((x2 = 0 → Q mi2 ml2 z2) ∧ (¬ x2 = 0 → CV l h m_To_advance [.ref 12] mi2 ml2 z2 (fun mi4 ml4 z4 => CV l h m_Re_readAtom [.ref 13, .int v1] mi4 ml4 z4 (fun mi5 ml5 z5 => CI l h m_La_addCode [.ref 3, .int 8000] mi5 ml5 z5 (fun x6 mi6 ml6 z6 => Ev l (h + 1) m_Re_readTerm 7 ([.ref 13, .int v1, .int (v2 + 1)], [], st mi6 ml6 z6) (qV Q)))))))))) : Ev l (h + 1) m_Re_readTerm 7 ([.ref 13, .int v1, .int v2], [], st mi ml z) (qV Q) := by
  refine ev_iload_n (i := 2) rfl rfl (a_dec_at dc_Re_readTerm 5 rfl) ?_
  refine ev_sipush (v := 900) rfl (a_dec_at dc_Re_readTerm 6 rfl) ?_
  refine ev_icmp_ge (tgt := 55) (a_dec_at dc_Re_readTerm 7 rfl) (by decide) (fun b1 => ?_) (fun b1 => ?_)
  · have H := H.1 b1
    exact m_retV (a_dec_at dc_Re_readTerm 26 rfl) rfl H
  · have H := H.2 b1
    refine ev_aload_n (i := 0) rfl rfl (a_dec_at dc_Re_readTerm 8 rfl) ?_
    refine m_getR (y := 12) fl_Re_9 rfl sh13 (mr_13_0 _) (by decide) (a_dec_at dc_Re_readTerm 9 rfl) ?_
    refine ev_bipush (v := 42) rfl (a_dec_at dc_Re_readTerm 10 rfl) ?_
    refine cV1I cs_Re_77 sh12 rfl (Nat.le_of_ble_eq_true rfl) (Nat.le_of_ble_eq_true rfl) (a_dec_at dc_Re_readTerm 11 rfl) ?_
    refine CI.mono (fun x2 mi2 ml2 z2 H => ?_) H
    refine ev_if_eq (tgt := 55) (a_dec_at dc_Re_readTerm 12 rfl) (by decide) (fun b3 => ?_) (fun b3 => ?_)
    · have H := H.1 b3
      exact m_retV (a_dec_at dc_Re_readTerm 26 rfl) rfl H
    · have H := H.2 b3
      refine ev_aload_n (i := 0) rfl rfl (a_dec_at dc_Re_readTerm 13 rfl) ?_
      refine m_getR (y := 12) fl_Re_9 rfl sh13 (mr_13_0 _) (by decide) (a_dec_at dc_Re_readTerm 14 rfl) ?_
      refine cV0V cs_Re_66 sh12 rfl (Nat.le_of_ble_eq_true rfl) (Nat.le_of_ble_eq_true rfl) (a_dec_at dc_Re_readTerm 15 rfl) ?_
      refine CV.mono (fun mi4 ml4 z4 H => ?_) H
      refine ev_aload_n (i := 0) rfl rfl (a_dec_at dc_Re_readTerm 16 rfl) ?_
      refine ev_iload_n (i := 1) rfl rfl (a_dec_at dc_Re_readTerm 17 rfl) ?_
      refine cV1V cs_Re_125 sh13 rfl (Nat.le_of_ble_eq_true rfl) (Nat.le_of_ble_eq_true rfl) (a_dec_at dc_Re_readTerm 18 rfl) ?_
      refine CV.mono (fun mi5 ml5 z5 H => ?_) H
      refine ev_aload_n (i := 0) rfl rfl (a_dec_at dc_Re_readTerm 19 rfl) ?_
      refine m_getR (y := 3) fl_Re_15 rfl sh13 (mr_13_1 _) (by decide) (a_dec_at dc_Re_readTerm 20 rfl) ?_
      refine ev_sipush (v := 8000) rfl (a_dec_at dc_Re_readTerm 21 rfl) ?_
      refine cV1I cs_Re_119 sh3 rfl (Nat.le_of_ble_eq_true rfl) (Nat.le_of_ble_eq_true rfl) (a_dec_at dc_Re_readTerm 22 rfl) ?_
      refine CI.mono (fun x6 mi6 ml6 z6 H => ?_) H
      refine ev_pop rfl (a_dec_at dc_Re_readTerm 23 rfl) ?_
      refine ev_iinc (v := 1) rfl rfl (by decide) rfl (a_dec_at dc_Re_readTerm 24 rfl) ?_
      refine ev_goto (tgt := 7) (a_dec_at dc_Re_readTerm 25 rfl) (by decide) ?_
      exact Ev.drop (L' := [.ref 13, .int v1, .int (v2 + 1)]) (And.intro rfl (And.intro rfl (And.intro rfl trivial))) H
set_option maxRecDepth 20000 in
theorem t_Re_readAtom {l : Launch} {h : Nat} (mi : TMi) (ml : TMl) (z : Nat) (a1 : Int32) {Q : TMi → TMl → Nat → Prop} (H : CI l h m_To_sees [.ref 12, .int 21] mi ml z (fun x1 mi1 ml1 z1 => ((x1 = 0 → (((mi1 12 3) < 1 → CI l h m_To_sees [.ref 12, .int 40] mi1 ml1 z1 (fun x4 mi4 ml4 z4 => ((x4 = 0 → CI l h m_To_sees [.ref 12, .int 13] mi4 ml4 z4 (fun x6 mi6 ml6 z6 => ((x6 = 0 → CV l h m_To_refuse [.ref 12, .int 2] mi6 ml6 z6 (fun mi8 ml8 z8 => Q mi8 ml8 z8)) ∧ (¬ x6 = 0 → CI l h m_Re_goesIn [.ref 13, .int a1] mi6 ml6 z6 (fun x9 mi9 ml9 z9 => ((x9 = 0 → Q mi9 ml9 z9) ∧ (¬ x9 = 0 → CV l h m_Re_readIf [.ref 13, .int (a1 + 1)] mi9 ml9 z9 (fun mi11 ml11 z11 => Q mi11 ml11 z11)))))))) ∧ (¬ x4 = 0 → CI l h m_Re_goesIn [.ref 13, .int a1] mi4 ml4 z4 (fun x12 mi12 ml12 z12 => ((x12 = 0 → Q mi12 ml12 z12) ∧ (¬ x12 = 0 → CV l h m_Re_readSum [.ref 13, .int (a1 + 1)] mi12 ml12 z12 (fun mi14 ml14 z14 => CV l h m_To_expect [.ref 12, .int 41] mi14 ml14 z14 (fun mi15 ml15 z15 => Q mi15 ml15 z15))))))))) ∧ (¬ (mi1 12 3) < 1 → ((6 < (mi1 12 3) → CI l h m_To_sees [.ref 12, .int 40] mi1 ml1 z1 (fun x17 mi17 ml17 z17 => ((x17 = 0 → CI l h m_To_sees [.ref 12, .int 13] mi17 ml17 z17 (fun x19 mi19 ml19 z19 => ((x19 = 0 → CV l h m_To_refuse [.ref 12, .int 2] mi19 ml19 z19 (fun mi21 ml21 z21 => Q mi21 ml21 z21)) ∧ (¬ x19 = 0 → CI l h m_Re_goesIn [.ref 13, .int a1] mi19 ml19 z19 (fun x22 mi22 ml22 z22 => ((x22 = 0 → Q mi22 ml22 z22) ∧ (¬ x22 = 0 → CV l h m_Re_readIf [.ref 13, .int (a1 + 1)] mi22 ml22 z22 (fun mi24 ml24 z24 => Q mi24 ml24 z24)))))))) ∧ (¬ x17 = 0 → CI l h m_Re_goesIn [.ref 13, .int a1] mi17 ml17 z17 (fun x25 mi25 ml25 z25 => ((x25 = 0 → Q mi25 ml25 z25) ∧ (¬ x25 = 0 → CV l h m_Re_readSum [.ref 13, .int (a1 + 1)] mi25 ml25 z25 (fun mi27 ml27 z27 => CV l h m_To_expect [.ref 12, .int 41] mi27 ml27 z27 (fun mi28 ml28 z28 => Q mi28 ml28 z28))))))))) ∧ (¬ 6 < (mi1 12 3) → CI l h m_La_addCode [.ref 3, .int ((1000 + (mi1 12 3)) - 1)] mi1 ml1 z1 (fun x29 mi29 ml29 z29 => CV l h m_To_advance [.ref 12] mi29 ml29 z29 (fun mi30 ml30 z30 => Q mi30 ml30 z30))))))) ∧ (¬ x1 = 0 → CI l h m_La_addCode [.ref 3, .int (0 + (mi1 12 5))] mi1 ml1 z1 (fun x31 mi31 ml31 z31 => CV l h m_To_advance [.ref 12] mi31 ml31 z31 (fun mi32 ml32 z32 => Q mi32 ml32 z32)))))) : CV l (h + 1) m_Re_readAtom [.ref 13, .int a1] mi ml z Q := by
  show Ev l (h + 1) m_Re_readAtom 0 ([.ref 13, .int a1], [], st mi ml z) (qV Q)
  refine ev_aload_n (i := 0) rfl rfl (a_dec_at dc_Re_readAtom 0 rfl) ?_
  refine m_getR (y := 12) fl_Re_9 rfl sh13 (mr_13_0 _) (by decide) (a_dec_at dc_Re_readAtom 1 rfl) ?_
  refine ev_bipush (v := 21) rfl (a_dec_at dc_Re_readAtom 2 rfl) ?_
  refine cV1I cs_Re_77 sh12 rfl (Nat.le_of_ble_eq_true rfl) (Nat.le_of_ble_eq_true rfl) (a_dec_at dc_Re_readAtom 3 rfl) ?_
  refine CI.mono (fun x1 mi1 ml1 z1 H => ?_) H
  refine ev_if_eq (tgt := 39) (a_dec_at dc_Re_readAtom 4 rfl) (by decide) (fun b2 => ?_) (fun b2 => ?_)
  · have H := H.1 b2
    refine ev_aload_n (i := 0) rfl rfl (a_dec_at dc_Re_readAtom 18 rfl) ?_
    refine m_getR (y := 12) fl_Re_9 rfl sh13 (mr_13_0 _) (by decide) (a_dec_at dc_Re_readAtom 19 rfl) ?_
    refine m_getI fl_Re_41 rfl sh12 (a_dec_at dc_Re_readAtom 20 rfl) ?_
    refine ev_iconst (v := 1) rfl (a_dec_at dc_Re_readAtom 21 rfl) ?_
    refine ev_icmp_lt (tgt := 93) (a_dec_at dc_Re_readAtom 22 rfl) (by decide) (fun b3 => ?_) (fun b3 => ?_)
    · have H := H.1 b3
      refine ev_aload_n (i := 0) rfl rfl (a_dec_at dc_Re_readAtom 43 rfl) ?_
      refine m_getR (y := 12) fl_Re_9 rfl sh13 (mr_13_0 _) (by decide) (a_dec_at dc_Re_readAtom 44 rfl) ?_
      refine ev_bipush (v := 40) rfl (a_dec_at dc_Re_readAtom 45 rfl) ?_
      refine cV1I cs_Re_77 sh12 rfl (Nat.le_of_ble_eq_true rfl) (Nat.le_of_ble_eq_true rfl) (a_dec_at dc_Re_readAtom 46 rfl) ?_
      refine CI.mono (fun x4 mi4 ml4 z4 H => ?_) H
      refine ev_if_eq (tgt := 132) (a_dec_at dc_Re_readAtom 47 rfl) (by decide) (fun b5 => ?_) (fun b5 => ?_)
      · have H := H.1 b5
        refine ev_aload_n (i := 0) rfl rfl (a_dec_at dc_Re_readAtom 62 rfl) ?_
        refine m_getR (y := 12) fl_Re_9 rfl sh13 (mr_13_0 _) (by decide) (a_dec_at dc_Re_readAtom 63 rfl) ?_
        refine ev_bipush (v := 13) rfl (a_dec_at dc_Re_readAtom 64 rfl) ?_
        refine cV1I cs_Re_77 sh12 rfl (Nat.le_of_ble_eq_true rfl) (Nat.le_of_ble_eq_true rfl) (a_dec_at dc_Re_readAtom 65 rfl) ?_
        refine CI.mono (fun x6 mi6 ml6 z6 H => ?_) H
        refine ev_if_eq (tgt := 162) (a_dec_at dc_Re_readAtom 66 rfl) (by decide) (fun b7 => ?_) (fun b7 => ?_)
        · have H := H.1 b7
          refine ev_aload_n (i := 0) rfl rfl (a_dec_at dc_Re_readAtom 77 rfl) ?_
          refine m_getR (y := 12) fl_Re_9 rfl sh13 (mr_13_0 _) (by decide) (a_dec_at dc_Re_readAtom 78 rfl) ?_
          refine ev_iconst (v := 2) rfl (a_dec_at dc_Re_readAtom 79 rfl) ?_
          refine cV1V cs_Re_60 sh12 rfl (Nat.le_of_ble_eq_true rfl) (Nat.le_of_ble_eq_true rfl) (a_dec_at dc_Re_readAtom 80 rfl) ?_
          refine CV.mono (fun mi8 ml8 z8 H => ?_) H
          exact m_retV (a_dec_at dc_Re_readAtom 81 rfl) rfl H
        · have H := H.2 b7
          refine ev_aload_n (i := 0) rfl rfl (a_dec_at dc_Re_readAtom 67 rfl) ?_
          refine ev_iload_n (i := 1) rfl rfl (a_dec_at dc_Re_readAtom 68 rfl) ?_
          refine cV1I cs_Re_128 sh13 rfl (Nat.le_of_ble_eq_true rfl) (Nat.le_of_ble_eq_true rfl) (a_dec_at dc_Re_readAtom 69 rfl) ?_
          refine CI.mono (fun x9 mi9 ml9 z9 H => ?_) H
          refine ev_if_eq (tgt := 170) (a_dec_at dc_Re_readAtom 70 rfl) (by decide) (fun b10 => ?_) (fun b10 => ?_)
          · have H := H.1 b10
            exact m_retV (a_dec_at dc_Re_readAtom 81 rfl) rfl H
          · have H := H.2 b10
            refine ev_aload_n (i := 0) rfl rfl (a_dec_at dc_Re_readAtom 71 rfl) ?_
            refine ev_iload_n (i := 1) rfl rfl (a_dec_at dc_Re_readAtom 72 rfl) ?_
            refine ev_iconst (v := 1) rfl (a_dec_at dc_Re_readAtom 73 rfl) ?_
            refine ev_iadd (a_dec_at dc_Re_readAtom 74 rfl) ?_
            refine cV1V cs_Re_131 sh13 rfl (Nat.le_of_ble_eq_true rfl) (Nat.le_of_ble_eq_true rfl) (a_dec_at dc_Re_readAtom 75 rfl) ?_
            refine CV.mono (fun mi11 ml11 z11 H => ?_) H
            refine ev_goto (tgt := 170) (a_dec_at dc_Re_readAtom 76 rfl) (by decide) ?_
            exact m_retV (a_dec_at dc_Re_readAtom 81 rfl) rfl H
      · have H := H.2 b5
        refine ev_aload_n (i := 0) rfl rfl (a_dec_at dc_Re_readAtom 48 rfl) ?_
        refine ev_iload_n (i := 1) rfl rfl (a_dec_at dc_Re_readAtom 49 rfl) ?_
        refine cV1I cs_Re_128 sh13 rfl (Nat.le_of_ble_eq_true rfl) (Nat.le_of_ble_eq_true rfl) (a_dec_at dc_Re_readAtom 50 rfl) ?_
        refine CI.mono (fun x12 mi12 ml12 z12 H => ?_) H
        refine ev_if_eq (tgt := 170) (a_dec_at dc_Re_readAtom 51 rfl) (by decide) (fun b13 => ?_) (fun b13 => ?_)
        · have H := H.1 b13
          exact m_retV (a_dec_at dc_Re_readAtom 81 rfl) rfl H
        · have H := H.2 b13
          refine ev_aload_n (i := 0) rfl rfl (a_dec_at dc_Re_readAtom 52 rfl) ?_
          refine ev_iload_n (i := 1) rfl rfl (a_dec_at dc_Re_readAtom 53 rfl) ?_
          refine ev_iconst (v := 1) rfl (a_dec_at dc_Re_readAtom 54 rfl) ?_
          refine ev_iadd (a_dec_at dc_Re_readAtom 55 rfl) ?_
          refine cV1V cs_Re_114 sh13 rfl (Nat.le_of_ble_eq_true rfl) (Nat.le_of_ble_eq_true rfl) (a_dec_at dc_Re_readAtom 56 rfl) ?_
          refine CV.mono (fun mi14 ml14 z14 H => ?_) H
          refine ev_aload_n (i := 0) rfl rfl (a_dec_at dc_Re_readAtom 57 rfl) ?_
          refine m_getR (y := 12) fl_Re_9 rfl sh13 (mr_13_0 _) (by decide) (a_dec_at dc_Re_readAtom 58 rfl) ?_
          refine ev_bipush (v := 41) rfl (a_dec_at dc_Re_readAtom 59 rfl) ?_
          refine cV1V cs_Re_26 sh12 rfl (Nat.le_of_ble_eq_true rfl) (Nat.le_of_ble_eq_true rfl) (a_dec_at dc_Re_readAtom 60 rfl) ?_
          refine CV.mono (fun mi15 ml15 z15 H => ?_) H
          refine ev_goto (tgt := 170) (a_dec_at dc_Re_readAtom 61 rfl) (by decide) ?_
          exact m_retV (a_dec_at dc_Re_readAtom 81 rfl) rfl H
    · have H := H.2 b3
      refine ev_aload_n (i := 0) rfl rfl (a_dec_at dc_Re_readAtom 23 rfl) ?_
      refine m_getR (y := 12) fl_Re_9 rfl sh13 (mr_13_0 _) (by decide) (a_dec_at dc_Re_readAtom 24 rfl) ?_
      refine m_getI fl_Re_41 rfl sh12 (a_dec_at dc_Re_readAtom 25 rfl) ?_
      refine ev_bipush (v := 6) rfl (a_dec_at dc_Re_readAtom 26 rfl) ?_
      refine ev_icmp_gt (tgt := 93) (a_dec_at dc_Re_readAtom 27 rfl) (by decide) (fun b16 => ?_) (fun b16 => ?_)
      · have H := H.1 b16
        refine ev_aload_n (i := 0) rfl rfl (a_dec_at dc_Re_readAtom 43 rfl) ?_
        refine m_getR (y := 12) fl_Re_9 rfl sh13 (mr_13_0 _) (by decide) (a_dec_at dc_Re_readAtom 44 rfl) ?_
        refine ev_bipush (v := 40) rfl (a_dec_at dc_Re_readAtom 45 rfl) ?_
        refine cV1I cs_Re_77 sh12 rfl (Nat.le_of_ble_eq_true rfl) (Nat.le_of_ble_eq_true rfl) (a_dec_at dc_Re_readAtom 46 rfl) ?_
        refine CI.mono (fun x17 mi17 ml17 z17 H => ?_) H
        refine ev_if_eq (tgt := 132) (a_dec_at dc_Re_readAtom 47 rfl) (by decide) (fun b18 => ?_) (fun b18 => ?_)
        · have H := H.1 b18
          refine ev_aload_n (i := 0) rfl rfl (a_dec_at dc_Re_readAtom 62 rfl) ?_
          refine m_getR (y := 12) fl_Re_9 rfl sh13 (mr_13_0 _) (by decide) (a_dec_at dc_Re_readAtom 63 rfl) ?_
          refine ev_bipush (v := 13) rfl (a_dec_at dc_Re_readAtom 64 rfl) ?_
          refine cV1I cs_Re_77 sh12 rfl (Nat.le_of_ble_eq_true rfl) (Nat.le_of_ble_eq_true rfl) (a_dec_at dc_Re_readAtom 65 rfl) ?_
          refine CI.mono (fun x19 mi19 ml19 z19 H => ?_) H
          refine ev_if_eq (tgt := 162) (a_dec_at dc_Re_readAtom 66 rfl) (by decide) (fun b20 => ?_) (fun b20 => ?_)
          · have H := H.1 b20
            refine ev_aload_n (i := 0) rfl rfl (a_dec_at dc_Re_readAtom 77 rfl) ?_
            refine m_getR (y := 12) fl_Re_9 rfl sh13 (mr_13_0 _) (by decide) (a_dec_at dc_Re_readAtom 78 rfl) ?_
            refine ev_iconst (v := 2) rfl (a_dec_at dc_Re_readAtom 79 rfl) ?_
            refine cV1V cs_Re_60 sh12 rfl (Nat.le_of_ble_eq_true rfl) (Nat.le_of_ble_eq_true rfl) (a_dec_at dc_Re_readAtom 80 rfl) ?_
            refine CV.mono (fun mi21 ml21 z21 H => ?_) H
            exact m_retV (a_dec_at dc_Re_readAtom 81 rfl) rfl H
          · have H := H.2 b20
            refine ev_aload_n (i := 0) rfl rfl (a_dec_at dc_Re_readAtom 67 rfl) ?_
            refine ev_iload_n (i := 1) rfl rfl (a_dec_at dc_Re_readAtom 68 rfl) ?_
            refine cV1I cs_Re_128 sh13 rfl (Nat.le_of_ble_eq_true rfl) (Nat.le_of_ble_eq_true rfl) (a_dec_at dc_Re_readAtom 69 rfl) ?_
            refine CI.mono (fun x22 mi22 ml22 z22 H => ?_) H
            refine ev_if_eq (tgt := 170) (a_dec_at dc_Re_readAtom 70 rfl) (by decide) (fun b23 => ?_) (fun b23 => ?_)
            · have H := H.1 b23
              exact m_retV (a_dec_at dc_Re_readAtom 81 rfl) rfl H
            · have H := H.2 b23
              refine ev_aload_n (i := 0) rfl rfl (a_dec_at dc_Re_readAtom 71 rfl) ?_
              refine ev_iload_n (i := 1) rfl rfl (a_dec_at dc_Re_readAtom 72 rfl) ?_
              refine ev_iconst (v := 1) rfl (a_dec_at dc_Re_readAtom 73 rfl) ?_
              refine ev_iadd (a_dec_at dc_Re_readAtom 74 rfl) ?_
              refine cV1V cs_Re_131 sh13 rfl (Nat.le_of_ble_eq_true rfl) (Nat.le_of_ble_eq_true rfl) (a_dec_at dc_Re_readAtom 75 rfl) ?_
              refine CV.mono (fun mi24 ml24 z24 H => ?_) H
              refine ev_goto (tgt := 170) (a_dec_at dc_Re_readAtom 76 rfl) (by decide) ?_
              exact m_retV (a_dec_at dc_Re_readAtom 81 rfl) rfl H
        · have H := H.2 b18
          refine ev_aload_n (i := 0) rfl rfl (a_dec_at dc_Re_readAtom 48 rfl) ?_
          refine ev_iload_n (i := 1) rfl rfl (a_dec_at dc_Re_readAtom 49 rfl) ?_
          refine cV1I cs_Re_128 sh13 rfl (Nat.le_of_ble_eq_true rfl) (Nat.le_of_ble_eq_true rfl) (a_dec_at dc_Re_readAtom 50 rfl) ?_
          refine CI.mono (fun x25 mi25 ml25 z25 H => ?_) H
          refine ev_if_eq (tgt := 170) (a_dec_at dc_Re_readAtom 51 rfl) (by decide) (fun b26 => ?_) (fun b26 => ?_)
          · have H := H.1 b26
            exact m_retV (a_dec_at dc_Re_readAtom 81 rfl) rfl H
          · have H := H.2 b26
            refine ev_aload_n (i := 0) rfl rfl (a_dec_at dc_Re_readAtom 52 rfl) ?_
            refine ev_iload_n (i := 1) rfl rfl (a_dec_at dc_Re_readAtom 53 rfl) ?_
            refine ev_iconst (v := 1) rfl (a_dec_at dc_Re_readAtom 54 rfl) ?_
            refine ev_iadd (a_dec_at dc_Re_readAtom 55 rfl) ?_
            refine cV1V cs_Re_114 sh13 rfl (Nat.le_of_ble_eq_true rfl) (Nat.le_of_ble_eq_true rfl) (a_dec_at dc_Re_readAtom 56 rfl) ?_
            refine CV.mono (fun mi27 ml27 z27 H => ?_) H
            refine ev_aload_n (i := 0) rfl rfl (a_dec_at dc_Re_readAtom 57 rfl) ?_
            refine m_getR (y := 12) fl_Re_9 rfl sh13 (mr_13_0 _) (by decide) (a_dec_at dc_Re_readAtom 58 rfl) ?_
            refine ev_bipush (v := 41) rfl (a_dec_at dc_Re_readAtom 59 rfl) ?_
            refine cV1V cs_Re_26 sh12 rfl (Nat.le_of_ble_eq_true rfl) (Nat.le_of_ble_eq_true rfl) (a_dec_at dc_Re_readAtom 60 rfl) ?_
            refine CV.mono (fun mi28 ml28 z28 H => ?_) H
            refine ev_goto (tgt := 170) (a_dec_at dc_Re_readAtom 61 rfl) (by decide) ?_
            exact m_retV (a_dec_at dc_Re_readAtom 81 rfl) rfl H
      · have H := H.2 b16
        refine ev_aload_n (i := 0) rfl rfl (a_dec_at dc_Re_readAtom 28 rfl) ?_
        refine m_getR (y := 3) fl_Re_15 rfl sh13 (mr_13_1 _) (by decide) (a_dec_at dc_Re_readAtom 29 rfl) ?_
        refine ev_sipush (v := 1000) rfl (a_dec_at dc_Re_readAtom 30 rfl) ?_
        refine ev_aload_n (i := 0) rfl rfl (a_dec_at dc_Re_readAtom 31 rfl) ?_
        refine m_getR (y := 12) fl_Re_9 rfl sh13 (mr_13_0 _) (by decide) (a_dec_at dc_Re_readAtom 32 rfl) ?_
        refine m_getI fl_Re_41 rfl sh12 (a_dec_at dc_Re_readAtom 33 rfl) ?_
        refine ev_iadd (a_dec_at dc_Re_readAtom 34 rfl) ?_
        refine ev_iconst (v := 1) rfl (a_dec_at dc_Re_readAtom 35 rfl) ?_
        refine ev_isub (a_dec_at dc_Re_readAtom 36 rfl) ?_
        refine cV1I cs_Re_119 sh3 rfl (Nat.le_of_ble_eq_true rfl) (Nat.le_of_ble_eq_true rfl) (a_dec_at dc_Re_readAtom 37 rfl) ?_
        refine CI.mono (fun x29 mi29 ml29 z29 H => ?_) H
        refine ev_pop rfl (a_dec_at dc_Re_readAtom 38 rfl) ?_
        refine ev_aload_n (i := 0) rfl rfl (a_dec_at dc_Re_readAtom 39 rfl) ?_
        refine m_getR (y := 12) fl_Re_9 rfl sh13 (mr_13_0 _) (by decide) (a_dec_at dc_Re_readAtom 40 rfl) ?_
        refine cV0V cs_Re_66 sh12 rfl (Nat.le_of_ble_eq_true rfl) (Nat.le_of_ble_eq_true rfl) (a_dec_at dc_Re_readAtom 41 rfl) ?_
        refine CV.mono (fun mi30 ml30 z30 H => ?_) H
        refine ev_goto (tgt := 170) (a_dec_at dc_Re_readAtom 42 rfl) (by decide) ?_
        exact m_retV (a_dec_at dc_Re_readAtom 81 rfl) rfl H
  · have H := H.2 b2
    refine ev_aload_n (i := 0) rfl rfl (a_dec_at dc_Re_readAtom 5 rfl) ?_
    refine m_getR (y := 3) fl_Re_15 rfl sh13 (mr_13_1 _) (by decide) (a_dec_at dc_Re_readAtom 6 rfl) ?_
    refine ev_iconst (v := 0) rfl (a_dec_at dc_Re_readAtom 7 rfl) ?_
    refine ev_aload_n (i := 0) rfl rfl (a_dec_at dc_Re_readAtom 8 rfl) ?_
    refine m_getR (y := 12) fl_Re_9 rfl sh13 (mr_13_0 _) (by decide) (a_dec_at dc_Re_readAtom 9 rfl) ?_
    refine m_getI fl_Re_93 rfl sh12 (a_dec_at dc_Re_readAtom 10 rfl) ?_
    refine ev_iadd (a_dec_at dc_Re_readAtom 11 rfl) ?_
    refine cV1I cs_Re_119 sh3 rfl (Nat.le_of_ble_eq_true rfl) (Nat.le_of_ble_eq_true rfl) (a_dec_at dc_Re_readAtom 12 rfl) ?_
    refine CI.mono (fun x31 mi31 ml31 z31 H => ?_) H
    refine ev_pop rfl (a_dec_at dc_Re_readAtom 13 rfl) ?_
    refine ev_aload_n (i := 0) rfl rfl (a_dec_at dc_Re_readAtom 14 rfl) ?_
    refine m_getR (y := 12) fl_Re_9 rfl sh13 (mr_13_0 _) (by decide) (a_dec_at dc_Re_readAtom 15 rfl) ?_
    refine cV0V cs_Re_66 sh12 rfl (Nat.le_of_ble_eq_true rfl) (Nat.le_of_ble_eq_true rfl) (a_dec_at dc_Re_readAtom 16 rfl) ?_
    refine CV.mono (fun mi32 ml32 z32 H => ?_) H
    refine ev_goto (tgt := 170) (a_dec_at dc_Re_readAtom 17 rfl) (by decide) ?_
    exact m_retV (a_dec_at dc_Re_readAtom 81 rfl) rfl H
set_option maxRecDepth 20000 in
theorem t_Re_goesIn {l : Launch} {h : Nat} (mi : TMi) (ml : TMl) (z : Nat) (a1 : Int32) {Q : Int32 → TMi → TMl → Nat → Prop} (H : ((a1 < 6 → CV l h m_To_advance [.ref 12] mi ml z (fun mi2 ml2 z2 => Q 1 mi2 ml2 z2)) ∧ (¬ a1 < 6 → CV l h m_To_refuse [.ref 12, .int 4] mi ml z (fun mi3 ml3 z3 => Q 0 mi3 ml3 z3)))) : CI l (h + 1) m_Re_goesIn [.ref 13, .int a1] mi ml z Q := by
  show Ev l (h + 1) m_Re_goesIn 0 ([.ref 13, .int a1], [], st mi ml z) (qI Q)
  refine ev_iload_n (i := 1) rfl rfl (a_dec_at dc_Re_goesIn 0 rfl) ?_
  refine ev_bipush (v := 6) rfl (a_dec_at dc_Re_goesIn 1 rfl) ?_
  refine ev_icmp_lt (tgt := 16) (a_dec_at dc_Re_goesIn 2 rfl) (by decide) (fun b1 => ?_) (fun b1 => ?_)
  · have H := H.1 b1
    refine ev_aload_n (i := 0) rfl rfl (a_dec_at dc_Re_goesIn 9 rfl) ?_
    refine m_getR (y := 12) fl_Re_9 rfl sh13 (mr_13_0 _) (by decide) (a_dec_at dc_Re_goesIn 10 rfl) ?_
    refine cV0V cs_Re_66 sh12 rfl (Nat.le_of_ble_eq_true rfl) (Nat.le_of_ble_eq_true rfl) (a_dec_at dc_Re_goesIn 11 rfl) ?_
    refine CV.mono (fun mi2 ml2 z2 H => ?_) H
    refine ev_iconst (v := 1) rfl (a_dec_at dc_Re_goesIn 12 rfl) ?_
    exact m_retI (a_dec_at dc_Re_goesIn 13 rfl) rfl rfl H
  · have H := H.2 b1
    refine ev_aload_n (i := 0) rfl rfl (a_dec_at dc_Re_goesIn 3 rfl) ?_
    refine m_getR (y := 12) fl_Re_9 rfl sh13 (mr_13_0 _) (by decide) (a_dec_at dc_Re_goesIn 4 rfl) ?_
    refine ev_iconst (v := 4) rfl (a_dec_at dc_Re_goesIn 5 rfl) ?_
    refine cV1V cs_Re_60 sh12 rfl (Nat.le_of_ble_eq_true rfl) (Nat.le_of_ble_eq_true rfl) (a_dec_at dc_Re_goesIn 6 rfl) ?_
    refine CV.mono (fun mi3 ml3 z3 H => ?_) H
    refine ev_iconst (v := 0) rfl (a_dec_at dc_Re_goesIn 7 rfl) ?_
    exact m_retI (a_dec_at dc_Re_goesIn 8 rfl) rfl rfl H
set_option maxRecDepth 20000 in
theorem t_Re_readIf {l : Launch} {h : Nat} (mi : TMi) (ml : TMl) (z : Nat) (a1 : Int32) {Q : TMi → TMl → Nat → Prop} (H : CV l h m_Re_readTruth [.ref 13, .int a1] mi ml z (fun mi1 ml1 z1 => CV l h m_To_expect [.ref 12, .int 14] mi1 ml1 z1 (fun mi2 ml2 z2 => CI l h m_La_addCode [.ref 3, .int 3000] mi2 ml2 z2 (fun x3 mi3 ml3 z3 => CV l h m_Re_readSum [.ref 13, .int a1] mi3 ml3 z3 (fun mi4 ml4 z4 => CV l h m_To_expect [.ref 12, .int 15] mi4 ml4 z4 (fun mi5 ml5 z5 => CI l h m_La_addCode [.ref 3, .int 2000] mi5 ml5 z5 (fun x6 mi6 ml6 z6 => CV l h m_Re_aim [.ref 13, .int x3] mi6 ml6 z6 (fun mi7 ml7 z7 => CV l h m_Re_readSum [.ref 13, .int a1] mi7 ml7 z7 (fun mi8 ml8 z8 => CV l h m_To_expect [.ref 12, .int 16] mi8 ml8 z8 (fun mi9 ml9 z9 => CV l h m_Re_aim [.ref 13, .int x6] mi9 ml9 z9 (fun mi10 ml10 z10 => Q mi10 ml10 z10))))))))))) : CV l (h + 1) m_Re_readIf [.ref 13, .int a1] mi ml z Q := by
  show Ev l (h + 1) m_Re_readIf 0 ([.ref 13, .int a1, .retAddr 0, .retAddr 0], [], st mi ml z) (qV Q)
  refine ev_aload_n (i := 0) rfl rfl (a_dec_at dc_Re_readIf 0 rfl) ?_
  refine ev_iload_n (i := 1) rfl rfl (a_dec_at dc_Re_readIf 1 rfl) ?_
  refine cV1V cs_Re_134 sh13 rfl (Nat.le_of_ble_eq_true rfl) (Nat.le_of_ble_eq_true rfl) (a_dec_at dc_Re_readIf 2 rfl) ?_
  refine CV.mono (fun mi1 ml1 z1 H => ?_) H
  refine ev_aload_n (i := 0) rfl rfl (a_dec_at dc_Re_readIf 3 rfl) ?_
  refine m_getR (y := 12) fl_Re_9 rfl sh13 (mr_13_0 _) (by decide) (a_dec_at dc_Re_readIf 4 rfl) ?_
  refine ev_bipush (v := 14) rfl (a_dec_at dc_Re_readIf 5 rfl) ?_
  refine cV1V cs_Re_26 sh12 rfl (Nat.le_of_ble_eq_true rfl) (Nat.le_of_ble_eq_true rfl) (a_dec_at dc_Re_readIf 6 rfl) ?_
  refine CV.mono (fun mi2 ml2 z2 H => ?_) H
  refine ev_aload_n (i := 0) rfl rfl (a_dec_at dc_Re_readIf 7 rfl) ?_
  refine m_getR (y := 3) fl_Re_15 rfl sh13 (mr_13_1 _) (by decide) (a_dec_at dc_Re_readIf 8 rfl) ?_
  refine ev_sipush (v := 3000) rfl (a_dec_at dc_Re_readIf 9 rfl) ?_
  refine cV1I cs_Re_119 sh3 rfl (Nat.le_of_ble_eq_true rfl) (Nat.le_of_ble_eq_true rfl) (a_dec_at dc_Re_readIf 10 rfl) ?_
  refine CI.mono (fun x3 mi3 ml3 z3 H => ?_) H
  refine ev_istore_n (i := 2) rfl (by decide) rfl (a_dec_at dc_Re_readIf 11 rfl) ?_
  refine ev_aload_n (i := 0) rfl rfl (a_dec_at dc_Re_readIf 12 rfl) ?_
  refine ev_iload_n (i := 1) rfl rfl (a_dec_at dc_Re_readIf 13 rfl) ?_
  refine cV1V cs_Re_114 sh13 rfl (Nat.le_of_ble_eq_true rfl) (Nat.le_of_ble_eq_true rfl) (a_dec_at dc_Re_readIf 14 rfl) ?_
  refine CV.mono (fun mi4 ml4 z4 H => ?_) H
  refine ev_aload_n (i := 0) rfl rfl (a_dec_at dc_Re_readIf 15 rfl) ?_
  refine m_getR (y := 12) fl_Re_9 rfl sh13 (mr_13_0 _) (by decide) (a_dec_at dc_Re_readIf 16 rfl) ?_
  refine ev_bipush (v := 15) rfl (a_dec_at dc_Re_readIf 17 rfl) ?_
  refine cV1V cs_Re_26 sh12 rfl (Nat.le_of_ble_eq_true rfl) (Nat.le_of_ble_eq_true rfl) (a_dec_at dc_Re_readIf 18 rfl) ?_
  refine CV.mono (fun mi5 ml5 z5 H => ?_) H
  refine ev_aload_n (i := 0) rfl rfl (a_dec_at dc_Re_readIf 19 rfl) ?_
  refine m_getR (y := 3) fl_Re_15 rfl sh13 (mr_13_1 _) (by decide) (a_dec_at dc_Re_readIf 20 rfl) ?_
  refine ev_sipush (v := 2000) rfl (a_dec_at dc_Re_readIf 21 rfl) ?_
  refine cV1I cs_Re_119 sh3 rfl (Nat.le_of_ble_eq_true rfl) (Nat.le_of_ble_eq_true rfl) (a_dec_at dc_Re_readIf 22 rfl) ?_
  refine CI.mono (fun x6 mi6 ml6 z6 H => ?_) H
  refine ev_istore_n (i := 3) rfl (by decide) rfl (a_dec_at dc_Re_readIf 23 rfl) ?_
  refine ev_aload_n (i := 0) rfl rfl (a_dec_at dc_Re_readIf 24 rfl) ?_
  refine ev_iload_n (i := 2) rfl rfl (a_dec_at dc_Re_readIf 25 rfl) ?_
  refine cV1V cs_Re_137 sh13 rfl (Nat.le_of_ble_eq_true rfl) (Nat.le_of_ble_eq_true rfl) (a_dec_at dc_Re_readIf 26 rfl) ?_
  refine CV.mono (fun mi7 ml7 z7 H => ?_) H
  refine ev_aload_n (i := 0) rfl rfl (a_dec_at dc_Re_readIf 27 rfl) ?_
  refine ev_iload_n (i := 1) rfl rfl (a_dec_at dc_Re_readIf 28 rfl) ?_
  refine cV1V cs_Re_114 sh13 rfl (Nat.le_of_ble_eq_true rfl) (Nat.le_of_ble_eq_true rfl) (a_dec_at dc_Re_readIf 29 rfl) ?_
  refine CV.mono (fun mi8 ml8 z8 H => ?_) H
  refine ev_aload_n (i := 0) rfl rfl (a_dec_at dc_Re_readIf 30 rfl) ?_
  refine m_getR (y := 12) fl_Re_9 rfl sh13 (mr_13_0 _) (by decide) (a_dec_at dc_Re_readIf 31 rfl) ?_
  refine ev_bipush (v := 16) rfl (a_dec_at dc_Re_readIf 32 rfl) ?_
  refine cV1V cs_Re_26 sh12 rfl (Nat.le_of_ble_eq_true rfl) (Nat.le_of_ble_eq_true rfl) (a_dec_at dc_Re_readIf 33 rfl) ?_
  refine CV.mono (fun mi9 ml9 z9 H => ?_) H
  refine ev_aload_n (i := 0) rfl rfl (a_dec_at dc_Re_readIf 34 rfl) ?_
  refine ev_iload_n (i := 3) rfl rfl (a_dec_at dc_Re_readIf 35 rfl) ?_
  refine cV1V cs_Re_137 sh13 rfl (Nat.le_of_ble_eq_true rfl) (Nat.le_of_ble_eq_true rfl) (a_dec_at dc_Re_readIf 36 rfl) ?_
  refine CV.mono (fun mi10 ml10 z10 H => ?_) H
  exact m_retV (a_dec_at dc_Re_readIf 37 rfl) rfl H
set_option maxRecDepth 20000 in
theorem t_Re_readTruth {l : Launch} {h : Nat} (mi : TMi) (ml : TMl) (z : Nat) (a1 : Int32) {Q : TMi → TMl → Nat → Prop} (H : CV l h m_Re_readBoth [.ref 13, .int a1] mi ml z (fun mi1 ml1 z1 => Ev l (h + 1) m_Re_readTruth 7 ([.ref 13, .int a1, .int 0], [], st mi1 ml1 z1) (qV Q))) : CV l (h + 1) m_Re_readTruth [.ref 13, .int a1] mi ml z Q := by
  show Ev l (h + 1) m_Re_readTruth 0 ([.ref 13, .int a1, .retAddr 0], [], st mi ml z) (qV Q)
  refine ev_aload_n (i := 0) rfl rfl (a_dec_at dc_Re_readTruth 0 rfl) ?_
  refine ev_iload_n (i := 1) rfl rfl (a_dec_at dc_Re_readTruth 1 rfl) ?_
  refine cV1V cs_Re_143 sh13 rfl (Nat.le_of_ble_eq_true rfl) (Nat.le_of_ble_eq_true rfl) (a_dec_at dc_Re_readTruth 2 rfl) ?_
  refine CV.mono (fun mi1 ml1 z1 H => ?_) H
  refine ev_iconst (v := 0) rfl (a_dec_at dc_Re_readTruth 3 rfl) ?_
  refine ev_istore_n (i := 2) rfl (by decide) rfl (a_dec_at dc_Re_readTruth 4 rfl) ?_
  exact Ev.drop (L' := [.ref 13, .int a1, .int 0]) (And.intro rfl (And.intro rfl (And.intro rfl trivial))) H
set_option maxRecDepth 20000 in
theorem t_Re_readTruth_7 {l : Launch} {h : Nat} (mi : TMi) (ml : TMl) (z : Nat) (v1 : Int32) (v2 : Int32) {Q : TMi → TMl → Nat → Prop} (H : ((900 ≤ v2 → Q mi ml z) ∧ (¬ 900 ≤ v2 → CI l h m_To_sees [.ref 12, .int 19] mi ml z (fun x2 mi2 ml2 z2 => ((x2 = 0 → Q mi2 ml2 z2) ∧ (¬ x2 = 0 → CV l h m_To_advance [.ref 12] mi2 ml2 z2 (fun mi4 ml4 z4 => CV l h m_Re_readBoth [.ref 13, .int v1] mi4 ml4 z4 (fun mi5 ml5 z5 => CI l h m_La_addCode [.ref 3, .int 13000] mi5 ml5 z5 (fun x6 mi6 ml6 z6 => Ev l (h + 1) m_Re_readTruth 7 ([.ref 13, .int v1, .int (v2 + 1)], [], st mi6 ml6 z6) (qV Q)))))))))) : Ev l (h + 1) m_Re_readTruth 7 ([.ref 13, .int v1, .int v2], [], st mi ml z) (qV Q) := by
  refine ev_iload_n (i := 2) rfl rfl (a_dec_at dc_Re_readTruth 5 rfl) ?_
  refine ev_sipush (v := 900) rfl (a_dec_at dc_Re_readTruth 6 rfl) ?_
  refine ev_icmp_ge (tgt := 55) (a_dec_at dc_Re_readTruth 7 rfl) (by decide) (fun b1 => ?_) (fun b1 => ?_)
  · have H := H.1 b1
    exact m_retV (a_dec_at dc_Re_readTruth 26 rfl) rfl H
  · have H := H.2 b1
    refine ev_aload_n (i := 0) rfl rfl (a_dec_at dc_Re_readTruth 8 rfl) ?_
    refine m_getR (y := 12) fl_Re_9 rfl sh13 (mr_13_0 _) (by decide) (a_dec_at dc_Re_readTruth 9 rfl) ?_
    refine ev_bipush (v := 19) rfl (a_dec_at dc_Re_readTruth 10 rfl) ?_
    refine cV1I cs_Re_77 sh12 rfl (Nat.le_of_ble_eq_true rfl) (Nat.le_of_ble_eq_true rfl) (a_dec_at dc_Re_readTruth 11 rfl) ?_
    refine CI.mono (fun x2 mi2 ml2 z2 H => ?_) H
    refine ev_if_eq (tgt := 55) (a_dec_at dc_Re_readTruth 12 rfl) (by decide) (fun b3 => ?_) (fun b3 => ?_)
    · have H := H.1 b3
      exact m_retV (a_dec_at dc_Re_readTruth 26 rfl) rfl H
    · have H := H.2 b3
      refine ev_aload_n (i := 0) rfl rfl (a_dec_at dc_Re_readTruth 13 rfl) ?_
      refine m_getR (y := 12) fl_Re_9 rfl sh13 (mr_13_0 _) (by decide) (a_dec_at dc_Re_readTruth 14 rfl) ?_
      refine cV0V cs_Re_66 sh12 rfl (Nat.le_of_ble_eq_true rfl) (Nat.le_of_ble_eq_true rfl) (a_dec_at dc_Re_readTruth 15 rfl) ?_
      refine CV.mono (fun mi4 ml4 z4 H => ?_) H
      refine ev_aload_n (i := 0) rfl rfl (a_dec_at dc_Re_readTruth 16 rfl) ?_
      refine ev_iload_n (i := 1) rfl rfl (a_dec_at dc_Re_readTruth 17 rfl) ?_
      refine cV1V cs_Re_143 sh13 rfl (Nat.le_of_ble_eq_true rfl) (Nat.le_of_ble_eq_true rfl) (a_dec_at dc_Re_readTruth 18 rfl) ?_
      refine CV.mono (fun mi5 ml5 z5 H => ?_) H
      refine ev_aload_n (i := 0) rfl rfl (a_dec_at dc_Re_readTruth 19 rfl) ?_
      refine m_getR (y := 3) fl_Re_15 rfl sh13 (mr_13_1 _) (by decide) (a_dec_at dc_Re_readTruth 20 rfl) ?_
      refine ev_sipush (v := 13000) rfl (a_dec_at dc_Re_readTruth 21 rfl) ?_
      refine cV1I cs_Re_119 sh3 rfl (Nat.le_of_ble_eq_true rfl) (Nat.le_of_ble_eq_true rfl) (a_dec_at dc_Re_readTruth 22 rfl) ?_
      refine CI.mono (fun x6 mi6 ml6 z6 H => ?_) H
      refine ev_pop rfl (a_dec_at dc_Re_readTruth 23 rfl) ?_
      refine ev_iinc (v := 1) rfl rfl (by decide) rfl (a_dec_at dc_Re_readTruth 24 rfl) ?_
      refine ev_goto (tgt := 7) (a_dec_at dc_Re_readTruth 25 rfl) (by decide) ?_
      exact Ev.drop (L' := [.ref 13, .int v1, .int (v2 + 1)]) (And.intro rfl (And.intro rfl (And.intro rfl trivial))) H
set_option maxRecDepth 20000 in
theorem t_Re_readBoth {l : Launch} {h : Nat} (mi : TMi) (ml : TMl) (z : Nat) (a1 : Int32) {Q : TMi → TMl → Nat → Prop} (H : CV l h m_Re_readUnit [.ref 13, .int a1] mi ml z (fun mi1 ml1 z1 => Ev l (h + 1) m_Re_readBoth 7 ([.ref 13, .int a1, .int 0], [], st mi1 ml1 z1) (qV Q))) : CV l (h + 1) m_Re_readBoth [.ref 13, .int a1] mi ml z Q := by
  show Ev l (h + 1) m_Re_readBoth 0 ([.ref 13, .int a1, .retAddr 0], [], st mi ml z) (qV Q)
  refine ev_aload_n (i := 0) rfl rfl (a_dec_at dc_Re_readBoth 0 rfl) ?_
  refine ev_iload_n (i := 1) rfl rfl (a_dec_at dc_Re_readBoth 1 rfl) ?_
  refine cV1V cs_Re_146 sh13 rfl (Nat.le_of_ble_eq_true rfl) (Nat.le_of_ble_eq_true rfl) (a_dec_at dc_Re_readBoth 2 rfl) ?_
  refine CV.mono (fun mi1 ml1 z1 H => ?_) H
  refine ev_iconst (v := 0) rfl (a_dec_at dc_Re_readBoth 3 rfl) ?_
  refine ev_istore_n (i := 2) rfl (by decide) rfl (a_dec_at dc_Re_readBoth 4 rfl) ?_
  exact Ev.drop (L' := [.ref 13, .int a1, .int 0]) (And.intro rfl (And.intro rfl (And.intro rfl trivial))) H
set_option maxRecDepth 20000 in
theorem t_Re_readBoth_7 {l : Launch} {h : Nat} (mi : TMi) (ml : TMl) (z : Nat) (v1 : Int32) (v2 : Int32) {Q : TMi → TMl → Nat → Prop} (H : ((900 ≤ v2 → Q mi ml z) ∧ (¬ 900 ≤ v2 → CI l h m_To_sees [.ref 12, .int 18] mi ml z (fun x2 mi2 ml2 z2 => ((x2 = 0 → Q mi2 ml2 z2) ∧ (¬ x2 = 0 → CV l h m_To_advance [.ref 12] mi2 ml2 z2 (fun mi4 ml4 z4 => CV l h m_Re_readUnit [.ref 13, .int v1] mi4 ml4 z4 (fun mi5 ml5 z5 => CI l h m_La_addCode [.ref 3, .int 12000] mi5 ml5 z5 (fun x6 mi6 ml6 z6 => Ev l (h + 1) m_Re_readBoth 7 ([.ref 13, .int v1, .int (v2 + 1)], [], st mi6 ml6 z6) (qV Q)))))))))) : Ev l (h + 1) m_Re_readBoth 7 ([.ref 13, .int v1, .int v2], [], st mi ml z) (qV Q) := by
  refine ev_iload_n (i := 2) rfl rfl (a_dec_at dc_Re_readBoth 5 rfl) ?_
  refine ev_sipush (v := 900) rfl (a_dec_at dc_Re_readBoth 6 rfl) ?_
  refine ev_icmp_ge (tgt := 55) (a_dec_at dc_Re_readBoth 7 rfl) (by decide) (fun b1 => ?_) (fun b1 => ?_)
  · have H := H.1 b1
    exact m_retV (a_dec_at dc_Re_readBoth 26 rfl) rfl H
  · have H := H.2 b1
    refine ev_aload_n (i := 0) rfl rfl (a_dec_at dc_Re_readBoth 8 rfl) ?_
    refine m_getR (y := 12) fl_Re_9 rfl sh13 (mr_13_0 _) (by decide) (a_dec_at dc_Re_readBoth 9 rfl) ?_
    refine ev_bipush (v := 18) rfl (a_dec_at dc_Re_readBoth 10 rfl) ?_
    refine cV1I cs_Re_77 sh12 rfl (Nat.le_of_ble_eq_true rfl) (Nat.le_of_ble_eq_true rfl) (a_dec_at dc_Re_readBoth 11 rfl) ?_
    refine CI.mono (fun x2 mi2 ml2 z2 H => ?_) H
    refine ev_if_eq (tgt := 55) (a_dec_at dc_Re_readBoth 12 rfl) (by decide) (fun b3 => ?_) (fun b3 => ?_)
    · have H := H.1 b3
      exact m_retV (a_dec_at dc_Re_readBoth 26 rfl) rfl H
    · have H := H.2 b3
      refine ev_aload_n (i := 0) rfl rfl (a_dec_at dc_Re_readBoth 13 rfl) ?_
      refine m_getR (y := 12) fl_Re_9 rfl sh13 (mr_13_0 _) (by decide) (a_dec_at dc_Re_readBoth 14 rfl) ?_
      refine cV0V cs_Re_66 sh12 rfl (Nat.le_of_ble_eq_true rfl) (Nat.le_of_ble_eq_true rfl) (a_dec_at dc_Re_readBoth 15 rfl) ?_
      refine CV.mono (fun mi4 ml4 z4 H => ?_) H
      refine ev_aload_n (i := 0) rfl rfl (a_dec_at dc_Re_readBoth 16 rfl) ?_
      refine ev_iload_n (i := 1) rfl rfl (a_dec_at dc_Re_readBoth 17 rfl) ?_
      refine cV1V cs_Re_146 sh13 rfl (Nat.le_of_ble_eq_true rfl) (Nat.le_of_ble_eq_true rfl) (a_dec_at dc_Re_readBoth 18 rfl) ?_
      refine CV.mono (fun mi5 ml5 z5 H => ?_) H
      refine ev_aload_n (i := 0) rfl rfl (a_dec_at dc_Re_readBoth 19 rfl) ?_
      refine m_getR (y := 3) fl_Re_15 rfl sh13 (mr_13_1 _) (by decide) (a_dec_at dc_Re_readBoth 20 rfl) ?_
      refine ev_sipush (v := 12000) rfl (a_dec_at dc_Re_readBoth 21 rfl) ?_
      refine cV1I cs_Re_119 sh3 rfl (Nat.le_of_ble_eq_true rfl) (Nat.le_of_ble_eq_true rfl) (a_dec_at dc_Re_readBoth 22 rfl) ?_
      refine CI.mono (fun x6 mi6 ml6 z6 H => ?_) H
      refine ev_pop rfl (a_dec_at dc_Re_readBoth 23 rfl) ?_
      refine ev_iinc (v := 1) rfl rfl (by decide) rfl (a_dec_at dc_Re_readBoth 24 rfl) ?_
      refine ev_goto (tgt := 7) (a_dec_at dc_Re_readBoth 25 rfl) (by decide) ?_
      exact Ev.drop (L' := [.ref 13, .int v1, .int (v2 + 1)]) (And.intro rfl (And.intro rfl (And.intro rfl trivial))) H
set_option maxRecDepth 20000 in
theorem t_Re_readUnit {l : Launch} {h : Nat} (mi : TMi) (ml : TMl) (z : Nat) (a1 : Int32) {Q : TMi → TMl → Nat → Prop} (H : CI l h m_To_sees [.ref 12, .int 17] mi ml z (fun x1 mi1 ml1 z1 => ((x1 = 0 → CI l h m_To_sees [.ref 12, .int 91] mi1 ml1 z1 (fun x3 mi3 ml3 z3 => ((x3 = 0 → CV l h m_Re_readSum [.ref 13, .int a1] mi3 ml3 z3 (fun mi5 ml5 z5 => CI l h m_Re_readComparison [.ref 13] mi5 ml5 z5 (fun x6 mi6 ml6 z6 => CV l h m_Re_readSum [.ref 13, .int a1] mi6 ml6 z6 (fun mi7 ml7 z7 => CI l h m_La_addCode [.ref 3, .int x6] mi7 ml7 z7 (fun x8 mi8 ml8 z8 => Q mi8 ml8 z8))))) ∧ (¬ x3 = 0 → CI l h m_Re_goesIn [.ref 13, .int a1] mi3 ml3 z3 (fun x9 mi9 ml9 z9 => ((x9 = 0 → Q mi9 ml9 z9) ∧ (¬ x9 = 0 → CV l h m_Re_readTruth [.ref 13, .int (a1 + 1)] mi9 ml9 z9 (fun mi11 ml11 z11 => CV l h m_To_expect [.ref 12, .int 93] mi11 ml11 z11 (fun mi12 ml12 z12 => Q mi12 ml12 z12))))))))) ∧ (¬ x1 = 0 → CI l h m_Re_goesIn [.ref 13, .int a1] mi1 ml1 z1 (fun x13 mi13 ml13 z13 => ((x13 = 0 → Q mi13 ml13 z13) ∧ (¬ x13 = 0 → CV l h m_Re_readUnit [.ref 13, .int (a1 + 1)] mi13 ml13 z13 (fun mi15 ml15 z15 => CI l h m_La_addCode [.ref 3, .int 5000] mi15 ml15 z15 (fun x16 mi16 ml16 z16 => Q mi16 ml16 z16))))))))) : CV l (h + 1) m_Re_readUnit [.ref 13, .int a1] mi ml z Q := by
  show Ev l (h + 1) m_Re_readUnit 0 ([.ref 13, .int a1, .retAddr 0], [], st mi ml z) (qV Q)
  refine ev_aload_n (i := 0) rfl rfl (a_dec_at dc_Re_readUnit 0 rfl) ?_
  refine m_getR (y := 12) fl_Re_9 rfl sh13 (mr_13_0 _) (by decide) (a_dec_at dc_Re_readUnit 1 rfl) ?_
  refine ev_bipush (v := 17) rfl (a_dec_at dc_Re_readUnit 2 rfl) ?_
  refine cV1I cs_Re_77 sh12 rfl (Nat.le_of_ble_eq_true rfl) (Nat.le_of_ble_eq_true rfl) (a_dec_at dc_Re_readUnit 3 rfl) ?_
  refine CI.mono (fun x1 mi1 ml1 z1 H => ?_) H
  refine ev_if_eq (tgt := 41) (a_dec_at dc_Re_readUnit 4 rfl) (by decide) (fun b2 => ?_) (fun b2 => ?_)
  · have H := H.1 b2
    refine ev_aload_n (i := 0) rfl rfl (a_dec_at dc_Re_readUnit 20 rfl) ?_
    refine m_getR (y := 12) fl_Re_9 rfl sh13 (mr_13_0 _) (by decide) (a_dec_at dc_Re_readUnit 21 rfl) ?_
    refine ev_bipush (v := 91) rfl (a_dec_at dc_Re_readUnit 22 rfl) ?_
    refine cV1I cs_Re_77 sh12 rfl (Nat.le_of_ble_eq_true rfl) (Nat.le_of_ble_eq_true rfl) (a_dec_at dc_Re_readUnit 23 rfl) ?_
    refine CI.mono (fun x3 mi3 ml3 z3 H => ?_) H
    refine ev_if_eq (tgt := 80) (a_dec_at dc_Re_readUnit 24 rfl) (by decide) (fun b4 => ?_) (fun b4 => ?_)
    · have H := H.1 b4
      refine ev_aload_n (i := 0) rfl rfl (a_dec_at dc_Re_readUnit 39 rfl) ?_
      refine ev_iload_n (i := 1) rfl rfl (a_dec_at dc_Re_readUnit 40 rfl) ?_
      refine cV1V cs_Re_114 sh13 rfl (Nat.le_of_ble_eq_true rfl) (Nat.le_of_ble_eq_true rfl) (a_dec_at dc_Re_readUnit 41 rfl) ?_
      refine CV.mono (fun mi5 ml5 z5 H => ?_) H
      refine ev_aload_n (i := 0) rfl rfl (a_dec_at dc_Re_readUnit 42 rfl) ?_
      refine cV0I cs_Re_149 sh13 rfl (Nat.le_of_ble_eq_true rfl) (Nat.le_of_ble_eq_true rfl) (a_dec_at dc_Re_readUnit 43 rfl) ?_
      refine CI.mono (fun x6 mi6 ml6 z6 H => ?_) H
      refine ev_istore_n (i := 2) rfl (by decide) rfl (a_dec_at dc_Re_readUnit 44 rfl) ?_
      refine ev_aload_n (i := 0) rfl rfl (a_dec_at dc_Re_readUnit 45 rfl) ?_
      refine ev_iload_n (i := 1) rfl rfl (a_dec_at dc_Re_readUnit 46 rfl) ?_
      refine cV1V cs_Re_114 sh13 rfl (Nat.le_of_ble_eq_true rfl) (Nat.le_of_ble_eq_true rfl) (a_dec_at dc_Re_readUnit 47 rfl) ?_
      refine CV.mono (fun mi7 ml7 z7 H => ?_) H
      refine ev_aload_n (i := 0) rfl rfl (a_dec_at dc_Re_readUnit 48 rfl) ?_
      refine m_getR (y := 3) fl_Re_15 rfl sh13 (mr_13_1 _) (by decide) (a_dec_at dc_Re_readUnit 49 rfl) ?_
      refine ev_iload_n (i := 2) rfl rfl (a_dec_at dc_Re_readUnit 50 rfl) ?_
      refine cV1I cs_Re_119 sh3 rfl (Nat.le_of_ble_eq_true rfl) (Nat.le_of_ble_eq_true rfl) (a_dec_at dc_Re_readUnit 51 rfl) ?_
      refine CI.mono (fun x8 mi8 ml8 z8 H => ?_) H
      refine ev_pop rfl (a_dec_at dc_Re_readUnit 52 rfl) ?_
      exact m_retV (a_dec_at dc_Re_readUnit 53 rfl) rfl H
    · have H := H.2 b4
      refine ev_aload_n (i := 0) rfl rfl (a_dec_at dc_Re_readUnit 25 rfl) ?_
      refine ev_iload_n (i := 1) rfl rfl (a_dec_at dc_Re_readUnit 26 rfl) ?_
      refine cV1I cs_Re_128 sh13 rfl (Nat.le_of_ble_eq_true rfl) (Nat.le_of_ble_eq_true rfl) (a_dec_at dc_Re_readUnit 27 rfl) ?_
      refine CI.mono (fun x9 mi9 ml9 z9 H => ?_) H
      refine ev_if_eq (tgt := 104) (a_dec_at dc_Re_readUnit 28 rfl) (by decide) (fun b10 => ?_) (fun b10 => ?_)
      · have H := H.1 b10
        exact m_retV (a_dec_at dc_Re_readUnit 53 rfl) rfl H
      · have H := H.2 b10
        refine ev_aload_n (i := 0) rfl rfl (a_dec_at dc_Re_readUnit 29 rfl) ?_
        refine ev_iload_n (i := 1) rfl rfl (a_dec_at dc_Re_readUnit 30 rfl) ?_
        refine ev_iconst (v := 1) rfl (a_dec_at dc_Re_readUnit 31 rfl) ?_
        refine ev_iadd (a_dec_at dc_Re_readUnit 32 rfl) ?_
        refine cV1V cs_Re_134 sh13 rfl (Nat.le_of_ble_eq_true rfl) (Nat.le_of_ble_eq_true rfl) (a_dec_at dc_Re_readUnit 33 rfl) ?_
        refine CV.mono (fun mi11 ml11 z11 H => ?_) H
        refine ev_aload_n (i := 0) rfl rfl (a_dec_at dc_Re_readUnit 34 rfl) ?_
        refine m_getR (y := 12) fl_Re_9 rfl sh13 (mr_13_0 _) (by decide) (a_dec_at dc_Re_readUnit 35 rfl) ?_
        refine ev_bipush (v := 93) rfl (a_dec_at dc_Re_readUnit 36 rfl) ?_
        refine cV1V cs_Re_26 sh12 rfl (Nat.le_of_ble_eq_true rfl) (Nat.le_of_ble_eq_true rfl) (a_dec_at dc_Re_readUnit 37 rfl) ?_
        refine CV.mono (fun mi12 ml12 z12 H => ?_) H
        refine ev_goto (tgt := 104) (a_dec_at dc_Re_readUnit 38 rfl) (by decide) ?_
        exact m_retV (a_dec_at dc_Re_readUnit 53 rfl) rfl H
  · have H := H.2 b2
    refine ev_aload_n (i := 0) rfl rfl (a_dec_at dc_Re_readUnit 5 rfl) ?_
    refine ev_iload_n (i := 1) rfl rfl (a_dec_at dc_Re_readUnit 6 rfl) ?_
    refine cV1I cs_Re_128 sh13 rfl (Nat.le_of_ble_eq_true rfl) (Nat.le_of_ble_eq_true rfl) (a_dec_at dc_Re_readUnit 7 rfl) ?_
    refine CI.mono (fun x13 mi13 ml13 z13 H => ?_) H
    refine ev_if_eq (tgt := 104) (a_dec_at dc_Re_readUnit 8 rfl) (by decide) (fun b14 => ?_) (fun b14 => ?_)
    · have H := H.1 b14
      exact m_retV (a_dec_at dc_Re_readUnit 53 rfl) rfl H
    · have H := H.2 b14
      refine ev_aload_n (i := 0) rfl rfl (a_dec_at dc_Re_readUnit 9 rfl) ?_
      refine ev_iload_n (i := 1) rfl rfl (a_dec_at dc_Re_readUnit 10 rfl) ?_
      refine ev_iconst (v := 1) rfl (a_dec_at dc_Re_readUnit 11 rfl) ?_
      refine ev_iadd (a_dec_at dc_Re_readUnit 12 rfl) ?_
      refine cV1V cs_Re_146 sh13 rfl (Nat.le_of_ble_eq_true rfl) (Nat.le_of_ble_eq_true rfl) (a_dec_at dc_Re_readUnit 13 rfl) ?_
      refine CV.mono (fun mi15 ml15 z15 H => ?_) H
      refine ev_aload_n (i := 0) rfl rfl (a_dec_at dc_Re_readUnit 14 rfl) ?_
      refine m_getR (y := 3) fl_Re_15 rfl sh13 (mr_13_1 _) (by decide) (a_dec_at dc_Re_readUnit 15 rfl) ?_
      refine ev_sipush (v := 5000) rfl (a_dec_at dc_Re_readUnit 16 rfl) ?_
      refine cV1I cs_Re_119 sh3 rfl (Nat.le_of_ble_eq_true rfl) (Nat.le_of_ble_eq_true rfl) (a_dec_at dc_Re_readUnit 17 rfl) ?_
      refine CI.mono (fun x16 mi16 ml16 z16 H => ?_) H
      refine ev_pop rfl (a_dec_at dc_Re_readUnit 18 rfl) ?_
      refine ev_goto (tgt := 104) (a_dec_at dc_Re_readUnit 19 rfl) (by decide) ?_
      exact m_retV (a_dec_at dc_Re_readUnit 53 rfl) rfl H
set_option maxRecDepth 20000 in
theorem t_Re_readComparison {l : Launch} {h : Nat} (mi : TMi) (ml : TMl) (z : Nat) {Q : Int32 → TMi → TMl → Nat → Prop} (H : CI l h m_To_sees [.ref 12, .int 60] mi ml z (fun x1 mi1 ml1 z1 => ((x1 = 0 → CI l h m_To_sees [.ref 12, .int 62] mi1 ml1 z1 (fun x3 mi3 ml3 z3 => ((x3 = 0 → CI l h m_To_sees [.ref 12, .int 61] mi3 ml3 z3 (fun x5 mi5 ml5 z5 => ((¬ x5 = 0 → CV l h m_To_advance [.ref 12] mi5 ml5 z5 (fun mi7 ml7 z7 => Q 9000 mi7 ml7 z7)) ∧ (x5 = 0 → CV l h m_To_refuse [.ref 12, .int 2] mi5 ml5 z5 (fun mi8 ml8 z8 => CV l h m_To_advance [.ref 12] mi8 ml8 z8 (fun mi9 ml9 z9 => Q 9000 mi9 ml9 z9)))))) ∧ (¬ x3 = 0 → CV l h m_To_advance [.ref 12] mi3 ml3 z3 (fun mi10 ml10 z10 => Q 11000 mi10 ml10 z10))))) ∧ (¬ x1 = 0 → CV l h m_To_advance [.ref 12] mi1 ml1 z1 (fun mi11 ml11 z11 => Q 10000 mi11 ml11 z11))))) : CI l (h + 1) m_Re_readComparison [.ref 13] mi ml z Q := by
  show Ev l (h + 1) m_Re_readComparison 0 ([.ref 13, .retAddr 0], [], st mi ml z) (qI Q)
  refine ev_sipush (v := 9000) rfl (a_dec_at dc_Re_readComparison 0 rfl) ?_
  refine ev_istore_n (i := 1) rfl (by decide) rfl (a_dec_at dc_Re_readComparison 1 rfl) ?_
  refine ev_aload_n (i := 0) rfl rfl (a_dec_at dc_Re_readComparison 2 rfl) ?_
  refine m_getR (y := 12) fl_Re_9 rfl sh13 (mr_13_0 _) (by decide) (a_dec_at dc_Re_readComparison 3 rfl) ?_
  refine ev_bipush (v := 60) rfl (a_dec_at dc_Re_readComparison 4 rfl) ?_
  refine cV1I cs_Re_77 sh12 rfl (Nat.le_of_ble_eq_true rfl) (Nat.le_of_ble_eq_true rfl) (a_dec_at dc_Re_readComparison 5 rfl) ?_
  refine CI.mono (fun x1 mi1 ml1 z1 H => ?_) H
  refine ev_if_eq (tgt := 23) (a_dec_at dc_Re_readComparison 6 rfl) (by decide) (fun b2 => ?_) (fun b2 => ?_)
  · have H := H.1 b2
    refine ev_aload_n (i := 0) rfl rfl (a_dec_at dc_Re_readComparison 10 rfl) ?_
    refine m_getR (y := 12) fl_Re_9 rfl sh13 (mr_13_0 _) (by decide) (a_dec_at dc_Re_readComparison 11 rfl) ?_
    refine ev_bipush (v := 62) rfl (a_dec_at dc_Re_readComparison 12 rfl) ?_
    refine cV1I cs_Re_77 sh12 rfl (Nat.le_of_ble_eq_true rfl) (Nat.le_of_ble_eq_true rfl) (a_dec_at dc_Re_readComparison 13 rfl) ?_
    refine CI.mono (fun x3 mi3 ml3 z3 H => ?_) H
    refine ev_if_eq (tgt := 42) (a_dec_at dc_Re_readComparison 14 rfl) (by decide) (fun b4 => ?_) (fun b4 => ?_)
    · have H := H.1 b4
      refine ev_aload_n (i := 0) rfl rfl (a_dec_at dc_Re_readComparison 18 rfl) ?_
      refine m_getR (y := 12) fl_Re_9 rfl sh13 (mr_13_0 _) (by decide) (a_dec_at dc_Re_readComparison 19 rfl) ?_
      refine ev_bipush (v := 61) rfl (a_dec_at dc_Re_readComparison 20 rfl) ?_
      refine cV1I cs_Re_77 sh12 rfl (Nat.le_of_ble_eq_true rfl) (Nat.le_of_ble_eq_true rfl) (a_dec_at dc_Re_readComparison 21 rfl) ?_
      refine CI.mono (fun x5 mi5 ml5 z5 H => ?_) H
      refine ev_if_ne (tgt := 62) (a_dec_at dc_Re_readComparison 22 rfl) (by decide) (fun b6 => ?_) (fun b6 => ?_)
      · have H := H.1 b6
        refine ev_aload_n (i := 0) rfl rfl (a_dec_at dc_Re_readComparison 27 rfl) ?_
        refine m_getR (y := 12) fl_Re_9 rfl sh13 (mr_13_0 _) (by decide) (a_dec_at dc_Re_readComparison 28 rfl) ?_
        refine cV0V cs_Re_66 sh12 rfl (Nat.le_of_ble_eq_true rfl) (Nat.le_of_ble_eq_true rfl) (a_dec_at dc_Re_readComparison 29 rfl) ?_
        refine CV.mono (fun mi7 ml7 z7 H => ?_) H
        refine ev_iload_n (i := 1) rfl rfl (a_dec_at dc_Re_readComparison 30 rfl) ?_
        exact m_retI (a_dec_at dc_Re_readComparison 31 rfl) rfl rfl H
      · have H := H.2 b6
        refine ev_aload_n (i := 0) rfl rfl (a_dec_at dc_Re_readComparison 23 rfl) ?_
        refine m_getR (y := 12) fl_Re_9 rfl sh13 (mr_13_0 _) (by decide) (a_dec_at dc_Re_readComparison 24 rfl) ?_
        refine ev_iconst (v := 2) rfl (a_dec_at dc_Re_readComparison 25 rfl) ?_
        refine cV1V cs_Re_60 sh12 rfl (Nat.le_of_ble_eq_true rfl) (Nat.le_of_ble_eq_true rfl) (a_dec_at dc_Re_readComparison 26 rfl) ?_
        refine CV.mono (fun mi8 ml8 z8 H => ?_) H
        refine ev_aload_n (i := 0) rfl rfl (a_dec_at dc_Re_readComparison 27 rfl) ?_
        refine m_getR (y := 12) fl_Re_9 rfl sh13 (mr_13_0 _) (by decide) (a_dec_at dc_Re_readComparison 28 rfl) ?_
        refine cV0V cs_Re_66 sh12 rfl (Nat.le_of_ble_eq_true rfl) (Nat.le_of_ble_eq_true rfl) (a_dec_at dc_Re_readComparison 29 rfl) ?_
        refine CV.mono (fun mi9 ml9 z9 H => ?_) H
        refine ev_iload_n (i := 1) rfl rfl (a_dec_at dc_Re_readComparison 30 rfl) ?_
        exact m_retI (a_dec_at dc_Re_readComparison 31 rfl) rfl rfl H
    · have H := H.2 b4
      refine ev_sipush (v := 11000) rfl (a_dec_at dc_Re_readComparison 15 rfl) ?_
      refine ev_istore_n (i := 1) rfl (by decide) rfl (a_dec_at dc_Re_readComparison 16 rfl) ?_
      refine ev_goto (tgt := 62) (a_dec_at dc_Re_readComparison 17 rfl) (by decide) ?_
      refine ev_aload_n (i := 0) rfl rfl (a_dec_at dc_Re_readComparison 27 rfl) ?_
      refine m_getR (y := 12) fl_Re_9 rfl sh13 (mr_13_0 _) (by decide) (a_dec_at dc_Re_readComparison 28 rfl) ?_
      refine cV0V cs_Re_66 sh12 rfl (Nat.le_of_ble_eq_true rfl) (Nat.le_of_ble_eq_true rfl) (a_dec_at dc_Re_readComparison 29 rfl) ?_
      refine CV.mono (fun mi10 ml10 z10 H => ?_) H
      refine ev_iload_n (i := 1) rfl rfl (a_dec_at dc_Re_readComparison 30 rfl) ?_
      exact m_retI (a_dec_at dc_Re_readComparison 31 rfl) rfl rfl H
  · have H := H.2 b2
    refine ev_sipush (v := 10000) rfl (a_dec_at dc_Re_readComparison 7 rfl) ?_
    refine ev_istore_n (i := 1) rfl (by decide) rfl (a_dec_at dc_Re_readComparison 8 rfl) ?_
    refine ev_goto (tgt := 62) (a_dec_at dc_Re_readComparison 9 rfl) (by decide) ?_
    refine ev_aload_n (i := 0) rfl rfl (a_dec_at dc_Re_readComparison 27 rfl) ?_
    refine m_getR (y := 12) fl_Re_9 rfl sh13 (mr_13_0 _) (by decide) (a_dec_at dc_Re_readComparison 28 rfl) ?_
    refine cV0V cs_Re_66 sh12 rfl (Nat.le_of_ble_eq_true rfl) (Nat.le_of_ble_eq_true rfl) (a_dec_at dc_Re_readComparison 29 rfl) ?_
    refine CV.mono (fun mi11 ml11 z11 H => ?_) H
    refine ev_iload_n (i := 1) rfl rfl (a_dec_at dc_Re_readComparison 30 rfl) ?_
    exact m_retI (a_dec_at dc_Re_readComparison 31 rfl) rfl rfl H
set_option maxRecDepth 20000 in
theorem t_Re_aim {l : Launch} {h : Nat} (mi : TMi) (ml : TMl) (z : Nat) (a1 : Int32) {Q : TMi → TMl → Nat → Prop} (H : ((a1 < 0 → Q mi ml z) ∧ (¬ a1 < 0 → (((mi 3 11) ≤ a1 → Q mi ml z) ∧ (¬ (mi 3 11) ≤ a1 → (vp_in a1 900) ∧ (vp_in a1 900) ∧ Q (up mi 11 a1.toNatClampNeg ((mi 11 a1.toNatClampNeg) + (mi 3 11))) ml z))))) : CV l (h + 1) m_Re_aim [.ref 13, .int a1] mi ml z Q := by
  show Ev l (h + 1) m_Re_aim 0 ([.ref 13, .int a1], [], st mi ml z) (qV Q)
  refine ev_iload_n (i := 1) rfl rfl (a_dec_at dc_Re_aim 0 rfl) ?_
  refine ev_if_lt (tgt := 34) (a_dec_at dc_Re_aim 1 rfl) (by decide) (fun b1 => ?_) (fun b1 => ?_)
  · have H := H.1 b1
    exact m_retV (a_dec_at dc_Re_aim 18 rfl) rfl H
  · have H := H.2 b1
    refine ev_iload_n (i := 1) rfl rfl (a_dec_at dc_Re_aim 2 rfl) ?_
    refine ev_aload_n (i := 0) rfl rfl (a_dec_at dc_Re_aim 3 rfl) ?_
    refine m_getR (y := 3) fl_Re_15 rfl sh13 (mr_13_1 _) (by decide) (a_dec_at dc_Re_aim 4 rfl) ?_
    refine m_getI fl_Re_111 rfl sh3 (a_dec_at dc_Re_aim 5 rfl) ?_
    refine ev_icmp_ge (tgt := 34) (a_dec_at dc_Re_aim 6 rfl) (by decide) (fun b2 => ?_) (fun b2 => ?_)
    · have H := H.1 b2
      exact m_retV (a_dec_at dc_Re_aim 18 rfl) rfl H
    · have H := H.2 b2
      refine ev_aload_n (i := 0) rfl rfl (a_dec_at dc_Re_aim 7 rfl) ?_
      refine m_getR (y := 3) fl_Re_15 rfl sh13 (mr_13_1 _) (by decide) (a_dec_at dc_Re_aim 8 rfl) ?_
      refine m_getR (y := 11) fl_Re_140 rfl sh3 (mr_3_10 _) (by decide) (a_dec_at dc_Re_aim 9 rfl) ?_
      refine ev_iload_n (i := 1) rfl rfl (a_dec_at dc_Re_aim 10 rfl) ?_
      refine ev_dup2 rfl rfl (a_dec_at dc_Re_aim 11 rfl) ?_
      obtain ⟨c3, H⟩ := H
      refine w_iald (k := a1.toNatClampNeg) sh11 c3 rfl (a_dec_at dc_Re_aim 12 rfl) ?_
      refine ev_aload_n (i := 0) rfl rfl (a_dec_at dc_Re_aim 13 rfl) ?_
      refine m_getR (y := 3) fl_Re_15 rfl sh13 (mr_13_1 _) (by decide) (a_dec_at dc_Re_aim 14 rfl) ?_
      refine m_getI fl_Re_111 rfl sh3 (a_dec_at dc_Re_aim 15 rfl) ?_
      refine ev_iadd (a_dec_at dc_Re_aim 16 rfl) ?_
      obtain ⟨c4, H⟩ := H
      refine w_iast (k := a1.toNatClampNeg) sh11 c4 rfl (a_dec_at dc_Re_aim 17 rfl) ?_
      exact m_retV (a_dec_at dc_Re_aim 18 rfl) rfl H
