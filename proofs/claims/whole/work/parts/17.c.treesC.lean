set_option maxRecDepth 20000 in
theorem t_Sv_bound {l : Launch} {h : Nat} (mi : TMi) (ml : TMl) (z : Nat) {Q : TMi → TMl → Nat → Prop} (H : CI l h m_La_allBecks [.ref 18] mi ml z (fun x1 mi1 ml1 z1 => CV l h m_Ma_bestForBecks [.ref 55, .ref 17, .int x1] mi1 ml1 z1 (fun mi2 ml2 z2 => CV l h m_Ma_bestForRivers [.ref 55, .ref 17] (cpF mi2 56 61 0 0 6) ml2 z2 (fun mi3 ml3 z3 => Q (cpF mi3 56 62 0 0 6) ml3 z3)))) : CV l (h + 1) m_Sv_bound [.ref 60, .ref 17] mi ml z Q := by
  show Ev l (h + 1) m_Sv_bound 0 ([.ref 60, .ref 17], [], st mi ml z) (qV Q)
  refine ev_aload_n (i := 0) rfl rfl (a_dec_at dc_Sv_bound 0 rfl) ?_
  refine m_getR (y := 55) fl_Sv_33 rfl sh60 (mr_60_0 _) (by decide) (a_dec_at dc_Sv_bound 1 rfl) ?_
  refine ev_aload_n (i := 1) rfl rfl (a_dec_at dc_Sv_bound 2 rfl) ?_
  refine ev_aload_n (i := 1) rfl rfl (a_dec_at dc_Sv_bound 3 rfl) ?_
  refine m_getR (y := 18) fl_Sv_37 rfl sh17 (mr_17_0 _) (by decide) (a_dec_at dc_Sv_bound 4 rfl) ?_
  refine cV0I cs_Sv_43 sh18 rfl (Nat.le_of_ble_eq_true rfl) (Nat.le_of_ble_eq_true rfl) (a_dec_at dc_Sv_bound 5 rfl) ?_
  refine CI.mono (fun x1 mi1 ml1 z1 H => ?_) H
  refine cV2V cs_Sv_49 sh55 rfl (Nat.le_of_ble_eq_true rfl) (Nat.le_of_ble_eq_true rfl) (a_dec_at dc_Sv_bound 6 rfl) ?_
  refine CV.mono (fun mi2 ml2 z2 H => ?_) H
  refine ev_aload_n (i := 0) rfl rfl (a_dec_at dc_Sv_bound 7 rfl) ?_
  refine m_getR (y := 55) fl_Sv_33 rfl sh60 (mr_60_0 _) (by decide) (a_dec_at dc_Sv_bound 8 rfl) ?_
  refine m_getR (y := 56) fl_Sv_55 rfl sh55 (mr_55_0 _) (by decide) (a_dec_at dc_Sv_bound 9 rfl) ?_
  refine ev_iconst (v := 0) rfl (a_dec_at dc_Sv_bound 10 rfl) ?_
  refine ev_aload_n (i := 0) rfl rfl (a_dec_at dc_Sv_bound 11 rfl) ?_
  refine m_getR (y := 61) fl_Sv_9 rfl sh60 (mr_60_2 _) (by decide) (a_dec_at dc_Sv_bound 12 rfl) ?_
  refine ev_iconst (v := 0) rfl (a_dec_at dc_Sv_bound 13 rfl) ?_
  refine ev_bipush (v := 6) rfl (a_dec_at dc_Sv_bound 14 rfl) ?_
  refine w_copy (ks := 0) (kd := 0) (kn := 6) cs_Sv_56 sh56 sh61 (by decide) (by decide) (by decide) (by decide) (Nat.le_of_ble_eq_true rfl) (a_dec_at dc_Sv_bound 15 rfl) ?_
  refine ev_aload_n (i := 0) rfl rfl (a_dec_at dc_Sv_bound 16 rfl) ?_
  refine m_getR (y := 55) fl_Sv_33 rfl sh60 (mr_60_0 _) (by decide) (a_dec_at dc_Sv_bound 17 rfl) ?_
  refine ev_aload_n (i := 1) rfl rfl (a_dec_at dc_Sv_bound 18 rfl) ?_
  refine cV1V cs_Sv_62 sh55 rfl (Nat.le_of_ble_eq_true rfl) (Nat.le_of_ble_eq_true rfl) (a_dec_at dc_Sv_bound 19 rfl) ?_
  refine CV.mono (fun mi3 ml3 z3 H => ?_) H
  refine ev_aload_n (i := 0) rfl rfl (a_dec_at dc_Sv_bound 20 rfl) ?_
  refine m_getR (y := 55) fl_Sv_33 rfl sh60 (mr_60_0 _) (by decide) (a_dec_at dc_Sv_bound 21 rfl) ?_
  refine m_getR (y := 56) fl_Sv_55 rfl sh55 (mr_55_0 _) (by decide) (a_dec_at dc_Sv_bound 22 rfl) ?_
  refine ev_iconst (v := 0) rfl (a_dec_at dc_Sv_bound 23 rfl) ?_
  refine ev_aload_n (i := 0) rfl rfl (a_dec_at dc_Sv_bound 24 rfl) ?_
  refine m_getR (y := 62) fl_Sv_15 rfl sh60 (mr_60_3 _) (by decide) (a_dec_at dc_Sv_bound 25 rfl) ?_
  refine ev_iconst (v := 0) rfl (a_dec_at dc_Sv_bound 26 rfl) ?_
  refine ev_bipush (v := 6) rfl (a_dec_at dc_Sv_bound 27 rfl) ?_
  refine w_copy (ks := 0) (kd := 0) (kn := 6) cs_Sv_56 sh56 sh62 (by decide) (by decide) (by decide) (by decide) (Nat.le_of_ble_eq_true rfl) (a_dec_at dc_Sv_bound 28 rfl) ?_
  exact m_retV (a_dec_at dc_Sv_bound 29 rfl) rfl H
set_option maxRecDepth 20000 in
theorem t_Sv_goThrough {l : Launch} {h : Nat} (mi : TMi) (ml : TMl) (z : Nat) (a2 : Int32) {Q : TMi → TMl → Nat → Prop} (H : CV l h m_JA_fill [.ref 66, .int 0] (up (up (up (up (up mi 60 7 a2) 60 8 (-1)) 60 9 0) 60 10 (-1)) 60 11 10) ml 17 (fun mi1 ml1 z1 => z1 = 17 ∧ CV l h m_JA_fill [.ref 67, .int 0] mi1 ml1 17 (fun mi2 ml2 z2 => z2 = 17 ∧ CV l h m_JA_fill [.ref 65, .int 0] mi2 ml2 17 (fun mi3 ml3 z3 => z3 = 17 ∧ CV l h m_Sv_bound [.ref 60, .ref 17] mi3 ml3 17 (fun mi4 ml4 z4 => z4 = 17 ∧ Ev l (h + 1) m_Sv_goThrough 62 ([.ref 60, .ref 17, .retAddr 0, .int 0], [], st mi4 ml4 17) (qV Q)))))) : CV l (h + 1) m_Sv_goThrough [.ref 60, .ref 17, .int a2] mi ml z Q := by
  show Ev l (h + 1) m_Sv_goThrough 0 ([.ref 60, .ref 17, .int a2, .retAddr 0], [], st mi ml z) (qV Q)
  refine ev_aload_n (i := 0) rfl rfl (a_dec_at dc_Sv_goThrough 0 rfl) ?_
  refine ev_aload_n (i := 1) rfl rfl (a_dec_at dc_Sv_goThrough 1 rfl) ?_
  refine w_putScene fl_Sv_66 (by decide) (a_dec_at dc_Sv_goThrough 2 rfl) ?_
  refine ev_aload_n (i := 0) rfl rfl (a_dec_at dc_Sv_goThrough 3 rfl) ?_
  refine ev_iload_n (i := 2) rfl rfl (a_dec_at dc_Sv_goThrough 4 rfl) ?_
  refine m_putI fl_Sv_70 rfl (fun _ _ _ h => by cases h; exact Or.inl rfl) sh60 (a_dec_at dc_Sv_goThrough 5 rfl) ?_
  refine ev_aload_n (i := 0) rfl rfl (a_dec_at dc_Sv_goThrough 6 rfl) ?_
  refine ev_iconst (v := (-1)) rfl (a_dec_at dc_Sv_goThrough 7 rfl) ?_
  refine m_putI fl_Sv_74 rfl (fun _ _ _ h => by cases h; exact Or.inl rfl) sh60 (a_dec_at dc_Sv_goThrough 8 rfl) ?_
  refine ev_aload_n (i := 0) rfl rfl (a_dec_at dc_Sv_goThrough 9 rfl) ?_
  refine ev_iconst (v := 0) rfl (a_dec_at dc_Sv_goThrough 10 rfl) ?_
  refine m_putI fl_Sv_77 rfl (fun _ _ _ h => by cases h; exact Or.inl rfl) sh60 (a_dec_at dc_Sv_goThrough 11 rfl) ?_
  refine ev_aload_n (i := 0) rfl rfl (a_dec_at dc_Sv_goThrough 12 rfl) ?_
  refine ev_iconst (v := (-1)) rfl (a_dec_at dc_Sv_goThrough 13 rfl) ?_
  refine m_putI fl_Sv_80 rfl (fun _ _ _ h => by cases h; exact Or.inl rfl) sh60 (a_dec_at dc_Sv_goThrough 14 rfl) ?_
  refine ev_aload_n (i := 0) rfl rfl (a_dec_at dc_Sv_goThrough 15 rfl) ?_
  refine ev_bipush (v := 10) rfl (a_dec_at dc_Sv_goThrough 16 rfl) ?_
  refine m_putI fl_Sv_83 rfl (fun _ _ _ h => by cases h; exact Or.inl rfl) sh60 (a_dec_at dc_Sv_goThrough 17 rfl) ?_
  refine ev_aload_n (i := 0) rfl rfl (a_dec_at dc_Sv_goThrough 18 rfl) ?_
  refine m_getR (y := 66) fl_Sv_27 rfl sh60 (mr_60_12 _) (by decide) (a_dec_at dc_Sv_goThrough 19 rfl) ?_
  refine ev_iconst (v := 0) rfl (a_dec_at dc_Sv_goThrough 20 rfl) ?_
  refine cS2V cs_Sv_86 rfl (Nat.le_of_ble_eq_true rfl) (Nat.le_of_ble_eq_true rfl) (a_dec_at dc_Sv_goThrough 21 rfl) ?_
  refine CV.mono (fun mi1 ml1 z1 H => ?_) H
  obtain ⟨hz1, H⟩ := H
  subst hz1
  refine ev_aload_n (i := 0) rfl rfl (a_dec_at dc_Sv_goThrough 22 rfl) ?_
  refine m_getR (y := 67) fl_Sv_30 rfl sh60 (mr_60_13 _) (by decide) (a_dec_at dc_Sv_goThrough 23 rfl) ?_
  refine ev_iconst (v := 0) rfl (a_dec_at dc_Sv_goThrough 24 rfl) ?_
  refine cS2V cs_Sv_86 rfl (Nat.le_of_ble_eq_true rfl) (Nat.le_of_ble_eq_true rfl) (a_dec_at dc_Sv_goThrough 25 rfl) ?_
  refine CV.mono (fun mi2 ml2 z2 H => ?_) H
  obtain ⟨hz2, H⟩ := H
  subst hz2
  refine ev_aload_n (i := 0) rfl rfl (a_dec_at dc_Sv_goThrough 26 rfl) ?_
  refine m_getR (y := 65) fl_Sv_24 rfl sh60 (mr_60_6 _) (by decide) (a_dec_at dc_Sv_goThrough 27 rfl) ?_
  refine ev_iconst (v := 0) rfl (a_dec_at dc_Sv_goThrough 28 rfl) ?_
  refine cS2V cs_Sv_86 rfl (Nat.le_of_ble_eq_true rfl) (Nat.le_of_ble_eq_true rfl) (a_dec_at dc_Sv_goThrough 29 rfl) ?_
  refine CV.mono (fun mi3 ml3 z3 H => ?_) H
  obtain ⟨hz3, H⟩ := H
  subst hz3
  refine ev_aload_n (i := 0) rfl rfl (a_dec_at dc_Sv_goThrough 30 rfl) ?_
  refine ev_aload_n (i := 1) rfl rfl (a_dec_at dc_Sv_goThrough 31 rfl) ?_
  refine cV1V cs_Sv_92 sh60 rfl (Nat.le_of_ble_eq_true rfl) (Nat.le_of_ble_eq_true rfl) (a_dec_at dc_Sv_goThrough 32 rfl) ?_
  refine CV.mono (fun mi4 ml4 z4 H => ?_) H
  obtain ⟨hz4, H⟩ := H
  subst hz4
  refine ev_iconst (v := 0) rfl (a_dec_at dc_Sv_goThrough 33 rfl) ?_
  refine ev_istore_n (i := 3) rfl (by decide) rfl (a_dec_at dc_Sv_goThrough 34 rfl) ?_
  exact Ev.drop (L' := [.ref 60, .ref 17, .retAddr 0, .int 0]) (And.intro rfl (And.intro rfl (And.intro rfl trivial))) H
set_option maxRecDepth 20000 in
theorem t_Sv_goThrough_62 {l : Launch} {h : Nat} (mi : TMi) (ml : TMl) (z : Nat) (v3 : Int32) {Q : TMi → TMl → Nat → Prop} (H : (((mi 18 0) ≤ v3 → CV l h m_Sv_placeFrom [.ref 60, .int ((mi 18 0) - 1)] mi ml z (fun mi2 ml2 z2 => Q mi2 ml2 z2)) ∧ (¬ (mi 18 0) ≤ v3 → CI l h m_Sv_between [.ref 60, .int v3] mi ml z (fun x3 mi3 ml3 z3 => (vp_in v3 6) ∧ Ev l (h + 1) m_Sv_goThrough 62 ([.ref 60, .ref 17, .retAddr 0, .int (v3 + 1)], [], st (up mi3 63 v3.toNatClampNeg x3) ml3 z3) (qV Q))))) : Ev l (h + 1) m_Sv_goThrough 62 ([.ref 60, .ref 17, .retAddr 0, .int v3], [], st mi ml z) (qV Q) := by
  refine ev_iload_n (i := 3) rfl rfl (a_dec_at dc_Sv_goThrough 35 rfl) ?_
  refine ev_aload_n (i := 1) rfl rfl (a_dec_at dc_Sv_goThrough 36 rfl) ?_
  refine m_getR (y := 18) fl_Sv_37 rfl sh17 (mr_17_0 _) (by decide) (a_dec_at dc_Sv_goThrough 37 rfl) ?_
  refine m_getI fl_Sv_95 rfl sh18 (a_dec_at dc_Sv_goThrough 38 rfl) ?_
  refine ev_icmp_ge (tgt := 90) (a_dec_at dc_Sv_goThrough 39 rfl) (by decide) (fun b1 => ?_) (fun b1 => ?_)
  · have H := H.1 b1
    refine ev_aload_n (i := 0) rfl rfl (a_dec_at dc_Sv_goThrough 49 rfl) ?_
    refine ev_aload_n (i := 1) rfl rfl (a_dec_at dc_Sv_goThrough 50 rfl) ?_
    refine m_getR (y := 18) fl_Sv_37 rfl sh17 (mr_17_0 _) (by decide) (a_dec_at dc_Sv_goThrough 51 rfl) ?_
    refine m_getI fl_Sv_95 rfl sh18 (a_dec_at dc_Sv_goThrough 52 rfl) ?_
    refine ev_iconst (v := 1) rfl (a_dec_at dc_Sv_goThrough 53 rfl) ?_
    refine ev_isub (a_dec_at dc_Sv_goThrough 54 rfl) ?_
    refine cV1V cs_Sv_102 sh60 rfl (Nat.le_of_ble_eq_true rfl) (Nat.le_of_ble_eq_true rfl) (a_dec_at dc_Sv_goThrough 55 rfl) ?_
    refine CV.mono (fun mi2 ml2 z2 H => ?_) H
    exact m_retV (a_dec_at dc_Sv_goThrough 56 rfl) rfl H
  · have H := H.2 b1
    refine ev_aload_n (i := 0) rfl rfl (a_dec_at dc_Sv_goThrough 40 rfl) ?_
    refine m_getR (y := 63) fl_Sv_18 rfl sh60 (mr_60_4 _) (by decide) (a_dec_at dc_Sv_goThrough 41 rfl) ?_
    refine ev_iload_n (i := 3) rfl rfl (a_dec_at dc_Sv_goThrough 42 rfl) ?_
    refine ev_aload_n (i := 0) rfl rfl (a_dec_at dc_Sv_goThrough 43 rfl) ?_
    refine ev_iload_n (i := 3) rfl rfl (a_dec_at dc_Sv_goThrough 44 rfl) ?_
    refine cV1I cs_Sv_98 sh60 rfl (Nat.le_of_ble_eq_true rfl) (Nat.le_of_ble_eq_true rfl) (a_dec_at dc_Sv_goThrough 45 rfl) ?_
    refine CI.mono (fun x3 mi3 ml3 z3 H => ?_) H
    obtain ⟨c4, H⟩ := H
    refine w_iast (k := v3.toNatClampNeg) sh63 c4 rfl (a_dec_at dc_Sv_goThrough 46 rfl) ?_
    refine ev_iinc (v := 1) rfl rfl (by decide) rfl (a_dec_at dc_Sv_goThrough 47 rfl) ?_
    refine ev_goto (tgt := 62) (a_dec_at dc_Sv_goThrough 48 rfl) (by decide) ?_
    exact Ev.drop (L' := [.ref 60, .ref 17, .retAddr 0, .int (v3 + 1)]) (And.intro rfl (And.intro rfl (And.intro rfl trivial))) H
set_option maxRecDepth 20000 in
theorem t_Sv_fullestNumber {l : Launch} {h : Nat} (mi : TMi) (ml : TMl) (z : Nat) {Q : Int32 → TMi → TMl → Nat → Prop} (H : CV l h m_JA_fill [.ref 65, .int 0] mi ml 17 (fun mi1 ml1 z1 => z1 = 17 ∧ Ev l (h + 1) m_Sv_fullestNumber 15 ([.ref 60, .ref 17, .int 0], [], st mi1 ml1 17) (qI Q))) : CI l (h + 1) m_Sv_fullestNumber [.ref 60, .ref 17] mi ml z Q := by
  show Ev l (h + 1) m_Sv_fullestNumber 0 ([.ref 60, .ref 17, .retAddr 0], [], st mi ml z) (qI Q)
  refine ev_aload_n (i := 0) rfl rfl (a_dec_at dc_Sv_fullestNumber 0 rfl) ?_
  refine ev_aload_n (i := 1) rfl rfl (a_dec_at dc_Sv_fullestNumber 1 rfl) ?_
  refine w_putScene fl_Sv_66 (by decide) (a_dec_at dc_Sv_fullestNumber 2 rfl) ?_
  refine ev_aload_n (i := 0) rfl rfl (a_dec_at dc_Sv_fullestNumber 3 rfl) ?_
  refine m_getR (y := 65) fl_Sv_24 rfl sh60 (mr_60_6 _) (by decide) (a_dec_at dc_Sv_fullestNumber 4 rfl) ?_
  refine ev_iconst (v := 0) rfl (a_dec_at dc_Sv_fullestNumber 5 rfl) ?_
  refine cS2V cs_Sv_86 rfl (Nat.le_of_ble_eq_true rfl) (Nat.le_of_ble_eq_true rfl) (a_dec_at dc_Sv_fullestNumber 6 rfl) ?_
  refine CV.mono (fun mi1 ml1 z1 H => ?_) H
  obtain ⟨hz1, H⟩ := H
  subst hz1
  refine ev_iconst (v := 0) rfl (a_dec_at dc_Sv_fullestNumber 7 rfl) ?_
  refine ev_istore_n (i := 2) rfl (by decide) rfl (a_dec_at dc_Sv_fullestNumber 8 rfl) ?_
  exact Ev.drop (L' := [.ref 60, .ref 17, .int 0]) (And.intro rfl (And.intro rfl (And.intro rfl trivial))) H
set_option maxRecDepth 20000 in
theorem t_Sv_fullestNumber_15 {l : Launch} {h : Nat} (mi : TMi) (ml : TMl) (z : Nat) (v2 : Int32) {Q : Int32 → TMi → TMl → Nat → Prop} (H : (((mi 18 0) < v2 → Q 0 mi ml z) ∧ (¬ (mi 18 0) < v2 → CI l h m_Sv_fillsFrom [.ref 60, .int ((mi 18 0) - 1), .int v2] mi ml z (fun x2 mi2 ml2 z2 => ((x2 = 0 → Ev l (h + 1) m_Sv_fullestNumber 15 ([.ref 60, .ref 17, .int (v2 + 1)], [], st mi2 ml2 z2) (qI Q)) ∧ (¬ x2 = 0 → CI l h m_Sv_numberOf [.ref 60] mi2 ml2 z2 (fun x4 mi4 ml4 z4 => Q x4 mi4 ml4 z4))))))) : Ev l (h + 1) m_Sv_fullestNumber 15 ([.ref 60, .ref 17, .int v2], [], st mi ml z) (qI Q) := by
  refine ev_iload_n (i := 2) rfl rfl (a_dec_at dc_Sv_fullestNumber 9 rfl) ?_
  refine ev_aload_n (i := 1) rfl rfl (a_dec_at dc_Sv_fullestNumber 10 rfl) ?_
  refine m_getR (y := 18) fl_Sv_37 rfl sh17 (mr_17_0 _) (by decide) (a_dec_at dc_Sv_fullestNumber 11 rfl) ?_
  refine m_getI fl_Sv_95 rfl sh18 (a_dec_at dc_Sv_fullestNumber 12 rfl) ?_
  refine ev_icmp_gt (tgt := 54) (a_dec_at dc_Sv_fullestNumber 13 rfl) (by decide) (fun b1 => ?_) (fun b1 => ?_)
  · have H := H.1 b1
    refine ev_iconst (v := 0) rfl (a_dec_at dc_Sv_fullestNumber 28 rfl) ?_
    exact m_retI (a_dec_at dc_Sv_fullestNumber 29 rfl) rfl rfl H
  · have H := H.2 b1
    refine ev_aload_n (i := 0) rfl rfl (a_dec_at dc_Sv_fullestNumber 14 rfl) ?_
    refine ev_aload_n (i := 1) rfl rfl (a_dec_at dc_Sv_fullestNumber 15 rfl) ?_
    refine m_getR (y := 18) fl_Sv_37 rfl sh17 (mr_17_0 _) (by decide) (a_dec_at dc_Sv_fullestNumber 16 rfl) ?_
    refine m_getI fl_Sv_95 rfl sh18 (a_dec_at dc_Sv_fullestNumber 17 rfl) ?_
    refine ev_iconst (v := 1) rfl (a_dec_at dc_Sv_fullestNumber 18 rfl) ?_
    refine ev_isub (a_dec_at dc_Sv_fullestNumber 19 rfl) ?_
    refine ev_iload_n (i := 2) rfl rfl (a_dec_at dc_Sv_fullestNumber 20 rfl) ?_
    refine cV2I cs_Sv_146 sh60 rfl (Nat.le_of_ble_eq_true rfl) (Nat.le_of_ble_eq_true rfl) (a_dec_at dc_Sv_fullestNumber 21 rfl) ?_
    refine CI.mono (fun x2 mi2 ml2 z2 H => ?_) H
    refine ev_if_eq (tgt := 48) (a_dec_at dc_Sv_fullestNumber 22 rfl) (by decide) (fun b3 => ?_) (fun b3 => ?_)
    · have H := H.1 b3
      refine ev_iinc (v := 1) rfl rfl (by decide) rfl (a_dec_at dc_Sv_fullestNumber 26 rfl) ?_
      refine ev_goto (tgt := 15) (a_dec_at dc_Sv_fullestNumber 27 rfl) (by decide) ?_
      exact Ev.drop (L' := [.ref 60, .ref 17, .int (v2 + 1)]) (And.intro rfl (And.intro rfl (And.intro rfl trivial))) H
    · have H := H.2 b3
      refine ev_aload_n (i := 0) rfl rfl (a_dec_at dc_Sv_fullestNumber 23 rfl) ?_
      refine cV0I cs_Sv_143 sh60 rfl (Nat.le_of_ble_eq_true rfl) (Nat.le_of_ble_eq_true rfl) (a_dec_at dc_Sv_fullestNumber 24 rfl) ?_
      refine CI.mono (fun x4 mi4 ml4 z4 H => ?_) H
      exact m_retI (a_dec_at dc_Sv_fullestNumber 25 rfl) rfl rfl H
set_option maxRecDepth 20000 in
theorem t_Sv_between {l : Launch} {h : Nat} (mi : TMi) (ml : TMl) (a1 : Int32) {Q : Int32 → TMi → TMl → Nat → Prop} (H : (vp_in a1 6) ∧ (((mi 61 a1.toNatClampNeg) = (-1) → Q 0 mi ml 17) ∧ (¬ (mi 61 a1.toNatClampNeg) = (-1) → (vp_in a1 6) ∧ ((¬ (mi 62 a1.toNatClampNeg) = (-1) → Ev l (h + 1) m_Sv_between 26 ([.ref 60, .int a1, .int 0, .int 0, .retAddr 0], [], st mi ml 17) (qI Q)) ∧ ((mi 62 a1.toNatClampNeg) = (-1) → Q 0 mi ml 17))))) : CI l (h + 1) m_Sv_between [.ref 60, .int a1] mi ml 17 Q := by
  show Ev l (h + 1) m_Sv_between 0 ([.ref 60, .int a1, .retAddr 0, .retAddr 0, .retAddr 0], [], st mi ml 17) (qI Q)
  refine ev_iconst (v := 0) rfl (a_dec_at dc_Sv_between 0 rfl) ?_
  refine ev_istore_n (i := 2) rfl (by decide) rfl (a_dec_at dc_Sv_between 1 rfl) ?_
  refine ev_aload_n (i := 0) rfl rfl (a_dec_at dc_Sv_between 2 rfl) ?_
  refine m_getR (y := 61) fl_Sv_9 rfl sh60 (mr_60_2 _) (by decide) (a_dec_at dc_Sv_between 3 rfl) ?_
  refine ev_iload_n (i := 1) rfl rfl (a_dec_at dc_Sv_between 4 rfl) ?_
  obtain ⟨c1, H⟩ := H
  refine w_iald (k := a1.toNatClampNeg) sh61 c1 rfl (a_dec_at dc_Sv_between 5 rfl) ?_
  refine ev_iconst (v := (-1)) rfl (a_dec_at dc_Sv_between 6 rfl) ?_
  refine ev_icmp_eq (tgt := 22) (a_dec_at dc_Sv_between 7 rfl) (by decide) (fun b2 => ?_) (fun b2 => ?_)
  · have H := H.1 b2
    refine ev_iload_n (i := 2) rfl rfl (a_dec_at dc_Sv_between 14 rfl) ?_
    exact m_retI (a_dec_at dc_Sv_between 15 rfl) rfl rfl H
  · have H := H.2 b2
    refine ev_aload_n (i := 0) rfl rfl (a_dec_at dc_Sv_between 8 rfl) ?_
    refine m_getR (y := 62) fl_Sv_15 rfl sh60 (mr_60_3 _) (by decide) (a_dec_at dc_Sv_between 9 rfl) ?_
    refine ev_iload_n (i := 1) rfl rfl (a_dec_at dc_Sv_between 10 rfl) ?_
    obtain ⟨c3, H⟩ := H
    refine w_iald (k := a1.toNatClampNeg) sh62 c3 rfl (a_dec_at dc_Sv_between 11 rfl) ?_
    refine ev_iconst (v := (-1)) rfl (a_dec_at dc_Sv_between 12 rfl) ?_
    refine ev_icmp_ne (tgt := 24) (a_dec_at dc_Sv_between 13 rfl) (by decide) (fun b4 => ?_) (fun b4 => ?_)
    · have H := H.1 b4
      refine ev_iconst (v := 0) rfl (a_dec_at dc_Sv_between 16 rfl) ?_
      refine ev_istore_n (i := 3) rfl (by decide) rfl (a_dec_at dc_Sv_between 17 rfl) ?_
      exact Ev.drop (L' := [.ref 60, .int a1, .int 0, .int 0, .retAddr 0]) (And.intro rfl (And.intro rfl (And.intro rfl (And.intro rfl trivial)))) H
    · have H := H.2 b4
      refine ev_iload_n (i := 2) rfl rfl (a_dec_at dc_Sv_between 14 rfl) ?_
      exact m_retI (a_dec_at dc_Sv_between 15 rfl) rfl rfl H
set_option maxRecDepth 20000 in
theorem t_Sv_between_26 {l : Launch} {h : Nat} (mi : TMi) (ml : TMl) (v1 : Int32) (v2 : Int32) (v3 : Int32) {Q : Int32 → TMi → TMl → Nat → Prop} (H : (((mi 18 1) ≤ v3 → Q v2 mi ml 17) ∧ (¬ (mi 18 1) ≤ v3 → (vp_in v1 6) ∧ CI l h m_Sc_likesBetter [.ref 17, .int v1, .int v3, .int (mi 61 v1.toNatClampNeg)] mi ml 17 (fun x3 mi3 ml3 z3 => z3 = 17 ∧ ((¬ x3 = 0 → CI l h m_Sc_bothWould [.ref 17, .int v1, .int v3] mi3 ml3 17 (fun x5 mi5 ml5 z5 => z5 = 17 ∧ ((x5 = 0 → Ev l (h + 1) m_Sv_between 26 ([.ref 60, .int v1, .int v2, .int (v3 + 1), .retAddr 0], [], st mi5 ml5 17) (qI Q)) ∧ (¬ x5 = 0 → Ev l (h + 1) m_Sv_between 26 ([.ref 60, .int v1, .int v2, .int (v3 + 1), .retAddr 0], [], st mi5 ml5 17) (qI Q))))) ∧ (x3 = 0 → (vp_in v1 6) ∧ CI l h m_Sc_likesBetter [.ref 17, .int v1, .int (mi3 62 v1.toNatClampNeg), .int v3] mi3 ml3 17 (fun x8 mi8 ml8 z8 => z8 = 17 ∧ ((¬ x8 = 0 → CI l h m_Sc_bothWould [.ref 17, .int v1, .int v3] mi8 ml8 17 (fun x10 mi10 ml10 z10 => z10 = 17 ∧ ((x10 = 0 → Ev l (h + 1) m_Sv_between 26 ([.ref 60, .int v1, .int v2, .int (v3 + 1), .retAddr 0], [], st mi10 ml10 17) (qI Q)) ∧ (¬ x10 = 0 → Ev l (h + 1) m_Sv_between 26 ([.ref 60, .int v1, .int v2, .int (v3 + 1), .retAddr 0], [], st mi10 ml10 17) (qI Q))))) ∧ (x8 = 0 → CI l h m_Sc_bothWould [.ref 17, .int v1, .int v3] mi8 ml8 17 (fun x12 mi12 ml12 z12 => z12 = 17 ∧ ((x12 = 0 → Ev l (h + 1) m_Sv_between 26 ([.ref 60, .int v1, .int v2, .int (v3 + 1), .retAddr 0], [], st mi12 ml12 17) (qI Q)) ∧ (¬ x12 = 0 → Ev l (h + 1) m_Sv_between 26 ([.ref 60, .int v1, .int (v2 ||| ((1 : Int32) <<< (v3 &&& 31))), .int (v3 + 1), .retAddr 0], [], st mi12 ml12 17) (qI Q))))))))))))) : Ev l (h + 1) m_Sv_between 26 ([.ref 60, .int v1, .int v2, .int v3, .retAddr 0], [], st mi ml 17) (qI Q) := by
  refine ev_iload_n (i := 3) rfl rfl (a_dec_at dc_Sv_between 18 rfl) ?_
  refine ev_aload_n (i := 0) rfl rfl (a_dec_at dc_Sv_between 19 rfl) ?_
  refine m_getR (y := 17) fl_Sv_66 rfl sh60 (mr_60_1 _) (by decide) (a_dec_at dc_Sv_between 20 rfl) ?_
  refine m_getR (y := 18) fl_Sv_37 rfl sh17 (mr_17_0 _) (by decide) (a_dec_at dc_Sv_between 21 rfl) ?_
  refine m_getI fl_Sv_106 rfl sh18 (a_dec_at dc_Sv_between 22 rfl) ?_
  refine ev_icmp_ge (tgt := 112) (a_dec_at dc_Sv_between 23 rfl) (by decide) (fun b1 => ?_) (fun b1 => ?_)
  · have H := H.1 b1
    refine ev_iload_n (i := 2) rfl rfl (a_dec_at dc_Sv_between 64 rfl) ?_
    exact m_retI (a_dec_at dc_Sv_between 65 rfl) rfl rfl H
  · have H := H.2 b1
    refine ev_aload_n (i := 0) rfl rfl (a_dec_at dc_Sv_between 24 rfl) ?_
    refine m_getR (y := 17) fl_Sv_66 rfl sh60 (mr_60_1 _) (by decide) (a_dec_at dc_Sv_between 25 rfl) ?_
    refine ev_iload_n (i := 1) rfl rfl (a_dec_at dc_Sv_between 26 rfl) ?_
    refine ev_iload_n (i := 3) rfl rfl (a_dec_at dc_Sv_between 27 rfl) ?_
    refine ev_aload_n (i := 0) rfl rfl (a_dec_at dc_Sv_between 28 rfl) ?_
    refine m_getR (y := 61) fl_Sv_9 rfl sh60 (mr_60_2 _) (by decide) (a_dec_at dc_Sv_between 29 rfl) ?_
    refine ev_iload_n (i := 1) rfl rfl (a_dec_at dc_Sv_between 30 rfl) ?_
    obtain ⟨c2, H⟩ := H
    refine w_iald (k := v1.toNatClampNeg) sh61 c2 rfl (a_dec_at dc_Sv_between 31 rfl) ?_
    refine cV3I cs_Sv_109 sh17 rfl (Nat.le_of_ble_eq_true rfl) (Nat.le_of_ble_eq_true rfl) (a_dec_at dc_Sv_between 32 rfl) ?_
    refine CI.mono (fun x3 mi3 ml3 z3 H => ?_) H
    obtain ⟨hz3, H⟩ := H
    subst hz3
    refine ev_if_ne (tgt := 80) (a_dec_at dc_Sv_between 33 rfl) (by decide) (fun b4 => ?_) (fun b4 => ?_)
    · have H := H.1 b4
      refine ev_iconst (v := 0) rfl (a_dec_at dc_Sv_between 46 rfl) ?_
      refine ev_istore (by decide) rfl (a_dec_at dc_Sv_between 47 rfl) ?_
      refine ev_aload_n (i := 0) rfl rfl (a_dec_at dc_Sv_between 48 rfl) ?_
      refine m_getR (y := 17) fl_Sv_66 rfl sh60 (mr_60_1 _) (by decide) (a_dec_at dc_Sv_between 49 rfl) ?_
      refine ev_iload_n (i := 1) rfl rfl (a_dec_at dc_Sv_between 50 rfl) ?_
      refine ev_iload_n (i := 3) rfl rfl (a_dec_at dc_Sv_between 51 rfl) ?_
      refine cV2I cs_Sv_113 sh17 rfl (Nat.le_of_ble_eq_true rfl) (Nat.le_of_ble_eq_true rfl) (a_dec_at dc_Sv_between 52 rfl) ?_
      refine CI.mono (fun x5 mi5 ml5 z5 H => ?_) H
      obtain ⟨hz5, H⟩ := H
      subst hz5
      refine ev_if_eq (tgt := 106) (a_dec_at dc_Sv_between 53 rfl) (by decide) (fun b6 => ?_) (fun b6 => ?_)
      · have H := H.1 b6
        refine ev_iinc (v := 1) rfl rfl (by decide) rfl (a_dec_at dc_Sv_between 62 rfl) ?_
        refine ev_goto (tgt := 26) (a_dec_at dc_Sv_between 63 rfl) (by decide) ?_
        exact Ev.drop (L' := [.ref 60, .int v1, .int v2, .int (v3 + 1), .retAddr 0]) (And.intro rfl (And.intro rfl (And.intro rfl (And.intro rfl trivial)))) H
      · have H := H.2 b6
        refine ev_iload rfl (a_dec_at dc_Sv_between 54 rfl) ?_
        refine ev_if_eq (tgt := 106) (a_dec_at dc_Sv_between 55 rfl) (by decide) (fun _ => ?_) (fun q => absurd (by decide) q)
        refine ev_iinc (v := 1) rfl rfl (by decide) rfl (a_dec_at dc_Sv_between 62 rfl) ?_
        refine ev_goto (tgt := 26) (a_dec_at dc_Sv_between 63 rfl) (by decide) ?_
        exact Ev.drop (L' := [.ref 60, .int v1, .int v2, .int (v3 + 1), .retAddr 0]) (And.intro rfl (And.intro rfl (And.intro rfl (And.intro rfl trivial)))) H
    · have H := H.2 b4
      refine ev_aload_n (i := 0) rfl rfl (a_dec_at dc_Sv_between 34 rfl) ?_
      refine m_getR (y := 17) fl_Sv_66 rfl sh60 (mr_60_1 _) (by decide) (a_dec_at dc_Sv_between 35 rfl) ?_
      refine ev_iload_n (i := 1) rfl rfl (a_dec_at dc_Sv_between 36 rfl) ?_
      refine ev_aload_n (i := 0) rfl rfl (a_dec_at dc_Sv_between 37 rfl) ?_
      refine m_getR (y := 62) fl_Sv_15 rfl sh60 (mr_60_3 _) (by decide) (a_dec_at dc_Sv_between 38 rfl) ?_
      refine ev_iload_n (i := 1) rfl rfl (a_dec_at dc_Sv_between 39 rfl) ?_
      obtain ⟨c7, H⟩ := H
      refine w_iald (k := v1.toNatClampNeg) sh62 c7 rfl (a_dec_at dc_Sv_between 40 rfl) ?_
      refine ev_iload_n (i := 3) rfl rfl (a_dec_at dc_Sv_between 41 rfl) ?_
      refine cV3I cs_Sv_109 sh17 rfl (Nat.le_of_ble_eq_true rfl) (Nat.le_of_ble_eq_true rfl) (a_dec_at dc_Sv_between 42 rfl) ?_
      refine CI.mono (fun x8 mi8 ml8 z8 H => ?_) H
      obtain ⟨hz8, H⟩ := H
      subst hz8
      refine ev_if_ne (tgt := 80) (a_dec_at dc_Sv_between 43 rfl) (by decide) (fun b9 => ?_) (fun b9 => ?_)
      · have H := H.1 b9
        refine ev_iconst (v := 0) rfl (a_dec_at dc_Sv_between 46 rfl) ?_
        refine ev_istore (by decide) rfl (a_dec_at dc_Sv_between 47 rfl) ?_
        refine ev_aload_n (i := 0) rfl rfl (a_dec_at dc_Sv_between 48 rfl) ?_
        refine m_getR (y := 17) fl_Sv_66 rfl sh60 (mr_60_1 _) (by decide) (a_dec_at dc_Sv_between 49 rfl) ?_
        refine ev_iload_n (i := 1) rfl rfl (a_dec_at dc_Sv_between 50 rfl) ?_
        refine ev_iload_n (i := 3) rfl rfl (a_dec_at dc_Sv_between 51 rfl) ?_
        refine cV2I cs_Sv_113 sh17 rfl (Nat.le_of_ble_eq_true rfl) (Nat.le_of_ble_eq_true rfl) (a_dec_at dc_Sv_between 52 rfl) ?_
        refine CI.mono (fun x10 mi10 ml10 z10 H => ?_) H
        obtain ⟨hz10, H⟩ := H
        subst hz10
        refine ev_if_eq (tgt := 106) (a_dec_at dc_Sv_between 53 rfl) (by decide) (fun b11 => ?_) (fun b11 => ?_)
        · have H := H.1 b11
          refine ev_iinc (v := 1) rfl rfl (by decide) rfl (a_dec_at dc_Sv_between 62 rfl) ?_
          refine ev_goto (tgt := 26) (a_dec_at dc_Sv_between 63 rfl) (by decide) ?_
          exact Ev.drop (L' := [.ref 60, .int v1, .int v2, .int (v3 + 1), .retAddr 0]) (And.intro rfl (And.intro rfl (And.intro rfl (And.intro rfl trivial)))) H
        · have H := H.2 b11
          refine ev_iload rfl (a_dec_at dc_Sv_between 54 rfl) ?_
          refine ev_if_eq (tgt := 106) (a_dec_at dc_Sv_between 55 rfl) (by decide) (fun _ => ?_) (fun q => absurd (by decide) q)
          refine ev_iinc (v := 1) rfl rfl (by decide) rfl (a_dec_at dc_Sv_between 62 rfl) ?_
          refine ev_goto (tgt := 26) (a_dec_at dc_Sv_between 63 rfl) (by decide) ?_
          exact Ev.drop (L' := [.ref 60, .int v1, .int v2, .int (v3 + 1), .retAddr 0]) (And.intro rfl (And.intro rfl (And.intro rfl (And.intro rfl trivial)))) H
      · have H := H.2 b9
        refine ev_iconst (v := 1) rfl (a_dec_at dc_Sv_between 44 rfl) ?_
        refine ev_goto (tgt := 81) (a_dec_at dc_Sv_between 45 rfl) (by decide) ?_
        refine ev_istore (by decide) rfl (a_dec_at dc_Sv_between 47 rfl) ?_
        refine ev_aload_n (i := 0) rfl rfl (a_dec_at dc_Sv_between 48 rfl) ?_
        refine m_getR (y := 17) fl_Sv_66 rfl sh60 (mr_60_1 _) (by decide) (a_dec_at dc_Sv_between 49 rfl) ?_
        refine ev_iload_n (i := 1) rfl rfl (a_dec_at dc_Sv_between 50 rfl) ?_
        refine ev_iload_n (i := 3) rfl rfl (a_dec_at dc_Sv_between 51 rfl) ?_
        refine cV2I cs_Sv_113 sh17 rfl (Nat.le_of_ble_eq_true rfl) (Nat.le_of_ble_eq_true rfl) (a_dec_at dc_Sv_between 52 rfl) ?_
        refine CI.mono (fun x12 mi12 ml12 z12 H => ?_) H
        obtain ⟨hz12, H⟩ := H
        subst hz12
        refine ev_if_eq (tgt := 106) (a_dec_at dc_Sv_between 53 rfl) (by decide) (fun b13 => ?_) (fun b13 => ?_)
        · have H := H.1 b13
          refine ev_iinc (v := 1) rfl rfl (by decide) rfl (a_dec_at dc_Sv_between 62 rfl) ?_
          refine ev_goto (tgt := 26) (a_dec_at dc_Sv_between 63 rfl) (by decide) ?_
          exact Ev.drop (L' := [.ref 60, .int v1, .int v2, .int (v3 + 1), .retAddr 0]) (And.intro rfl (And.intro rfl (And.intro rfl (And.intro rfl trivial)))) H
        · have H := H.2 b13
          refine ev_iload rfl (a_dec_at dc_Sv_between 54 rfl) ?_
          refine ev_if_eq (tgt := 106) (a_dec_at dc_Sv_between 55 rfl) (by decide) (fun q => absurd q (by decide)) (fun _ => ?_)
          refine ev_iload_n (i := 2) rfl rfl (a_dec_at dc_Sv_between 56 rfl) ?_
          refine ev_iconst (v := 1) rfl (a_dec_at dc_Sv_between 57 rfl) ?_
          refine ev_iload_n (i := 3) rfl rfl (a_dec_at dc_Sv_between 58 rfl) ?_
          refine ev_ishl (a_dec_at dc_Sv_between 59 rfl) ?_
          refine ev_ior (a_dec_at dc_Sv_between 60 rfl) ?_
          refine ev_istore_n (i := 2) rfl (by decide) rfl (a_dec_at dc_Sv_between 61 rfl) ?_
          refine ev_iinc (v := 1) rfl rfl (by decide) rfl (a_dec_at dc_Sv_between 62 rfl) ?_
          refine ev_goto (tgt := 26) (a_dec_at dc_Sv_between 63 rfl) (by decide) ?_
          exact Ev.drop (L' := [.ref 60, .int v1, .int (v2 ||| ((1 : Int32) <<< (v3 &&& 31))), .int (v3 + 1), .retAddr 0]) (And.intro rfl (And.intro rfl (And.intro rfl (And.intro rfl trivial)))) H
set_option maxRecDepth 20000 in
theorem t_Sv_placeFrom {l : Launch} {h : Nat} (mi : TMi) (ml : TMl) (a1 : Int32) {Q : TMi → TMl → Nat → Prop} (H : ((0 ≤ a1 → (vp_in a1 6) ∧ ((¬ (mi 63 a1.toNatClampNeg) = 0 → Ev l (h + 1) m_Sv_placeFrom 49 ([.ref 60, .int a1, .int 0], [], st mi ml 17) (qV Q)) ∧ ((mi 63 a1.toNatClampNeg) = 0 → (vp_in a1 6) ∧ CV l h m_Sv_placeFrom [.ref 60, .int (a1 - 1)] (up mi 64 a1.toNatClampNeg (-1)) ml 17 (fun mi5 ml5 z5 => z5 = 17 ∧ Q mi5 ml5 17)))) ∧ (¬ 0 ≤ a1 → CI l h m_Sc_isHeld [.ref 17, .ref 64] mi ml 17 (fun x6 mi6 ml6 z6 => z6 = 17 ∧ ((x6 = 0 → Q mi6 ml6 17) ∧ (¬ x6 = 0 → CV l h m_Sv_weigh [.ref 60] mi6 ml6 17 (fun mi8 ml8 z8 => z8 = 17 ∧ Q mi8 ml8 17))))))) : CV l (h + 1) m_Sv_placeFrom [.ref 60, .int a1] mi ml 17 Q := by
  show Ev l (h + 1) m_Sv_placeFrom 0 ([.ref 60, .int a1, .retAddr 0], [], st mi ml 17) (qV Q)
  refine ev_iload_n (i := 1) rfl rfl (a_dec_at dc_Sv_placeFrom 0 rfl) ?_
  refine ev_if_ge (tgt := 23) (a_dec_at dc_Sv_placeFrom 1 rfl) (by decide) (fun b1 => ?_) (fun b1 => ?_)
  · have H := H.1 b1
    refine ev_aload_n (i := 0) rfl rfl (a_dec_at dc_Sv_placeFrom 11 rfl) ?_
    refine m_getR (y := 63) fl_Sv_18 rfl sh60 (mr_60_4 _) (by decide) (a_dec_at dc_Sv_placeFrom 12 rfl) ?_
    refine ev_iload_n (i := 1) rfl rfl (a_dec_at dc_Sv_placeFrom 13 rfl) ?_
    obtain ⟨c2, H⟩ := H
    refine w_iald (k := a1.toNatClampNeg) sh63 c2 rfl (a_dec_at dc_Sv_placeFrom 14 rfl) ?_
    refine ev_if_ne (tgt := 47) (a_dec_at dc_Sv_placeFrom 15 rfl) (by decide) (fun b3 => ?_) (fun b3 => ?_)
    · have H := H.1 b3
      refine ev_iconst (v := 0) rfl (a_dec_at dc_Sv_placeFrom 27 rfl) ?_
      refine ev_istore_n (i := 2) rfl (by decide) rfl (a_dec_at dc_Sv_placeFrom 28 rfl) ?_
      exact Ev.drop (L' := [.ref 60, .int a1, .int 0]) (And.intro rfl (And.intro rfl (And.intro rfl trivial))) H
    · have H := H.2 b3
      refine ev_aload_n (i := 0) rfl rfl (a_dec_at dc_Sv_placeFrom 16 rfl) ?_
      refine m_getR (y := 64) fl_Sv_21 rfl sh60 (mr_60_5 _) (by decide) (a_dec_at dc_Sv_placeFrom 17 rfl) ?_
      refine ev_iload_n (i := 1) rfl rfl (a_dec_at dc_Sv_placeFrom 18 rfl) ?_
      refine ev_iconst (v := (-1)) rfl (a_dec_at dc_Sv_placeFrom 19 rfl) ?_
      obtain ⟨c4, H⟩ := H
      refine w_iast (k := a1.toNatClampNeg) sh64 c4 rfl (a_dec_at dc_Sv_placeFrom 20 rfl) ?_
      refine ev_aload_n (i := 0) rfl rfl (a_dec_at dc_Sv_placeFrom 21 rfl) ?_
      refine ev_iload_n (i := 1) rfl rfl (a_dec_at dc_Sv_placeFrom 22 rfl) ?_
      refine ev_iconst (v := 1) rfl (a_dec_at dc_Sv_placeFrom 23 rfl) ?_
      refine ev_isub (a_dec_at dc_Sv_placeFrom 24 rfl) ?_
      refine cV1V cs_Sv_102 sh60 rfl (Nat.le_of_ble_eq_true rfl) (Nat.le_of_ble_eq_true rfl) (a_dec_at dc_Sv_placeFrom 25 rfl) ?_
      refine CV.mono (fun mi5 ml5 z5 H => ?_) H
      obtain ⟨hz5, H⟩ := H
      subst hz5
      exact m_retV (a_dec_at dc_Sv_placeFrom 26 rfl) rfl H
  · have H := H.2 b1
    refine ev_aload_n (i := 0) rfl rfl (a_dec_at dc_Sv_placeFrom 2 rfl) ?_
    refine m_getR (y := 17) fl_Sv_66 rfl sh60 (mr_60_1 _) (by decide) (a_dec_at dc_Sv_placeFrom 3 rfl) ?_
    refine ev_aload_n (i := 0) rfl rfl (a_dec_at dc_Sv_placeFrom 4 rfl) ?_
    refine m_getR (y := 64) fl_Sv_21 rfl sh60 (mr_60_5 _) (by decide) (a_dec_at dc_Sv_placeFrom 5 rfl) ?_
    refine cV1I cs_Sv_117 sh17 rfl (Nat.le_of_ble_eq_true rfl) (Nat.le_of_ble_eq_true rfl) (a_dec_at dc_Sv_placeFrom 6 rfl) ?_
    refine CI.mono (fun x6 mi6 ml6 z6 H => ?_) H
    obtain ⟨hz6, H⟩ := H
    subst hz6
    refine ev_if_eq (tgt := 22) (a_dec_at dc_Sv_placeFrom 7 rfl) (by decide) (fun b7 => ?_) (fun b7 => ?_)
    · have H := H.1 b7
      exact m_retV (a_dec_at dc_Sv_placeFrom 10 rfl) rfl H
    · have H := H.2 b7
      refine ev_aload_n (i := 0) rfl rfl (a_dec_at dc_Sv_placeFrom 8 rfl) ?_
      refine cV0V cs_Sv_121 sh60 rfl (Nat.le_of_ble_eq_true rfl) (Nat.le_of_ble_eq_true rfl) (a_dec_at dc_Sv_placeFrom 9 rfl) ?_
      refine CV.mono (fun mi8 ml8 z8 H => ?_) H
      obtain ⟨hz8, H⟩ := H
      subst hz8
      exact m_retV (a_dec_at dc_Sv_placeFrom 10 rfl) rfl H
set_option maxRecDepth 20000 in
theorem t_Sv_placeFrom_49 {l : Launch} {h : Nat} (mi : TMi) (ml : TMl) (v1 : Int32) (v2 : Int32) {Q : TMi → TMl → Nat → Prop} (H : (((mi 18 1) ≤ v2 → Q mi ml 17) ∧ (¬ (mi 18 1) ≤ v2 → (vp_in v1 6) ∧ (((((mi 63 v1.toNatClampNeg) >>> (v2 &&& 31)) &&& 1) = 0 → Ev l (h + 1) m_Sv_placeFrom 49 ([.ref 60, .int v1, .int (v2 + 1)], [], st mi ml 17) (qV Q)) ∧ (¬ (((mi 63 v1.toNatClampNeg) >>> (v2 &&& 31)) &&& 1) = 0 → (vp_in v2 4) ∧ CI l h m_Sc_roomOf [.ref 17, .int v2] mi ml 17 (fun x5 mi5 ml5 z5 => z5 = 17 ∧ ((x5 ≤ (mi 65 v2.toNatClampNeg) → Ev l (h + 1) m_Sv_placeFrom 49 ([.ref 60, .int v1, .int (v2 + 1)], [], st mi5 ml5 17) (qV Q)) ∧ (¬ x5 ≤ (mi 65 v2.toNatClampNeg) → (vp_in v1 6) ∧ (vp_in v2 4) ∧ (vp_in v2 4) ∧ CV l h m_Sv_placeFrom [.ref 60, .int (v1 - 1)] (up (up mi5 64 v1.toNatClampNeg v2) 65 v2.toNatClampNeg (((up mi5 64 v1.toNatClampNeg v2) 65 v2.toNatClampNeg) + 1)) ml5 17 (fun mi10 ml10 z10 => z10 = 17 ∧ (vp_in v2 4) ∧ (vp_in v2 4) ∧ Ev l (h + 1) m_Sv_placeFrom 49 ([.ref 60, .int v1, .int (v2 + 1)], [], st (up mi10 65 v2.toNatClampNeg ((mi10 65 v2.toNatClampNeg) - 1)) ml10 17) (qV Q)))))))))) : Ev l (h + 1) m_Sv_placeFrom 49 ([.ref 60, .int v1, .int v2], [], st mi ml 17) (qV Q) := by
  refine ev_iload_n (i := 2) rfl rfl (a_dec_at dc_Sv_placeFrom 29 rfl) ?_
  refine ev_aload_n (i := 0) rfl rfl (a_dec_at dc_Sv_placeFrom 30 rfl) ?_
  refine m_getR (y := 17) fl_Sv_66 rfl sh60 (mr_60_1 _) (by decide) (a_dec_at dc_Sv_placeFrom 31 rfl) ?_
  refine m_getR (y := 18) fl_Sv_37 rfl sh17 (mr_17_0 _) (by decide) (a_dec_at dc_Sv_placeFrom 32 rfl) ?_
  refine m_getI fl_Sv_106 rfl sh18 (a_dec_at dc_Sv_placeFrom 33 rfl) ?_
  refine ev_icmp_ge (tgt := 133) (a_dec_at dc_Sv_placeFrom 34 rfl) (by decide) (fun b1 => ?_) (fun b1 => ?_)
  · have H := H.1 b1
    exact m_retV (a_dec_at dc_Sv_placeFrom 81 rfl) rfl H
  · have H := H.2 b1
    refine ev_aload_n (i := 0) rfl rfl (a_dec_at dc_Sv_placeFrom 35 rfl) ?_
    refine m_getR (y := 63) fl_Sv_18 rfl sh60 (mr_60_4 _) (by decide) (a_dec_at dc_Sv_placeFrom 36 rfl) ?_
    refine ev_iload_n (i := 1) rfl rfl (a_dec_at dc_Sv_placeFrom 37 rfl) ?_
    obtain ⟨c2, H⟩ := H
    refine w_iald (k := v1.toNatClampNeg) sh63 c2 rfl (a_dec_at dc_Sv_placeFrom 38 rfl) ?_
    refine ev_iload_n (i := 2) rfl rfl (a_dec_at dc_Sv_placeFrom 39 rfl) ?_
    refine ev_ishr (a_dec_at dc_Sv_placeFrom 40 rfl) ?_
    refine ev_iconst (v := 1) rfl (a_dec_at dc_Sv_placeFrom 41 rfl) ?_
    refine ev_iand (a_dec_at dc_Sv_placeFrom 42 rfl) ?_
    refine ev_if_eq (tgt := 127) (a_dec_at dc_Sv_placeFrom 43 rfl) (by decide) (fun b3 => ?_) (fun b3 => ?_)
    · have H := H.1 b3
      refine ev_iinc (v := 1) rfl rfl (by decide) rfl (a_dec_at dc_Sv_placeFrom 79 rfl) ?_
      refine ev_goto (tgt := 49) (a_dec_at dc_Sv_placeFrom 80 rfl) (by decide) ?_
      exact Ev.drop (L' := [.ref 60, .int v1, .int (v2 + 1)]) (And.intro rfl (And.intro rfl (And.intro rfl trivial))) H
    · have H := H.2 b3
      refine ev_aload_n (i := 0) rfl rfl (a_dec_at dc_Sv_placeFrom 44 rfl) ?_
      refine m_getR (y := 65) fl_Sv_24 rfl sh60 (mr_60_6 _) (by decide) (a_dec_at dc_Sv_placeFrom 45 rfl) ?_
      refine ev_iload_n (i := 2) rfl rfl (a_dec_at dc_Sv_placeFrom 46 rfl) ?_
      obtain ⟨c4, H⟩ := H
      refine w_iald (k := v2.toNatClampNeg) sh65 c4 rfl (a_dec_at dc_Sv_placeFrom 47 rfl) ?_
      refine ev_aload_n (i := 0) rfl rfl (a_dec_at dc_Sv_placeFrom 48 rfl) ?_
      refine m_getR (y := 17) fl_Sv_66 rfl sh60 (mr_60_1 _) (by decide) (a_dec_at dc_Sv_placeFrom 49 rfl) ?_
      refine ev_iload_n (i := 2) rfl rfl (a_dec_at dc_Sv_placeFrom 50 rfl) ?_
      refine cV1I cs_Sv_124 sh17 rfl (Nat.le_of_ble_eq_true rfl) (Nat.le_of_ble_eq_true rfl) (a_dec_at dc_Sv_placeFrom 51 rfl) ?_
      refine CI.mono (fun x5 mi5 ml5 z5 H => ?_) H
      obtain ⟨hz5, H⟩ := H
      subst hz5
      refine ev_icmp_ge (tgt := 127) (a_dec_at dc_Sv_placeFrom 52 rfl) (by decide) (fun b6 => ?_) (fun b6 => ?_)
      · have H := H.1 b6
        refine ev_iinc (v := 1) rfl rfl (by decide) rfl (a_dec_at dc_Sv_placeFrom 79 rfl) ?_
        refine ev_goto (tgt := 49) (a_dec_at dc_Sv_placeFrom 80 rfl) (by decide) ?_
        exact Ev.drop (L' := [.ref 60, .int v1, .int (v2 + 1)]) (And.intro rfl (And.intro rfl (And.intro rfl trivial))) H
      · have H := H.2 b6
        refine ev_aload_n (i := 0) rfl rfl (a_dec_at dc_Sv_placeFrom 53 rfl) ?_
        refine m_getR (y := 64) fl_Sv_21 rfl sh60 (mr_60_5 _) (by decide) (a_dec_at dc_Sv_placeFrom 54 rfl) ?_
        refine ev_iload_n (i := 1) rfl rfl (a_dec_at dc_Sv_placeFrom 55 rfl) ?_
        refine ev_iload_n (i := 2) rfl rfl (a_dec_at dc_Sv_placeFrom 56 rfl) ?_
        obtain ⟨c7, H⟩ := H
        refine w_iast (k := v1.toNatClampNeg) sh64 c7 rfl (a_dec_at dc_Sv_placeFrom 57 rfl) ?_
        refine ev_aload_n (i := 0) rfl rfl (a_dec_at dc_Sv_placeFrom 58 rfl) ?_
        refine m_getR (y := 65) fl_Sv_24 rfl sh60 (mr_60_6 _) (by decide) (a_dec_at dc_Sv_placeFrom 59 rfl) ?_
        refine ev_iload_n (i := 2) rfl rfl (a_dec_at dc_Sv_placeFrom 60 rfl) ?_
        refine ev_dup2 rfl rfl (a_dec_at dc_Sv_placeFrom 61 rfl) ?_
        obtain ⟨c8, H⟩ := H
        refine w_iald (k := v2.toNatClampNeg) sh65 c8 rfl (a_dec_at dc_Sv_placeFrom 62 rfl) ?_
        refine ev_iconst (v := 1) rfl (a_dec_at dc_Sv_placeFrom 63 rfl) ?_
        refine ev_iadd (a_dec_at dc_Sv_placeFrom 64 rfl) ?_
        obtain ⟨c9, H⟩ := H
        refine w_iast (k := v2.toNatClampNeg) sh65 c9 rfl (a_dec_at dc_Sv_placeFrom 65 rfl) ?_
        refine ev_aload_n (i := 0) rfl rfl (a_dec_at dc_Sv_placeFrom 66 rfl) ?_
        refine ev_iload_n (i := 1) rfl rfl (a_dec_at dc_Sv_placeFrom 67 rfl) ?_
        refine ev_iconst (v := 1) rfl (a_dec_at dc_Sv_placeFrom 68 rfl) ?_
        refine ev_isub (a_dec_at dc_Sv_placeFrom 69 rfl) ?_
        refine cV1V cs_Sv_102 sh60 rfl (Nat.le_of_ble_eq_true rfl) (Nat.le_of_ble_eq_true rfl) (a_dec_at dc_Sv_placeFrom 70 rfl) ?_
        refine CV.mono (fun mi10 ml10 z10 H => ?_) H
        obtain ⟨hz10, H⟩ := H
        subst hz10
        refine ev_aload_n (i := 0) rfl rfl (a_dec_at dc_Sv_placeFrom 71 rfl) ?_
        refine m_getR (y := 65) fl_Sv_24 rfl sh60 (mr_60_6 _) (by decide) (a_dec_at dc_Sv_placeFrom 72 rfl) ?_
        refine ev_iload_n (i := 2) rfl rfl (a_dec_at dc_Sv_placeFrom 73 rfl) ?_
        refine ev_dup2 rfl rfl (a_dec_at dc_Sv_placeFrom 74 rfl) ?_
        obtain ⟨c11, H⟩ := H
        refine w_iald (k := v2.toNatClampNeg) sh65 c11 rfl (a_dec_at dc_Sv_placeFrom 75 rfl) ?_
        refine ev_iconst (v := 1) rfl (a_dec_at dc_Sv_placeFrom 76 rfl) ?_
        refine ev_isub (a_dec_at dc_Sv_placeFrom 77 rfl) ?_
        obtain ⟨c12, H⟩ := H
        refine w_iast (k := v2.toNatClampNeg) sh65 c12 rfl (a_dec_at dc_Sv_placeFrom 78 rfl) ?_
        refine ev_iinc (v := 1) rfl rfl (by decide) rfl (a_dec_at dc_Sv_placeFrom 79 rfl) ?_
        refine ev_goto (tgt := 49) (a_dec_at dc_Sv_placeFrom 80 rfl) (by decide) ?_
        exact Ev.drop (L' := [.ref 60, .int v1, .int (v2 + 1)]) (And.intro rfl (And.intro rfl (And.intro rfl trivial))) H
set_option maxRecDepth 20000 in
theorem t_Sv_weigh {l : Launch} {h : Nat} (mi : TMi) (ml : TMl) {Q : TMi → TMl → Nat → Prop} (H : Ev l (h + 1) m_Sv_weigh 4 ([.ref 60, .int 0, .int 0, .retAddr 0], [], st mi ml 17) (qV Q)) : CV l (h + 1) m_Sv_weigh [.ref 60] mi ml 17 Q := by
  show Ev l (h + 1) m_Sv_weigh 0 ([.ref 60, .retAddr 0, .retAddr 0, .retAddr 0], [], st mi ml 17) (qV Q)
  refine ev_iconst (v := 0) rfl (a_dec_at dc_Sv_weigh 0 rfl) ?_
  refine ev_istore_n (i := 1) rfl (by decide) rfl (a_dec_at dc_Sv_weigh 1 rfl) ?_
  refine ev_iconst (v := 0) rfl (a_dec_at dc_Sv_weigh 2 rfl) ?_
  refine ev_istore_n (i := 2) rfl (by decide) rfl (a_dec_at dc_Sv_weigh 3 rfl) ?_
  exact Ev.drop (L' := [.ref 60, .int 0, .int 0, .retAddr 0]) (And.intro rfl (And.intro rfl (And.intro rfl trivial))) H
set_option maxRecDepth 20000 in
theorem t_Sv_weigh_4 {l : Launch} {h : Nat} (mi : TMi) (ml : TMl) (v1 : Int32) (v2 : Int32) {Q : TMi → TMl → Nat → Prop} (H : (((mi 18 0) ≤ v2 → Ev l (h + 1) m_Sv_weigh 78 ([.ref 60, .int v1, .int 0, .retAddr 0], [], st mi ml 17) (qV Q)) ∧ (¬ (mi 18 0) ≤ v2 → (vp_in v2 6) ∧ ((¬ (mi 64 v2.toNatClampNeg) = (-1) → CI l h m_Sc_rankOf [.ref 17, .int v2, .int (mi 64 v2.toNatClampNeg)] mi ml 17 (fun x4 mi4 ml4 z4 => z4 = 17 ∧ (vp_in v2 6) ∧ ((¬ (mi 64 v2.toNatClampNeg) = (-1) → (vp_in v2 6) ∧ Ev l (h + 1) m_Sv_weigh 4 ([.ref 60, .int (if v1 < x4 then x4 else v1), .int (v2 + 1), .retAddr 0], [], st (up mi4 66 v2.toNatClampNeg ((mi4 66 v2.toNatClampNeg) ||| ((1 : Int32) <<< ((mi 64 v2.toNatClampNeg) &&& 31)))) ml4 17) (qV Q)) ∧ ((mi 64 v2.toNatClampNeg) = (-1) → (vp_in v2 6) ∧ Ev l (h + 1) m_Sv_weigh 4 ([.ref 60, .int (if v1 < x4 then x4 else v1), .int (v2 + 1), .retAddr 0], [], st (up mi4 66 v2.toNatClampNeg ((mi4 66 v2.toNatClampNeg) ||| 0)) ml4 17) (qV Q))))) ∧ ((mi 64 v2.toNatClampNeg) = (-1) → (vp_in v2 6) ∧ ((¬ (mi 64 v2.toNatClampNeg) = (-1) → (vp_in v2 6) ∧ Ev l (h + 1) m_Sv_weigh 4 ([.ref 60, .int (if v1 < 9 then 9 else v1), .int (v2 + 1), .retAddr 0], [], st (up mi 66 v2.toNatClampNeg ((mi 66 v2.toNatClampNeg) ||| ((1 : Int32) <<< ((mi 64 v2.toNatClampNeg) &&& 31)))) ml 17) (qV Q)) ∧ ((mi 64 v2.toNatClampNeg) = (-1) → (vp_in v2 6) ∧ Ev l (h + 1) m_Sv_weigh 4 ([.ref 60, .int (if v1 < 9 then 9 else v1), .int (v2 + 1), .retAddr 0], [], st (up mi 66 v2.toNatClampNeg ((mi 66 v2.toNatClampNeg) ||| 0)) ml 17) (qV Q)))))))) : Ev l (h + 1) m_Sv_weigh 4 ([.ref 60, .int v1, .int v2, .retAddr 0], [], st mi ml 17) (qV Q) := by
  refine ev_iload_n (i := 2) rfl rfl (a_dec_at dc_Sv_weigh 4 rfl) ?_
  refine ev_aload_n (i := 0) rfl rfl (a_dec_at dc_Sv_weigh 5 rfl) ?_
  refine m_getR (y := 17) fl_Sv_66 rfl sh60 (mr_60_1 _) (by decide) (a_dec_at dc_Sv_weigh 6 rfl) ?_
  refine m_getR (y := 18) fl_Sv_37 rfl sh17 (mr_17_0 _) (by decide) (a_dec_at dc_Sv_weigh 7 rfl) ?_
  refine m_getI fl_Sv_95 rfl sh18 (a_dec_at dc_Sv_weigh 8 rfl) ?_
  refine ev_icmp_ge (tgt := 76) (a_dec_at dc_Sv_weigh 9 rfl) (by decide) (fun b1 => ?_) (fun b1 => ?_)
  · have H := H.1 b1
    refine ev_iconst (v := 0) rfl (a_dec_at dc_Sv_weigh 45 rfl) ?_
    refine ev_istore_n (i := 2) rfl (by decide) rfl (a_dec_at dc_Sv_weigh 46 rfl) ?_
    exact Ev.drop (L' := [.ref 60, .int v1, .int 0, .retAddr 0]) (And.intro rfl (And.intro rfl (And.intro rfl trivial))) H
  · have H := H.2 b1
    refine ev_aload_n (i := 0) rfl rfl (a_dec_at dc_Sv_weigh 10 rfl) ?_
    refine m_getR (y := 64) fl_Sv_21 rfl sh60 (mr_60_5 _) (by decide) (a_dec_at dc_Sv_weigh 11 rfl) ?_
    refine ev_iload_n (i := 2) rfl rfl (a_dec_at dc_Sv_weigh 12 rfl) ?_
    obtain ⟨c2, H⟩ := H
    refine w_iald (k := v2.toNatClampNeg) sh64 c2 rfl (a_dec_at dc_Sv_weigh 13 rfl) ?_
    refine ev_istore_n (i := 3) rfl (by decide) rfl (a_dec_at dc_Sv_weigh 14 rfl) ?_
    refine ev_iload_n (i := 1) rfl rfl (a_dec_at dc_Sv_weigh 15 rfl) ?_
    refine ev_iload_n (i := 3) rfl rfl (a_dec_at dc_Sv_weigh 16 rfl) ?_
    refine ev_iconst (v := (-1)) rfl (a_dec_at dc_Sv_weigh 17 rfl) ?_
    refine ev_icmp_ne (tgt := 36) (a_dec_at dc_Sv_weigh 18 rfl) (by decide) (fun b3 => ?_) (fun b3 => ?_)
    · have H := H.1 b3
      refine ev_aload_n (i := 0) rfl rfl (a_dec_at dc_Sv_weigh 21 rfl) ?_
      refine m_getR (y := 17) fl_Sv_66 rfl sh60 (mr_60_1 _) (by decide) (a_dec_at dc_Sv_weigh 22 rfl) ?_
      refine ev_iload_n (i := 2) rfl rfl (a_dec_at dc_Sv_weigh 23 rfl) ?_
      refine ev_iload_n (i := 3) rfl rfl (a_dec_at dc_Sv_weigh 24 rfl) ?_
      refine cV2I cs_Sv_127 sh17 rfl (Nat.le_of_ble_eq_true rfl) (Nat.le_of_ble_eq_true rfl) (a_dec_at dc_Sv_weigh 25 rfl) ?_
      refine CI.mono (fun x4 mi4 ml4 z4 H => ?_) H
      obtain ⟨hz4, H⟩ := H
      subst hz4
      refine w_mmax cs_Sv_131 (Nat.le_of_ble_eq_true rfl) (a_dec_at dc_Sv_weigh 26 rfl) ?_
      refine ev_istore_n (i := 1) rfl (by decide) rfl (a_dec_at dc_Sv_weigh 27 rfl) ?_
      refine ev_aload_n (i := 0) rfl rfl (a_dec_at dc_Sv_weigh 28 rfl) ?_
      refine m_getR (y := 66) fl_Sv_27 rfl sh60 (mr_60_12 _) (by decide) (a_dec_at dc_Sv_weigh 29 rfl) ?_
      refine ev_iload_n (i := 2) rfl rfl (a_dec_at dc_Sv_weigh 30 rfl) ?_
      refine ev_dup2 rfl rfl (a_dec_at dc_Sv_weigh 31 rfl) ?_
      obtain ⟨c5, H⟩ := H
      refine w_iald (k := v2.toNatClampNeg) sh66 c5 rfl (a_dec_at dc_Sv_weigh 32 rfl) ?_
      refine ev_iload_n (i := 3) rfl rfl (a_dec_at dc_Sv_weigh 33 rfl) ?_
      refine ev_iconst (v := (-1)) rfl (a_dec_at dc_Sv_weigh 34 rfl) ?_
      refine ev_icmp_ne (tgt := 65) (a_dec_at dc_Sv_weigh 35 rfl) (by decide) (fun b6 => ?_) (fun b6 => ?_)
      · have H := H.1 b6
        refine ev_iconst (v := 1) rfl (a_dec_at dc_Sv_weigh 38 rfl) ?_
        refine ev_iload_n (i := 3) rfl rfl (a_dec_at dc_Sv_weigh 39 rfl) ?_
        refine ev_ishl (a_dec_at dc_Sv_weigh 40 rfl) ?_
        refine ev_ior (a_dec_at dc_Sv_weigh 41 rfl) ?_
        obtain ⟨c7, H⟩ := H
        refine w_iast (k := v2.toNatClampNeg) sh66 c7 rfl (a_dec_at dc_Sv_weigh 42 rfl) ?_
        refine ev_iinc (v := 1) rfl rfl (by decide) rfl (a_dec_at dc_Sv_weigh 43 rfl) ?_
        refine ev_goto (tgt := 4) (a_dec_at dc_Sv_weigh 44 rfl) (by decide) ?_
        exact Ev.drop (L' := [.ref 60, .int (if v1 < x4 then x4 else v1), .int (v2 + 1), .retAddr 0]) (And.intro rfl (And.intro rfl (And.intro rfl trivial))) H
      · have H := H.2 b6
        refine ev_iconst (v := 0) rfl (a_dec_at dc_Sv_weigh 36 rfl) ?_
        refine ev_goto (tgt := 68) (a_dec_at dc_Sv_weigh 37 rfl) (by decide) ?_
        refine ev_ior (a_dec_at dc_Sv_weigh 41 rfl) ?_
        obtain ⟨c8, H⟩ := H
        refine w_iast (k := v2.toNatClampNeg) sh66 c8 rfl (a_dec_at dc_Sv_weigh 42 rfl) ?_
        refine ev_iinc (v := 1) rfl rfl (by decide) rfl (a_dec_at dc_Sv_weigh 43 rfl) ?_
        refine ev_goto (tgt := 4) (a_dec_at dc_Sv_weigh 44 rfl) (by decide) ?_
        exact Ev.drop (L' := [.ref 60, .int (if v1 < x4 then x4 else v1), .int (v2 + 1), .retAddr 0]) (And.intro rfl (And.intro rfl (And.intro rfl trivial))) H
    · have H := H.2 b3
      refine ev_bipush (v := 9) rfl (a_dec_at dc_Sv_weigh 19 rfl) ?_
      refine ev_goto (tgt := 45) (a_dec_at dc_Sv_weigh 20 rfl) (by decide) ?_
      refine w_mmax cs_Sv_131 (Nat.le_of_ble_eq_true rfl) (a_dec_at dc_Sv_weigh 26 rfl) ?_
      refine ev_istore_n (i := 1) rfl (by decide) rfl (a_dec_at dc_Sv_weigh 27 rfl) ?_
      refine ev_aload_n (i := 0) rfl rfl (a_dec_at dc_Sv_weigh 28 rfl) ?_
      refine m_getR (y := 66) fl_Sv_27 rfl sh60 (mr_60_12 _) (by decide) (a_dec_at dc_Sv_weigh 29 rfl) ?_
      refine ev_iload_n (i := 2) rfl rfl (a_dec_at dc_Sv_weigh 30 rfl) ?_
      refine ev_dup2 rfl rfl (a_dec_at dc_Sv_weigh 31 rfl) ?_
      obtain ⟨c9, H⟩ := H
      refine w_iald (k := v2.toNatClampNeg) sh66 c9 rfl (a_dec_at dc_Sv_weigh 32 rfl) ?_
      refine ev_iload_n (i := 3) rfl rfl (a_dec_at dc_Sv_weigh 33 rfl) ?_
      refine ev_iconst (v := (-1)) rfl (a_dec_at dc_Sv_weigh 34 rfl) ?_
      refine ev_icmp_ne (tgt := 65) (a_dec_at dc_Sv_weigh 35 rfl) (by decide) (fun b10 => ?_) (fun b10 => ?_)
      · have H := H.1 b10
        refine ev_iconst (v := 1) rfl (a_dec_at dc_Sv_weigh 38 rfl) ?_
        refine ev_iload_n (i := 3) rfl rfl (a_dec_at dc_Sv_weigh 39 rfl) ?_
        refine ev_ishl (a_dec_at dc_Sv_weigh 40 rfl) ?_
        refine ev_ior (a_dec_at dc_Sv_weigh 41 rfl) ?_
        obtain ⟨c11, H⟩ := H
        refine w_iast (k := v2.toNatClampNeg) sh66 c11 rfl (a_dec_at dc_Sv_weigh 42 rfl) ?_
        refine ev_iinc (v := 1) rfl rfl (by decide) rfl (a_dec_at dc_Sv_weigh 43 rfl) ?_
        refine ev_goto (tgt := 4) (a_dec_at dc_Sv_weigh 44 rfl) (by decide) ?_
        exact Ev.drop (L' := [.ref 60, .int (if v1 < 9 then 9 else v1), .int (v2 + 1), .retAddr 0]) (And.intro rfl (And.intro rfl (And.intro rfl trivial))) H
      · have H := H.2 b10
        refine ev_iconst (v := 0) rfl (a_dec_at dc_Sv_weigh 36 rfl) ?_
        refine ev_goto (tgt := 68) (a_dec_at dc_Sv_weigh 37 rfl) (by decide) ?_
        refine ev_ior (a_dec_at dc_Sv_weigh 41 rfl) ?_
        obtain ⟨c12, H⟩ := H
        refine w_iast (k := v2.toNatClampNeg) sh66 c12 rfl (a_dec_at dc_Sv_weigh 42 rfl) ?_
        refine ev_iinc (v := 1) rfl rfl (by decide) rfl (a_dec_at dc_Sv_weigh 43 rfl) ?_
        refine ev_goto (tgt := 4) (a_dec_at dc_Sv_weigh 44 rfl) (by decide) ?_
        exact Ev.drop (L' := [.ref 60, .int (if v1 < 9 then 9 else v1), .int (v2 + 1), .retAddr 0]) (And.intro rfl (And.intro rfl (And.intro rfl trivial))) H
set_option maxRecDepth 20000 in
theorem t_Sv_weigh_78 {l : Launch} {h : Nat} (mi : TMi) (ml : TMl) (v1 : Int32) (v2 : Int32) {Q : TMi → TMl → Nat → Prop} (H : (((mi 18 1) ≤ v2 → (((mi 60 11) ≤ v1 → ((¬ (mi 60 9) = (mi 60 7) → Q (up mi 60 9 ((mi 60 9) + 1)) ml 17) ∧ ((mi 60 9) = (mi 60 7) → CI l h m_Sv_numberOf [.ref 60] mi ml 17 (fun x4 mi4 ml4 z4 => z4 = 17 ∧ Q (up (up mi4 60 8 x4) 60 9 (((up mi4 60 8 x4) 60 9) + 1)) ml4 17)))) ∧ (¬ (mi 60 11) ≤ v1 → CI l h m_Sv_numberOf [.ref 60] (up mi 60 11 v1) ml 17 (fun x5 mi5 ml5 z5 => z5 = 17 ∧ ((¬ ((up mi5 60 10 x5) 60 9) = ((up mi5 60 10 x5) 60 7) → Q (up (up mi5 60 10 x5) 60 9 (((up mi5 60 10 x5) 60 9) + 1)) ml5 17) ∧ (((up mi5 60 10 x5) 60 9) = ((up mi5 60 10 x5) 60 7) → CI l h m_Sv_numberOf [.ref 60] (up mi5 60 10 x5) ml5 17 (fun x7 mi7 ml7 z7 => z7 = 17 ∧ Q (up (up mi7 60 8 x7) 60 9 (((up mi7 60 8 x7) 60 9) + 1)) ml7 17))))))) ∧ (¬ (mi 18 1) ≤ v2 → (vp_in v2 4) ∧ CI l h m_Sc_becksIn [.ref 17, .ref 64, .int v2] mi ml 17 (fun x9 mi9 ml9 z9 => z9 = 17 ∧ CI l h m_Sc_flowOfSet [.ref 17, .int x9] mi9 ml9 17 (fun x10 mi10 ml10 z10 => z10 = 17 ∧ (vp_in v2 4) ∧ Ev l (h + 1) m_Sv_weigh 78 ([.ref 60, .int v1, .int (v2 + 1), .retAddr 0], [], st (up mi10 67 v2.toNatClampNeg (if (mi 67 v2.toNatClampNeg) < x10 then x10 else mi 67 v2.toNatClampNeg)) ml10 17) (qV Q)))))) : Ev l (h + 1) m_Sv_weigh 78 ([.ref 60, .int v1, .int v2, .retAddr 0], [], st mi ml 17) (qV Q) := by
  refine ev_iload_n (i := 2) rfl rfl (a_dec_at dc_Sv_weigh 47 rfl) ?_
  refine ev_aload_n (i := 0) rfl rfl (a_dec_at dc_Sv_weigh 48 rfl) ?_
  refine m_getR (y := 17) fl_Sv_66 rfl sh60 (mr_60_1 _) (by decide) (a_dec_at dc_Sv_weigh 49 rfl) ?_
  refine m_getR (y := 18) fl_Sv_37 rfl sh17 (mr_17_0 _) (by decide) (a_dec_at dc_Sv_weigh 50 rfl) ?_
  refine m_getI fl_Sv_106 rfl sh18 (a_dec_at dc_Sv_weigh 51 rfl) ?_
  refine ev_icmp_ge (tgt := 132) (a_dec_at dc_Sv_weigh 52 rfl) (by decide) (fun b1 => ?_) (fun b1 => ?_)
  · have H := H.1 b1
    refine ev_iload_n (i := 1) rfl rfl (a_dec_at dc_Sv_weigh 73 rfl) ?_
    refine ev_aload_n (i := 0) rfl rfl (a_dec_at dc_Sv_weigh 74 rfl) ?_
    refine m_getI fl_Sv_83 rfl sh60 (a_dec_at dc_Sv_weigh 75 rfl) ?_
    refine ev_icmp_ge (tgt := 153) (a_dec_at dc_Sv_weigh 76 rfl) (by decide) (fun b2 => ?_) (fun b2 => ?_)
    · have H := H.1 b2
      refine ev_aload_n (i := 0) rfl rfl (a_dec_at dc_Sv_weigh 84 rfl) ?_
      refine m_getI fl_Sv_77 rfl sh60 (a_dec_at dc_Sv_weigh 85 rfl) ?_
      refine ev_aload_n (i := 0) rfl rfl (a_dec_at dc_Sv_weigh 86 rfl) ?_
      refine m_getI fl_Sv_70 rfl sh60 (a_dec_at dc_Sv_weigh 87 rfl) ?_
      refine ev_icmp_ne (tgt := 172) (a_dec_at dc_Sv_weigh 88 rfl) (by decide) (fun b3 => ?_) (fun b3 => ?_)
      · have H := H.1 b3
        refine ev_aload_n (i := 0) rfl rfl (a_dec_at dc_Sv_weigh 93 rfl) ?_
        refine ev_dup rfl (a_dec_at dc_Sv_weigh 94 rfl) ?_
        refine m_getI fl_Sv_77 rfl sh60 (a_dec_at dc_Sv_weigh 95 rfl) ?_
        refine ev_iconst (v := 1) rfl (a_dec_at dc_Sv_weigh 96 rfl) ?_
        refine ev_iadd (a_dec_at dc_Sv_weigh 97 rfl) ?_
        refine m_putI fl_Sv_77 rfl (fun _ _ _ h => by cases h; exact Or.inl rfl) sh60 (a_dec_at dc_Sv_weigh 98 rfl) ?_
        exact m_retV (a_dec_at dc_Sv_weigh 99 rfl) rfl H
      · have H := H.2 b3
        refine ev_aload_n (i := 0) rfl rfl (a_dec_at dc_Sv_weigh 89 rfl) ?_
        refine ev_aload_n (i := 0) rfl rfl (a_dec_at dc_Sv_weigh 90 rfl) ?_
        refine cV0I cs_Sv_143 sh60 rfl (Nat.le_of_ble_eq_true rfl) (Nat.le_of_ble_eq_true rfl) (a_dec_at dc_Sv_weigh 91 rfl) ?_
        refine CI.mono (fun x4 mi4 ml4 z4 H => ?_) H
        obtain ⟨hz4, H⟩ := H
        subst hz4
        refine m_putI fl_Sv_74 rfl (fun _ _ _ h => by cases h; exact Or.inl rfl) sh60 (a_dec_at dc_Sv_weigh 92 rfl) ?_
        refine ev_aload_n (i := 0) rfl rfl (a_dec_at dc_Sv_weigh 93 rfl) ?_
        refine ev_dup rfl (a_dec_at dc_Sv_weigh 94 rfl) ?_
        refine m_getI fl_Sv_77 rfl sh60 (a_dec_at dc_Sv_weigh 95 rfl) ?_
        refine ev_iconst (v := 1) rfl (a_dec_at dc_Sv_weigh 96 rfl) ?_
        refine ev_iadd (a_dec_at dc_Sv_weigh 97 rfl) ?_
        refine m_putI fl_Sv_77 rfl (fun _ _ _ h => by cases h; exact Or.inl rfl) sh60 (a_dec_at dc_Sv_weigh 98 rfl) ?_
        exact m_retV (a_dec_at dc_Sv_weigh 99 rfl) rfl H
    · have H := H.2 b2
      refine ev_aload_n (i := 0) rfl rfl (a_dec_at dc_Sv_weigh 77 rfl) ?_
      refine ev_iload_n (i := 1) rfl rfl (a_dec_at dc_Sv_weigh 78 rfl) ?_
      refine m_putI fl_Sv_83 rfl (fun _ _ _ h => by cases h; exact Or.inl rfl) sh60 (a_dec_at dc_Sv_weigh 79 rfl) ?_
      refine ev_aload_n (i := 0) rfl rfl (a_dec_at dc_Sv_weigh 80 rfl) ?_
      refine ev_aload_n (i := 0) rfl rfl (a_dec_at dc_Sv_weigh 81 rfl) ?_
      refine cV0I cs_Sv_143 sh60 rfl (Nat.le_of_ble_eq_true rfl) (Nat.le_of_ble_eq_true rfl) (a_dec_at dc_Sv_weigh 82 rfl) ?_
      refine CI.mono (fun x5 mi5 ml5 z5 H => ?_) H
      obtain ⟨hz5, H⟩ := H
      subst hz5
      refine m_putI fl_Sv_80 rfl (fun _ _ _ h => by cases h; exact Or.inl rfl) sh60 (a_dec_at dc_Sv_weigh 83 rfl) ?_
      refine ev_aload_n (i := 0) rfl rfl (a_dec_at dc_Sv_weigh 84 rfl) ?_
      refine m_getI fl_Sv_77 rfl sh60 (a_dec_at dc_Sv_weigh 85 rfl) ?_
      refine ev_aload_n (i := 0) rfl rfl (a_dec_at dc_Sv_weigh 86 rfl) ?_
      refine m_getI fl_Sv_70 rfl sh60 (a_dec_at dc_Sv_weigh 87 rfl) ?_
      refine ev_icmp_ne (tgt := 172) (a_dec_at dc_Sv_weigh 88 rfl) (by decide) (fun b6 => ?_) (fun b6 => ?_)
      · have H := H.1 b6
        refine ev_aload_n (i := 0) rfl rfl (a_dec_at dc_Sv_weigh 93 rfl) ?_
        refine ev_dup rfl (a_dec_at dc_Sv_weigh 94 rfl) ?_
        refine m_getI fl_Sv_77 rfl sh60 (a_dec_at dc_Sv_weigh 95 rfl) ?_
        refine ev_iconst (v := 1) rfl (a_dec_at dc_Sv_weigh 96 rfl) ?_
        refine ev_iadd (a_dec_at dc_Sv_weigh 97 rfl) ?_
        refine m_putI fl_Sv_77 rfl (fun _ _ _ h => by cases h; exact Or.inl rfl) sh60 (a_dec_at dc_Sv_weigh 98 rfl) ?_
        exact m_retV (a_dec_at dc_Sv_weigh 99 rfl) rfl H
      · have H := H.2 b6
        refine ev_aload_n (i := 0) rfl rfl (a_dec_at dc_Sv_weigh 89 rfl) ?_
        refine ev_aload_n (i := 0) rfl rfl (a_dec_at dc_Sv_weigh 90 rfl) ?_
        refine cV0I cs_Sv_143 sh60 rfl (Nat.le_of_ble_eq_true rfl) (Nat.le_of_ble_eq_true rfl) (a_dec_at dc_Sv_weigh 91 rfl) ?_
        refine CI.mono (fun x7 mi7 ml7 z7 H => ?_) H
        obtain ⟨hz7, H⟩ := H
        subst hz7
        refine m_putI fl_Sv_74 rfl (fun _ _ _ h => by cases h; exact Or.inl rfl) sh60 (a_dec_at dc_Sv_weigh 92 rfl) ?_
        refine ev_aload_n (i := 0) rfl rfl (a_dec_at dc_Sv_weigh 93 rfl) ?_
        refine ev_dup rfl (a_dec_at dc_Sv_weigh 94 rfl) ?_
        refine m_getI fl_Sv_77 rfl sh60 (a_dec_at dc_Sv_weigh 95 rfl) ?_
        refine ev_iconst (v := 1) rfl (a_dec_at dc_Sv_weigh 96 rfl) ?_
        refine ev_iadd (a_dec_at dc_Sv_weigh 97 rfl) ?_
        refine m_putI fl_Sv_77 rfl (fun _ _ _ h => by cases h; exact Or.inl rfl) sh60 (a_dec_at dc_Sv_weigh 98 rfl) ?_
        exact m_retV (a_dec_at dc_Sv_weigh 99 rfl) rfl H
  · have H := H.2 b1
    refine ev_aload_n (i := 0) rfl rfl (a_dec_at dc_Sv_weigh 53 rfl) ?_
    refine m_getR (y := 67) fl_Sv_30 rfl sh60 (mr_60_13 _) (by decide) (a_dec_at dc_Sv_weigh 54 rfl) ?_
    refine ev_iload_n (i := 2) rfl rfl (a_dec_at dc_Sv_weigh 55 rfl) ?_
    refine ev_aload_n (i := 0) rfl rfl (a_dec_at dc_Sv_weigh 56 rfl) ?_
    refine m_getR (y := 67) fl_Sv_30 rfl sh60 (mr_60_13 _) (by decide) (a_dec_at dc_Sv_weigh 57 rfl) ?_
    refine ev_iload_n (i := 2) rfl rfl (a_dec_at dc_Sv_weigh 58 rfl) ?_
    obtain ⟨c8, H⟩ := H
    refine w_iald (k := v2.toNatClampNeg) sh67 c8 rfl (a_dec_at dc_Sv_weigh 59 rfl) ?_
    refine ev_aload_n (i := 0) rfl rfl (a_dec_at dc_Sv_weigh 60 rfl) ?_
    refine m_getR (y := 17) fl_Sv_66 rfl sh60 (mr_60_1 _) (by decide) (a_dec_at dc_Sv_weigh 61 rfl) ?_
    refine ev_aload_n (i := 0) rfl rfl (a_dec_at dc_Sv_weigh 62 rfl) ?_
    refine m_getR (y := 17) fl_Sv_66 rfl sh60 (mr_60_1 _) (by decide) (a_dec_at dc_Sv_weigh 63 rfl) ?_
    refine ev_aload_n (i := 0) rfl rfl (a_dec_at dc_Sv_weigh 64 rfl) ?_
    refine m_getR (y := 64) fl_Sv_21 rfl sh60 (mr_60_5 _) (by decide) (a_dec_at dc_Sv_weigh 65 rfl) ?_
    refine ev_iload_n (i := 2) rfl rfl (a_dec_at dc_Sv_weigh 66 rfl) ?_
    refine cV2I cs_Sv_136 sh17 rfl (Nat.le_of_ble_eq_true rfl) (Nat.le_of_ble_eq_true rfl) (a_dec_at dc_Sv_weigh 67 rfl) ?_
    refine CI.mono (fun x9 mi9 ml9 z9 H => ?_) H
    obtain ⟨hz9, H⟩ := H
    subst hz9
    refine cV1I cs_Sv_140 sh17 rfl (Nat.le_of_ble_eq_true rfl) (Nat.le_of_ble_eq_true rfl) (a_dec_at dc_Sv_weigh 68 rfl) ?_
    refine CI.mono (fun x10 mi10 ml10 z10 H => ?_) H
    obtain ⟨hz10, H⟩ := H
    subst hz10
    refine w_mmax cs_Sv_131 (Nat.le_of_ble_eq_true rfl) (a_dec_at dc_Sv_weigh 69 rfl) ?_
    obtain ⟨c11, H⟩ := H
    refine w_iast (k := v2.toNatClampNeg) sh67 c11 rfl (a_dec_at dc_Sv_weigh 70 rfl) ?_
    refine ev_iinc (v := 1) rfl rfl (by decide) rfl (a_dec_at dc_Sv_weigh 71 rfl) ?_
    refine ev_goto (tgt := 78) (a_dec_at dc_Sv_weigh 72 rfl) (by decide) ?_
    exact Ev.drop (L' := [.ref 60, .int v1, .int (v2 + 1), .retAddr 0]) (And.intro rfl (And.intro rfl (And.intro rfl trivial))) H
set_option maxRecDepth 20000 in
theorem t_Sv_numberOf {l : Launch} {h : Nat} (mi : TMi) (ml : TMl) {Q : Int32 → TMi → TMl → Nat → Prop} (H : Ev l (h + 1) m_Sv_numberOf 15 ([.ref 60, .int 0, .int ((mi 18 0) - 1)], [], st mi ml 17) (qI Q)) : CI l (h + 1) m_Sv_numberOf [.ref 60] mi ml 17 Q := by
  show Ev l (h + 1) m_Sv_numberOf 0 ([.ref 60, .retAddr 0, .retAddr 0], [], st mi ml 17) (qI Q)
  refine ev_iconst (v := 0) rfl (a_dec_at dc_Sv_numberOf 0 rfl) ?_
  refine ev_istore_n (i := 1) rfl (by decide) rfl (a_dec_at dc_Sv_numberOf 1 rfl) ?_
  refine ev_aload_n (i := 0) rfl rfl (a_dec_at dc_Sv_numberOf 2 rfl) ?_
  refine m_getR (y := 17) fl_Sv_66 rfl sh60 (mr_60_1 _) (by decide) (a_dec_at dc_Sv_numberOf 3 rfl) ?_
  refine m_getR (y := 18) fl_Sv_37 rfl sh17 (mr_17_0 _) (by decide) (a_dec_at dc_Sv_numberOf 4 rfl) ?_
  refine m_getI fl_Sv_95 rfl sh18 (a_dec_at dc_Sv_numberOf 5 rfl) ?_
  refine ev_iconst (v := 1) rfl (a_dec_at dc_Sv_numberOf 6 rfl) ?_
  refine ev_isub (a_dec_at dc_Sv_numberOf 7 rfl) ?_
  refine ev_istore_n (i := 2) rfl (by decide) rfl (a_dec_at dc_Sv_numberOf 8 rfl) ?_
  exact Ev.drop (L' := [.ref 60, .int 0, .int ((mi 18 0) - 1)]) (And.intro rfl (And.intro rfl (And.intro rfl trivial))) H
set_option maxRecDepth 20000 in
theorem t_Sv_numberOf_15 {l : Launch} {h : Nat} (mi : TMi) (ml : TMl) (v1 : Int32) (v2 : Int32) {Q : Int32 → TMi → TMl → Nat → Prop} (H : ((v2 < 0 → Q v1 mi ml 17) ∧ (¬ v2 < 0 → (vp_in v2 6) ∧ Ev l (h + 1) m_Sv_numberOf 15 ([.ref 60, .int (((v1 * 5) + (mi 64 v2.toNatClampNeg)) + 1), .int (v2 + (-1))], [], st mi ml 17) (qI Q)))) : Ev l (h + 1) m_Sv_numberOf 15 ([.ref 60, .int v1, .int v2], [], st mi ml 17) (qI Q) := by
  refine ev_iload_n (i := 2) rfl rfl (a_dec_at dc_Sv_numberOf 9 rfl) ?_
  refine ev_if_lt (tgt := 38) (a_dec_at dc_Sv_numberOf 10 rfl) (by decide) (fun b1 => ?_) (fun b1 => ?_)
  · have H := H.1 b1
    refine ev_iload_n (i := 1) rfl rfl (a_dec_at dc_Sv_numberOf 24 rfl) ?_
    exact m_retI (a_dec_at dc_Sv_numberOf 25 rfl) rfl rfl H
  · have H := H.2 b1
    refine ev_iload_n (i := 1) rfl rfl (a_dec_at dc_Sv_numberOf 11 rfl) ?_
    refine ev_iconst (v := 5) rfl (a_dec_at dc_Sv_numberOf 12 rfl) ?_
    refine ev_imul (a_dec_at dc_Sv_numberOf 13 rfl) ?_
    refine ev_aload_n (i := 0) rfl rfl (a_dec_at dc_Sv_numberOf 14 rfl) ?_
    refine m_getR (y := 64) fl_Sv_21 rfl sh60 (mr_60_5 _) (by decide) (a_dec_at dc_Sv_numberOf 15 rfl) ?_
    refine ev_iload_n (i := 2) rfl rfl (a_dec_at dc_Sv_numberOf 16 rfl) ?_
    obtain ⟨c2, H⟩ := H
    refine w_iald (k := v2.toNatClampNeg) sh64 c2 rfl (a_dec_at dc_Sv_numberOf 17 rfl) ?_
    refine ev_iadd (a_dec_at dc_Sv_numberOf 18 rfl) ?_
    refine ev_iconst (v := 1) rfl (a_dec_at dc_Sv_numberOf 19 rfl) ?_
    refine ev_iadd (a_dec_at dc_Sv_numberOf 20 rfl) ?_
    refine ev_istore_n (i := 1) rfl (by decide) rfl (a_dec_at dc_Sv_numberOf 21 rfl) ?_
    refine ev_iinc (v := (-1)) rfl rfl (by decide) rfl (a_dec_at dc_Sv_numberOf 22 rfl) ?_
    refine ev_goto (tgt := 15) (a_dec_at dc_Sv_numberOf 23 rfl) (by decide) ?_
    exact Ev.drop (L' := [.ref 60, .int (((v1 * 5) + (mi 64 v2.toNatClampNeg)) + 1), .int (v2 + (-1))]) (And.intro rfl (And.intro rfl (And.intro rfl trivial))) H
set_option maxRecDepth 20000 in
theorem t_Sv_fillsFrom {l : Launch} {h : Nat} (mi : TMi) (ml : TMl) (a1 : Int32) (a2 : Int32) {Q : Int32 → TMi → TMl → Nat → Prop} (H : ((0 ≤ a1 → (vp_in a1 6) ∧ ((a2 ≤ 0 → Ev l (h + 1) m_Sv_fillsFrom 34 ([.ref 60, .int a1, .int a2, .int 0], [], st (up mi 64 a1.toNatClampNeg (-1)) ml 17) (qI Q)) ∧ (¬ a2 ≤ 0 → CI l h m_Sv_fillsFrom [.ref 60, .int (a1 - 1), .int (a2 - 1)] (up mi 64 a1.toNatClampNeg (-1)) ml 17 (fun x4 mi4 ml4 z4 => z4 = 17 ∧ ((x4 = 0 → Ev l (h + 1) m_Sv_fillsFrom 34 ([.ref 60, .int a1, .int a2, .int 0], [], st mi4 ml4 17) (qI Q)) ∧ (¬ x4 = 0 → Q 1 mi4 ml4 17)))))) ∧ (¬ 0 ≤ a1 → Q 1 mi ml 17))) : CI l (h + 1) m_Sv_fillsFrom [.ref 60, .int a1, .int a2] mi ml 17 Q := by
  show Ev l (h + 1) m_Sv_fillsFrom 0 ([.ref 60, .int a1, .int a2, .retAddr 0], [], st mi ml 17) (qI Q)
  refine ev_iload_n (i := 1) rfl rfl (a_dec_at dc_Sv_fillsFrom 0 rfl) ?_
  refine ev_if_ge (tgt := 6) (a_dec_at dc_Sv_fillsFrom 1 rfl) (by decide) (fun b1 => ?_) (fun b1 => ?_)
  · have H := H.1 b1
    refine ev_aload_n (i := 0) rfl rfl (a_dec_at dc_Sv_fillsFrom 4 rfl) ?_
    refine m_getR (y := 64) fl_Sv_21 rfl sh60 (mr_60_5 _) (by decide) (a_dec_at dc_Sv_fillsFrom 5 rfl) ?_
    refine ev_iload_n (i := 1) rfl rfl (a_dec_at dc_Sv_fillsFrom 6 rfl) ?_
    refine ev_iconst (v := (-1)) rfl (a_dec_at dc_Sv_fillsFrom 7 rfl) ?_
    obtain ⟨c2, H⟩ := H
    refine w_iast (k := a1.toNatClampNeg) sh64 c2 rfl (a_dec_at dc_Sv_fillsFrom 8 rfl) ?_
    refine ev_iload_n (i := 2) rfl rfl (a_dec_at dc_Sv_fillsFrom 9 rfl) ?_
    refine ev_if_le (tgt := 32) (a_dec_at dc_Sv_fillsFrom 10 rfl) (by decide) (fun b3 => ?_) (fun b3 => ?_)
    · have H := H.1 b3
      refine ev_iconst (v := 0) rfl (a_dec_at dc_Sv_fillsFrom 22 rfl) ?_
      refine ev_istore_n (i := 3) rfl (by decide) rfl (a_dec_at dc_Sv_fillsFrom 23 rfl) ?_
      exact Ev.drop (L' := [.ref 60, .int a1, .int a2, .int 0]) (And.intro rfl (And.intro rfl (And.intro rfl (And.intro rfl trivial)))) H
    · have H := H.2 b3
      refine ev_aload_n (i := 0) rfl rfl (a_dec_at dc_Sv_fillsFrom 11 rfl) ?_
      refine ev_iload_n (i := 1) rfl rfl (a_dec_at dc_Sv_fillsFrom 12 rfl) ?_
      refine ev_iconst (v := 1) rfl (a_dec_at dc_Sv_fillsFrom 13 rfl) ?_
      refine ev_isub (a_dec_at dc_Sv_fillsFrom 14 rfl) ?_
      refine ev_iload_n (i := 2) rfl rfl (a_dec_at dc_Sv_fillsFrom 15 rfl) ?_
      refine ev_iconst (v := 1) rfl (a_dec_at dc_Sv_fillsFrom 16 rfl) ?_
      refine ev_isub (a_dec_at dc_Sv_fillsFrom 17 rfl) ?_
      refine cV2I cs_Sv_146 sh60 rfl (Nat.le_of_ble_eq_true rfl) (Nat.le_of_ble_eq_true rfl) (a_dec_at dc_Sv_fillsFrom 18 rfl) ?_
      refine CI.mono (fun x4 mi4 ml4 z4 H => ?_) H
      obtain ⟨hz4, H⟩ := H
      subst hz4
      refine ev_if_eq (tgt := 32) (a_dec_at dc_Sv_fillsFrom 19 rfl) (by decide) (fun b5 => ?_) (fun b5 => ?_)
      · have H := H.1 b5
        refine ev_iconst (v := 0) rfl (a_dec_at dc_Sv_fillsFrom 22 rfl) ?_
        refine ev_istore_n (i := 3) rfl (by decide) rfl (a_dec_at dc_Sv_fillsFrom 23 rfl) ?_
        exact Ev.drop (L' := [.ref 60, .int a1, .int a2, .int 0]) (And.intro rfl (And.intro rfl (And.intro rfl (And.intro rfl trivial)))) H
      · have H := H.2 b5
        refine ev_iconst (v := 1) rfl (a_dec_at dc_Sv_fillsFrom 20 rfl) ?_
        exact m_retI (a_dec_at dc_Sv_fillsFrom 21 rfl) rfl rfl H
  · have H := H.2 b1
    refine ev_iconst (v := 1) rfl (a_dec_at dc_Sv_fillsFrom 2 rfl) ?_
    exact m_retI (a_dec_at dc_Sv_fillsFrom 3 rfl) rfl rfl H
set_option maxRecDepth 20000 in
theorem t_Sv_fillsFrom_34 {l : Launch} {h : Nat} (mi : TMi) (ml : TMl) (v1 : Int32) (v2 : Int32) (v3 : Int32) {Q : Int32 → TMi → TMl → Nat → Prop} (H : (((mi 18 1) ≤ v3 → Q 0 mi ml 17) ∧ (¬ (mi 18 1) ≤ v3 → CI l h m_Sc_bothWould [.ref 17, .int v1, .int v3] mi ml 17 (fun x2 mi2 ml2 z2 => z2 = 17 ∧ ((x2 = 0 → Ev l (h + 1) m_Sv_fillsFrom 34 ([.ref 60, .int v1, .int v2, .int (v3 + 1)], [], st mi2 ml2 17) (qI Q)) ∧ (¬ x2 = 0 → (vp_in v3 4) ∧ CI l h m_Sc_roomOf [.ref 17, .int v3] mi2 ml2 17 (fun x5 mi5 ml5 z5 => z5 = 17 ∧ ((x5 ≤ (mi2 65 v3.toNatClampNeg) → Ev l (h + 1) m_Sv_fillsFrom 34 ([.ref 60, .int v1, .int v2, .int (v3 + 1)], [], st mi5 ml5 17) (qI Q)) ∧ (¬ x5 ≤ (mi2 65 v3.toNatClampNeg) → (vp_in v1 6) ∧ (vp_in v3 4) ∧ (vp_in v3 4) ∧ CI l h m_Sv_fillsFrom [.ref 60, .int (v1 - 1), .int v2] (up (up mi5 64 v1.toNatClampNeg v3) 65 v3.toNatClampNeg (((up mi5 64 v1.toNatClampNeg v3) 65 v3.toNatClampNeg) + 1)) ml5 17 (fun x10 mi10 ml10 z10 => z10 = 17 ∧ ((x10 = 0 → (vp_in v3 4) ∧ (vp_in v3 4) ∧ Ev l (h + 1) m_Sv_fillsFrom 34 ([.ref 60, .int v1, .int v2, .int (v3 + 1)], [], st (up mi10 65 v3.toNatClampNeg ((mi10 65 v3.toNatClampNeg) - 1)) ml10 17) (qI Q)) ∧ (¬ x10 = 0 → Q 1 mi10 ml10 17)))))))))))) : Ev l (h + 1) m_Sv_fillsFrom 34 ([.ref 60, .int v1, .int v2, .int v3], [], st mi ml 17) (qI Q) := by
  refine ev_iload_n (i := 3) rfl rfl (a_dec_at dc_Sv_fillsFrom 24 rfl) ?_
  refine ev_aload_n (i := 0) rfl rfl (a_dec_at dc_Sv_fillsFrom 25 rfl) ?_
  refine m_getR (y := 17) fl_Sv_66 rfl sh60 (mr_60_1 _) (by decide) (a_dec_at dc_Sv_fillsFrom 26 rfl) ?_
  refine m_getR (y := 18) fl_Sv_37 rfl sh17 (mr_17_0 _) (by decide) (a_dec_at dc_Sv_fillsFrom 27 rfl) ?_
  refine m_getI fl_Sv_106 rfl sh18 (a_dec_at dc_Sv_fillsFrom 28 rfl) ?_
  refine ev_icmp_ge (tgt := 123) (a_dec_at dc_Sv_fillsFrom 29 rfl) (by decide) (fun b1 => ?_) (fun b1 => ?_)
  · have H := H.1 b1
    refine ev_iconst (v := 0) rfl (a_dec_at dc_Sv_fillsFrom 77 rfl) ?_
    exact m_retI (a_dec_at dc_Sv_fillsFrom 78 rfl) rfl rfl H
  · have H := H.2 b1
    refine ev_aload_n (i := 0) rfl rfl (a_dec_at dc_Sv_fillsFrom 30 rfl) ?_
    refine m_getR (y := 17) fl_Sv_66 rfl sh60 (mr_60_1 _) (by decide) (a_dec_at dc_Sv_fillsFrom 31 rfl) ?_
    refine ev_iload_n (i := 1) rfl rfl (a_dec_at dc_Sv_fillsFrom 32 rfl) ?_
    refine ev_iload_n (i := 3) rfl rfl (a_dec_at dc_Sv_fillsFrom 33 rfl) ?_
    refine cV2I cs_Sv_113 sh17 rfl (Nat.le_of_ble_eq_true rfl) (Nat.le_of_ble_eq_true rfl) (a_dec_at dc_Sv_fillsFrom 34 rfl) ?_
    refine CI.mono (fun x2 mi2 ml2 z2 H => ?_) H
    obtain ⟨hz2, H⟩ := H
    subst hz2
    refine ev_if_eq (tgt := 117) (a_dec_at dc_Sv_fillsFrom 35 rfl) (by decide) (fun b3 => ?_) (fun b3 => ?_)
    · have H := H.1 b3
      refine ev_iinc (v := 1) rfl rfl (by decide) rfl (a_dec_at dc_Sv_fillsFrom 75 rfl) ?_
      refine ev_goto (tgt := 34) (a_dec_at dc_Sv_fillsFrom 76 rfl) (by decide) ?_
      exact Ev.drop (L' := [.ref 60, .int v1, .int v2, .int (v3 + 1)]) (And.intro rfl (And.intro rfl (And.intro rfl (And.intro rfl trivial)))) H
    · have H := H.2 b3
      refine ev_aload_n (i := 0) rfl rfl (a_dec_at dc_Sv_fillsFrom 36 rfl) ?_
      refine m_getR (y := 65) fl_Sv_24 rfl sh60 (mr_60_6 _) (by decide) (a_dec_at dc_Sv_fillsFrom 37 rfl) ?_
      refine ev_iload_n (i := 3) rfl rfl (a_dec_at dc_Sv_fillsFrom 38 rfl) ?_
      obtain ⟨c4, H⟩ := H
      refine w_iald (k := v3.toNatClampNeg) sh65 c4 rfl (a_dec_at dc_Sv_fillsFrom 39 rfl) ?_
      refine ev_aload_n (i := 0) rfl rfl (a_dec_at dc_Sv_fillsFrom 40 rfl) ?_
      refine m_getR (y := 17) fl_Sv_66 rfl sh60 (mr_60_1 _) (by decide) (a_dec_at dc_Sv_fillsFrom 41 rfl) ?_
      refine ev_iload_n (i := 3) rfl rfl (a_dec_at dc_Sv_fillsFrom 42 rfl) ?_
      refine cV1I cs_Sv_124 sh17 rfl (Nat.le_of_ble_eq_true rfl) (Nat.le_of_ble_eq_true rfl) (a_dec_at dc_Sv_fillsFrom 43 rfl) ?_
      refine CI.mono (fun x5 mi5 ml5 z5 H => ?_) H
      obtain ⟨hz5, H⟩ := H
      subst hz5
      refine ev_icmp_ge (tgt := 117) (a_dec_at dc_Sv_fillsFrom 44 rfl) (by decide) (fun b6 => ?_) (fun b6 => ?_)
      · have H := H.1 b6
        refine ev_iinc (v := 1) rfl rfl (by decide) rfl (a_dec_at dc_Sv_fillsFrom 75 rfl) ?_
        refine ev_goto (tgt := 34) (a_dec_at dc_Sv_fillsFrom 76 rfl) (by decide) ?_
        exact Ev.drop (L' := [.ref 60, .int v1, .int v2, .int (v3 + 1)]) (And.intro rfl (And.intro rfl (And.intro rfl (And.intro rfl trivial)))) H
      · have H := H.2 b6
        refine ev_aload_n (i := 0) rfl rfl (a_dec_at dc_Sv_fillsFrom 45 rfl) ?_
        refine m_getR (y := 64) fl_Sv_21 rfl sh60 (mr_60_5 _) (by decide) (a_dec_at dc_Sv_fillsFrom 46 rfl) ?_
        refine ev_iload_n (i := 1) rfl rfl (a_dec_at dc_Sv_fillsFrom 47 rfl) ?_
        refine ev_iload_n (i := 3) rfl rfl (a_dec_at dc_Sv_fillsFrom 48 rfl) ?_
        obtain ⟨c7, H⟩ := H
        refine w_iast (k := v1.toNatClampNeg) sh64 c7 rfl (a_dec_at dc_Sv_fillsFrom 49 rfl) ?_
        refine ev_aload_n (i := 0) rfl rfl (a_dec_at dc_Sv_fillsFrom 50 rfl) ?_
        refine m_getR (y := 65) fl_Sv_24 rfl sh60 (mr_60_6 _) (by decide) (a_dec_at dc_Sv_fillsFrom 51 rfl) ?_
        refine ev_iload_n (i := 3) rfl rfl (a_dec_at dc_Sv_fillsFrom 52 rfl) ?_
        refine ev_dup2 rfl rfl (a_dec_at dc_Sv_fillsFrom 53 rfl) ?_
        obtain ⟨c8, H⟩ := H
        refine w_iald (k := v3.toNatClampNeg) sh65 c8 rfl (a_dec_at dc_Sv_fillsFrom 54 rfl) ?_
        refine ev_iconst (v := 1) rfl (a_dec_at dc_Sv_fillsFrom 55 rfl) ?_
        refine ev_iadd (a_dec_at dc_Sv_fillsFrom 56 rfl) ?_
        obtain ⟨c9, H⟩ := H
        refine w_iast (k := v3.toNatClampNeg) sh65 c9 rfl (a_dec_at dc_Sv_fillsFrom 57 rfl) ?_
        refine ev_aload_n (i := 0) rfl rfl (a_dec_at dc_Sv_fillsFrom 58 rfl) ?_
        refine ev_iload_n (i := 1) rfl rfl (a_dec_at dc_Sv_fillsFrom 59 rfl) ?_
        refine ev_iconst (v := 1) rfl (a_dec_at dc_Sv_fillsFrom 60 rfl) ?_
        refine ev_isub (a_dec_at dc_Sv_fillsFrom 61 rfl) ?_
        refine ev_iload_n (i := 2) rfl rfl (a_dec_at dc_Sv_fillsFrom 62 rfl) ?_
        refine cV2I cs_Sv_146 sh60 rfl (Nat.le_of_ble_eq_true rfl) (Nat.le_of_ble_eq_true rfl) (a_dec_at dc_Sv_fillsFrom 63 rfl) ?_
        refine CI.mono (fun x10 mi10 ml10 z10 H => ?_) H
        obtain ⟨hz10, H⟩ := H
        subst hz10
        refine ev_if_eq (tgt := 107) (a_dec_at dc_Sv_fillsFrom 64 rfl) (by decide) (fun b11 => ?_) (fun b11 => ?_)
        · have H := H.1 b11
          refine ev_aload_n (i := 0) rfl rfl (a_dec_at dc_Sv_fillsFrom 67 rfl) ?_
          refine m_getR (y := 65) fl_Sv_24 rfl sh60 (mr_60_6 _) (by decide) (a_dec_at dc_Sv_fillsFrom 68 rfl) ?_
          refine ev_iload_n (i := 3) rfl rfl (a_dec_at dc_Sv_fillsFrom 69 rfl) ?_
          refine ev_dup2 rfl rfl (a_dec_at dc_Sv_fillsFrom 70 rfl) ?_
          obtain ⟨c12, H⟩ := H
          refine w_iald (k := v3.toNatClampNeg) sh65 c12 rfl (a_dec_at dc_Sv_fillsFrom 71 rfl) ?_
          refine ev_iconst (v := 1) rfl (a_dec_at dc_Sv_fillsFrom 72 rfl) ?_
          refine ev_isub (a_dec_at dc_Sv_fillsFrom 73 rfl) ?_
          obtain ⟨c13, H⟩ := H
          refine w_iast (k := v3.toNatClampNeg) sh65 c13 rfl (a_dec_at dc_Sv_fillsFrom 74 rfl) ?_
          refine ev_iinc (v := 1) rfl rfl (by decide) rfl (a_dec_at dc_Sv_fillsFrom 75 rfl) ?_
          refine ev_goto (tgt := 34) (a_dec_at dc_Sv_fillsFrom 76 rfl) (by decide) ?_
          exact Ev.drop (L' := [.ref 60, .int v1, .int v2, .int (v3 + 1)]) (And.intro rfl (And.intro rfl (And.intro rfl (And.intro rfl trivial)))) H
        · have H := H.2 b11
          refine ev_iconst (v := 1) rfl (a_dec_at dc_Sv_fillsFrom 65 rfl) ?_
          exact m_retI (a_dec_at dc_Sv_fillsFrom 66 rfl) rfl rfl H
set_option maxRecDepth 20000 in
theorem t_Wo_least {l : Launch} {h : Nat} (mi : TMi) (ml : TMl) (z : Nat) (a2 : Int32) (a3 : Int32) {Q : Int32 → TMi → TMl → Nat → Prop} (H : CV l h m_Sc_copyFrom [.ref 33, .ref 17] (up (up mi 68 2 a2) 68 3 a3) ml z (fun mi1 ml1 z1 => (vp_in ((up mi1 68 9 0) 18 0) 7) ∧ Ev l (h + 1) m_Wo_least 53 ([.ref 68, .retAddr 0, .retAddr 0, .retAddr 0, .int (((up (up mi1 68 9 0) 73 (((up mi1 68 9 0) 18 0).toNatClampNeg) 0) 18 0) - 1)], [], st (up (up mi1 68 9 0) 73 (((up mi1 68 9 0) 18 0).toNatClampNeg) 0) ml1 z1) (qI Q))) : CI l (h + 1) m_Wo_least [.ref 68, .ref 17, .int a2, .int a3] mi ml z Q := by
  show Ev l (h + 1) m_Wo_least 0 ([.ref 68, .ref 17, .int a2, .int a3, .retAddr 0], [], st mi ml z) (qI Q)
  refine ev_aload_n (i := 0) rfl rfl (a_dec_at dc_Wo_least 0 rfl) ?_
  refine ev_iload_n (i := 2) rfl rfl (a_dec_at dc_Wo_least 1 rfl) ?_
  refine m_putI fl_Wo_38 rfl (fun _ _ _ h => by cases h; exact Or.inl rfl) sh68 (a_dec_at dc_Wo_least 2 rfl) ?_
  refine ev_aload_n (i := 0) rfl rfl (a_dec_at dc_Wo_least 3 rfl) ?_
  refine ev_iload_n (i := 3) rfl rfl (a_dec_at dc_Wo_least 4 rfl) ?_
  refine m_putI fl_Wo_42 rfl (fun _ _ _ h => by cases h; exact Or.inl rfl) sh68 (a_dec_at dc_Wo_least 5 rfl) ?_
  refine ev_aload_n (i := 0) rfl rfl (a_dec_at dc_Wo_least 6 rfl) ?_
  refine m_getR (y := 33) fl_Wo_30 rfl sh68 (mr_68_0 _) (by decide) (a_dec_at dc_Wo_least 7 rfl) ?_
  refine ev_aload_n (i := 1) rfl rfl (a_dec_at dc_Wo_least 8 rfl) ?_
  refine cV1V cs_Wo_45 sh33 rfl (Nat.le_of_ble_eq_true rfl) (Nat.le_of_ble_eq_true rfl) (a_dec_at dc_Wo_least 9 rfl) ?_
  refine CV.mono (fun mi1 ml1 z1 H => ?_) H
  refine ev_aload_n (i := 0) rfl rfl (a_dec_at dc_Wo_least 10 rfl) ?_
  refine ev_iconst (v := 0) rfl (a_dec_at dc_Wo_least 11 rfl) ?_
  refine m_putI fl_Wo_51 rfl (fun _ _ _ h => by cases h; exact Or.inl rfl) sh68 (a_dec_at dc_Wo_least 12 rfl) ?_
  refine ev_aload_n (i := 0) rfl rfl (a_dec_at dc_Wo_least 13 rfl) ?_
  refine m_getR (y := 73) fl_Wo_24 rfl sh68 (mr_68_8 _) (by decide) (a_dec_at dc_Wo_least 14 rfl) ?_
  refine ev_aload_n (i := 0) rfl rfl (a_dec_at dc_Wo_least 15 rfl) ?_
  refine m_getR (y := 33) fl_Wo_30 rfl sh68 (mr_68_0 _) (by decide) (a_dec_at dc_Wo_least 16 rfl) ?_
  refine m_getR (y := 18) fl_Wo_54 rfl sh33 (mr_33_0 _) (by decide) (a_dec_at dc_Wo_least 17 rfl) ?_
  refine m_getI fl_Wo_58 rfl sh18 (a_dec_at dc_Wo_least 18 rfl) ?_
  refine ev_iconst (v := 0) rfl (a_dec_at dc_Wo_least 19 rfl) ?_
  obtain ⟨c2, H⟩ := H
  refine w_iast (k := ((up mi1 68 9 0) 18 0).toNatClampNeg) sh73 c2 rfl (a_dec_at dc_Wo_least 20 rfl) ?_
  refine ev_aload_n (i := 0) rfl rfl (a_dec_at dc_Wo_least 21 rfl) ?_
  refine m_getR (y := 33) fl_Wo_30 rfl sh68 (mr_68_0 _) (by decide) (a_dec_at dc_Wo_least 22 rfl) ?_
  refine m_getR (y := 18) fl_Wo_54 rfl sh33 (mr_33_0 _) (by decide) (a_dec_at dc_Wo_least 23 rfl) ?_
  refine m_getI fl_Wo_58 rfl sh18 (a_dec_at dc_Wo_least 24 rfl) ?_
  refine ev_iconst (v := 1) rfl (a_dec_at dc_Wo_least 25 rfl) ?_
  refine ev_isub (a_dec_at dc_Wo_least 26 rfl) ?_
  refine ev_istore (by decide) rfl (a_dec_at dc_Wo_least 27 rfl) ?_
  exact Ev.drop (L' := [.ref 68, .retAddr 0, .retAddr 0, .retAddr 0, .int (((up (up mi1 68 9 0) 73 (((up mi1 68 9 0) 18 0).toNatClampNeg) 0) 18 0) - 1)]) (And.intro rfl (And.intro rfl trivial)) H
set_option maxRecDepth 20000 in
theorem t_Wo_least_53 {l : Launch} {h : Nat} (mi : TMi) (ml : TMl) (z : Nat) (v4 : Int32) {Q : Int32 → TMi → TMl → Nat → Prop} (H : ((v4 < 0 → CI l h m_Wo_canBeEnough [.ref 68] mi ml z (fun x2 mi2 ml2 z2 => ((¬ x2 = 0 → Ev l (h + 1) m_Wo_least 112 ([.ref 68, .retAddr 0, .retAddr 0, .retAddr 0, .int 0], [], st mi2 ml2 z2) (qI Q)) ∧ (x2 = 0 → Q (-1) mi2 ml2 z2)))) ∧ (¬ v4 < 0 → CV l h m_Wo_weighGifts [.ref 68, .int v4] mi ml z (fun mi4 ml4 z4 => (vp_in (v4 + 1) 7) ∧ (vp_in v4 6) ∧ CI l h m_JI_numberOfLeadingZeros [.int (mi4 72 v4.toNatClampNeg)] mi4 ml4 z4 (fun x7 mi7 ml7 z7 => (vp_in v4 7) ∧ Ev l (h + 1) m_Wo_least 53 ([.ref 68, .retAddr 0, .retAddr 0, .retAddr 0, .int (v4 + (-1))], [], st (up mi7 73 v4.toNatClampNeg (((mi4 73 ((v4 + 1).toNatClampNeg)) + 31) - x7)) ml7 z7) (qI Q)))))) : Ev l (h + 1) m_Wo_least 53 ([.ref 68, .retAddr 0, .retAddr 0, .retAddr 0, .int v4], [], st mi ml z) (qI Q) := by
  refine ev_iload rfl (a_dec_at dc_Wo_least 28 rfl) ?_
  refine ev_if_lt (tgt := 100) (a_dec_at dc_Wo_least 29 rfl) (by decide) (fun b1 => ?_) (fun b1 => ?_)
  · have H := H.1 b1
    refine ev_aload_n (i := 0) rfl rfl (a_dec_at dc_Wo_least 53 rfl) ?_
    refine cV0I cs_Wo_73 sh68 rfl (Nat.le_of_ble_eq_true rfl) (Nat.le_of_ble_eq_true rfl) (a_dec_at dc_Wo_least 54 rfl) ?_
    refine CI.mono (fun x2 mi2 ml2 z2 H => ?_) H
    refine ev_if_ne (tgt := 109) (a_dec_at dc_Wo_least 55 rfl) (by decide) (fun b3 => ?_) (fun b3 => ?_)
    · have H := H.1 b3
      refine ev_iconst (v := 0) rfl (a_dec_at dc_Wo_least 58 rfl) ?_
      refine ev_istore (by decide) rfl (a_dec_at dc_Wo_least 59 rfl) ?_
      exact Ev.drop (L' := [.ref 68, .retAddr 0, .retAddr 0, .retAddr 0, .int 0]) (And.intro rfl (And.intro rfl trivial)) H
    · have H := H.2 b3
      refine ev_iconst (v := (-1)) rfl (a_dec_at dc_Wo_least 56 rfl) ?_
      exact m_retI (a_dec_at dc_Wo_least 57 rfl) rfl rfl H
  · have H := H.2 b1
    refine ev_aload_n (i := 0) rfl rfl (a_dec_at dc_Wo_least 30 rfl) ?_
    refine ev_iload rfl (a_dec_at dc_Wo_least 31 rfl) ?_
    refine cV1V cs_Wo_63 sh68 rfl (Nat.le_of_ble_eq_true rfl) (Nat.le_of_ble_eq_true rfl) (a_dec_at dc_Wo_least 32 rfl) ?_
    refine CV.mono (fun mi4 ml4 z4 H => ?_) H
    refine ev_aload_n (i := 0) rfl rfl (a_dec_at dc_Wo_least 33 rfl) ?_
    refine m_getR (y := 73) fl_Wo_24 rfl sh68 (mr_68_8 _) (by decide) (a_dec_at dc_Wo_least 34 rfl) ?_
    refine ev_iload rfl (a_dec_at dc_Wo_least 35 rfl) ?_
    refine ev_aload_n (i := 0) rfl rfl (a_dec_at dc_Wo_least 36 rfl) ?_
    refine m_getR (y := 73) fl_Wo_24 rfl sh68 (mr_68_8 _) (by decide) (a_dec_at dc_Wo_least 37 rfl) ?_
    refine ev_iload rfl (a_dec_at dc_Wo_least 38 rfl) ?_
    refine ev_iconst (v := 1) rfl (a_dec_at dc_Wo_least 39 rfl) ?_
    refine ev_iadd (a_dec_at dc_Wo_least 40 rfl) ?_
    obtain ⟨c5, H⟩ := H
    refine w_iald (k := (v4 + 1).toNatClampNeg) sh73 c5 rfl (a_dec_at dc_Wo_least 41 rfl) ?_
    refine ev_bipush (v := 31) rfl (a_dec_at dc_Wo_least 42 rfl) ?_
    refine ev_iadd (a_dec_at dc_Wo_least 43 rfl) ?_
    refine ev_aload_n (i := 0) rfl rfl (a_dec_at dc_Wo_least 44 rfl) ?_
    refine m_getR (y := 72) fl_Wo_21 rfl sh68 (mr_68_7 _) (by decide) (a_dec_at dc_Wo_least 45 rfl) ?_
    refine ev_iload rfl (a_dec_at dc_Wo_least 46 rfl) ?_
    obtain ⟨c6, H⟩ := H
    refine w_iald (k := v4.toNatClampNeg) sh72 c6 rfl (a_dec_at dc_Wo_least 47 rfl) ?_
    refine cS1I cs_Wo_67 rfl (Nat.le_of_ble_eq_true rfl) (Nat.le_of_ble_eq_true rfl) (a_dec_at dc_Wo_least 48 rfl) ?_
    refine CI.mono (fun x7 mi7 ml7 z7 H => ?_) H
    refine ev_isub (a_dec_at dc_Wo_least 49 rfl) ?_
    obtain ⟨c8, H⟩ := H
    refine w_iast (k := v4.toNatClampNeg) sh73 c8 rfl (a_dec_at dc_Wo_least 50 rfl) ?_
    refine ev_iinc (v := (-1)) rfl rfl (by decide) rfl (a_dec_at dc_Wo_least 51 rfl) ?_
    refine ev_goto (tgt := 53) (a_dec_at dc_Wo_least 52 rfl) (by decide) ?_
    exact Ev.drop (L' := [.ref 68, .retAddr 0, .retAddr 0, .retAddr 0, .int (v4 + (-1))]) (And.intro rfl (And.intro rfl trivial)) H
set_option maxRecDepth 20000 in
theorem t_Wo_least_112 {l : Launch} {h : Nat} (mi : TMi) (ml : TMl) (z : Nat) (v4 : Int32) {Q : Int32 → TMi → TMl → Nat → Prop} (H : ((9 < v4 → Q (-1) mi ml z) ∧ (¬ 9 < v4 → CI l h m_Wo_givesFrom [.ref 68, .int 0, .int v4] mi ml z (fun x2 mi2 ml2 z2 => ((x2 = 0 → Ev l (h + 1) m_Wo_least 112 ([.ref 68, .retAddr 0, .retAddr 0, .retAddr 0, .int (v4 + 1)], [], st mi2 ml2 z2) (qI Q)) ∧ (¬ x2 = 0 → Q v4 mi2 ml2 z2)))))) : Ev l (h + 1) m_Wo_least 112 ([.ref 68, .retAddr 0, .retAddr 0, .retAddr 0, .int v4], [], st mi ml z) (qI Q) := by
  refine ev_iload rfl (a_dec_at dc_Wo_least 60 rfl) ?_
  refine ev_bipush (v := 9) rfl (a_dec_at dc_Wo_least 61 rfl) ?_
  refine ev_icmp_gt (tgt := 138) (a_dec_at dc_Wo_least 62 rfl) (by decide) (fun b1 => ?_) (fun b1 => ?_)
  · have H := H.1 b1
    refine ev_iconst (v := (-1)) rfl (a_dec_at dc_Wo_least 72 rfl) ?_
    exact m_retI (a_dec_at dc_Wo_least 73 rfl) rfl rfl H
  · have H := H.2 b1
    refine ev_aload_n (i := 0) rfl rfl (a_dec_at dc_Wo_least 63 rfl) ?_
    refine ev_iconst (v := 0) rfl (a_dec_at dc_Wo_least 64 rfl) ?_
    refine ev_iload rfl (a_dec_at dc_Wo_least 65 rfl) ?_
    refine cV2I cs_Wo_77 sh68 rfl (Nat.le_of_ble_eq_true rfl) (Nat.le_of_ble_eq_true rfl) (a_dec_at dc_Wo_least 66 rfl) ?_
    refine CI.mono (fun x2 mi2 ml2 z2 H => ?_) H
    refine ev_if_eq (tgt := 132) (a_dec_at dc_Wo_least 67 rfl) (by decide) (fun b3 => ?_) (fun b3 => ?_)
    · have H := H.1 b3
      refine ev_iinc (v := 1) rfl rfl (by decide) rfl (a_dec_at dc_Wo_least 70 rfl) ?_
      refine ev_goto (tgt := 112) (a_dec_at dc_Wo_least 71 rfl) (by decide) ?_
      exact Ev.drop (L' := [.ref 68, .retAddr 0, .retAddr 0, .retAddr 0, .int (v4 + 1)]) (And.intro rfl (And.intro rfl trivial)) H
    · have H := H.2 b3
      refine ev_iload rfl (a_dec_at dc_Wo_least 68 rfl) ?_
      exact m_retI (a_dec_at dc_Wo_least 69 rfl) rfl rfl H
set_option maxRecDepth 20000 in
theorem t_Wo_weighGifts {l : Launch} {h : Nat} (mi : TMi) (ml : TMl) (z : Nat) (a1 : Int32) {Q : TMi → TMl → Nat → Prop} (H : CI l h m_Sc_giftsOf [.ref 33, .int a1, .int (mi 68 2)] mi ml z (fun x1 mi1 ml1 z1 => (vp_in a1 6) ∧ Ev l (h + 1) m_Wo_weighGifts 22 ([.ref 68, .int a1, .int x1, .int 0], [], st (up mi1 72 a1.toNatClampNeg 0) ml1 z1) (qV Q))) : CV l (h + 1) m_Wo_weighGifts [.ref 68, .int a1] mi ml z Q := by
  show Ev l (h + 1) m_Wo_weighGifts 0 ([.ref 68, .int a1, .retAddr 0, .retAddr 0], [], st mi ml z) (qV Q)
  refine ev_aload_n (i := 0) rfl rfl (a_dec_at dc_Wo_weighGifts 0 rfl) ?_
  refine m_getR (y := 33) fl_Wo_30 rfl sh68 (mr_68_0 _) (by decide) (a_dec_at dc_Wo_weighGifts 1 rfl) ?_
  refine ev_iload_n (i := 1) rfl rfl (a_dec_at dc_Wo_weighGifts 2 rfl) ?_
  refine ev_aload_n (i := 0) rfl rfl (a_dec_at dc_Wo_weighGifts 3 rfl) ?_
  refine m_getI fl_Wo_38 rfl sh68 (a_dec_at dc_Wo_weighGifts 4 rfl) ?_
  refine cV2I cs_Wo_81 sh33 rfl (Nat.le_of_ble_eq_true rfl) (Nat.le_of_ble_eq_true rfl) (a_dec_at dc_Wo_weighGifts 5 rfl) ?_
  refine CI.mono (fun x1 mi1 ml1 z1 H => ?_) H
  refine ev_istore_n (i := 2) rfl (by decide) rfl (a_dec_at dc_Wo_weighGifts 6 rfl) ?_
  refine ev_aload_n (i := 0) rfl rfl (a_dec_at dc_Wo_weighGifts 7 rfl) ?_
  refine m_getR (y := 72) fl_Wo_21 rfl sh68 (mr_68_7 _) (by decide) (a_dec_at dc_Wo_weighGifts 8 rfl) ?_
  refine ev_iload_n (i := 1) rfl rfl (a_dec_at dc_Wo_weighGifts 9 rfl) ?_
  refine ev_iconst (v := 0) rfl (a_dec_at dc_Wo_weighGifts 10 rfl) ?_
  obtain ⟨c2, H⟩ := H
  refine w_iast (k := a1.toNatClampNeg) sh72 c2 rfl (a_dec_at dc_Wo_weighGifts 11 rfl) ?_
  refine ev_iconst (v := 0) rfl (a_dec_at dc_Wo_weighGifts 12 rfl) ?_
  refine ev_istore_n (i := 3) rfl (by decide) rfl (a_dec_at dc_Wo_weighGifts 13 rfl) ?_
  exact Ev.drop (L' := [.ref 68, .int a1, .int x1, .int 0]) (And.intro rfl (And.intro rfl (And.intro rfl (And.intro rfl trivial)))) H
set_option maxRecDepth 20000 in
theorem t_Wo_weighGifts_22 {l : Launch} {h : Nat} (mi : TMi) (ml : TMl) (z : Nat) (v1 : Int32) (v2 : Int32) (v3 : Int32) {Q : TMi → TMl → Nat → Prop} (H : ((9 < (v2 + v3) → Q mi ml z) ∧ (¬ 9 < (v2 + v3) → (vp_in v1 6) ∧ CV l h m_Sc_measure [.ref 33, .int v1, .int (mi 68 2), .int (mi 20 v1.toNatClampNeg), .int (v2 + v3)] mi ml z (fun mi3 ml3 z3 => CI l h m_Wo_level [.int v1, .int v3] mi3 ml3 z3 (fun x4 mi4 ml4 z4 => CI l h m_B_pair [.int v1, .int (mi4 68 2)] mi4 ml4 z4 (fun x5 mi5 ml5 z5 => (vp_in x5 24) ∧ (vp_in x4 60) ∧ CI l h m_Wo_level [.int v1, .int v3] (up mi5 69 x4.toNatClampNeg (mi5 35 x5.toNatClampNeg)) ml5 z5 (fun x8 mi8 ml8 z8 => CI l h m_B_pair [.int v1, .int (mi8 68 2)] mi8 ml8 z8 (fun x9 mi9 ml9 z9 => (vp_in x9 24) ∧ (vp_in x8 60) ∧ CI l h m_Wo_level [.int v1, .int v3] (up mi9 70 x8.toNatClampNeg (mi9 36 x9.toNatClampNeg)) ml9 z9 (fun x12 mi12 ml12 z12 => (vp_in x12 60) ∧ CI l h m_Sc_bothWould [.ref 33, .int v1, .int ((up mi12 71 x12.toNatClampNeg (-1)) 68 2)] (up mi12 71 x12.toNatClampNeg (-1)) ml12 z12 (fun x14 mi14 ml14 z14 => ((x14 = 0 → CI l h m_Wo_isNew [.ref 68, .int v1, .int v3] mi14 ml14 z14 (fun x16 mi16 ml16 z16 => ((x16 = 0 → Ev l (h + 1) m_Wo_weighGifts 22 ([.ref 68, .int v1, .int v2, .int (v3 + 1)], [], st mi16 ml16 z16) (qV Q)) ∧ (¬ x16 = 0 → (vp_in v1 6) ∧ (vp_in v1 6) ∧ Ev l (h + 1) m_Wo_weighGifts 22 ([.ref 68, .int v1, .int v2, .int (v3 + 1)], [], st (up mi16 72 v1.toNatClampNeg ((mi16 72 v1.toNatClampNeg) ||| ((1 : Int32) <<< (v3 &&& 31)))) ml16 z16) (qV Q))))) ∧ (¬ x14 = 0 → CI l h m_Wo_level [.int v1, .int v3] mi14 ml14 z14 (fun x20 mi20 ml20 z20 => CI l h m_Sc_rankOf [.ref 33, .int v1, .int (mi20 68 2)] mi20 ml20 z20 (fun x21 mi21 ml21 z21 => (vp_in x20 60) ∧ CI l h m_Wo_isNew [.ref 68, .int v1, .int v3] (up (up mi21 71 x20.toNatClampNeg x21) 68 9 (((up mi21 71 x20.toNatClampNeg x21) 68 9) ||| ((1 : Int32) <<< (v1 &&& 31)))) ml21 z21 (fun x23 mi23 ml23 z23 => ((x23 = 0 → Ev l (h + 1) m_Wo_weighGifts 22 ([.ref 68, .int v1, .int v2, .int (v3 + 1)], [], st mi23 ml23 z23) (qV Q)) ∧ (¬ x23 = 0 → (vp_in v1 6) ∧ (vp_in v1 6) ∧ Ev l (h + 1) m_Wo_weighGifts 22 ([.ref 68, .int v1, .int v2, .int (v3 + 1)], [], st (up mi23 72 v1.toNatClampNeg ((mi23 72 v1.toNatClampNeg) ||| ((1 : Int32) <<< (v3 &&& 31)))) ml23 z23) (qV Q)))))))))))))))))) : Ev l (h + 1) m_Wo_weighGifts 22 ([.ref 68, .int v1, .int v2, .int v3], [], st mi ml z) (qV Q) := by
  refine ev_iload_n (i := 2) rfl rfl (a_dec_at dc_Wo_weighGifts 14 rfl) ?_
  refine ev_iload_n (i := 3) rfl rfl (a_dec_at dc_Wo_weighGifts 15 rfl) ?_
  refine ev_iadd (a_dec_at dc_Wo_weighGifts 16 rfl) ?_
  refine ev_bipush (v := 9) rfl (a_dec_at dc_Wo_weighGifts 17 rfl) ?_
  refine ev_icmp_gt (tgt := 196) (a_dec_at dc_Wo_weighGifts 18 rfl) (by decide) (fun b1 => ?_) (fun b1 => ?_)
  · have H := H.1 b1
    exact m_retV (a_dec_at dc_Wo_weighGifts 113 rfl) rfl H
  · have H := H.2 b1
    refine ev_aload_n (i := 0) rfl rfl (a_dec_at dc_Wo_weighGifts 19 rfl) ?_
    refine m_getR (y := 33) fl_Wo_30 rfl sh68 (mr_68_0 _) (by decide) (a_dec_at dc_Wo_weighGifts 20 rfl) ?_
    refine ev_iload_n (i := 1) rfl rfl (a_dec_at dc_Wo_weighGifts 21 rfl) ?_
    refine ev_aload_n (i := 0) rfl rfl (a_dec_at dc_Wo_weighGifts 22 rfl) ?_
    refine m_getI fl_Wo_38 rfl sh68 (a_dec_at dc_Wo_weighGifts 23 rfl) ?_
    refine ev_aload_n (i := 0) rfl rfl (a_dec_at dc_Wo_weighGifts 24 rfl) ?_
    refine m_getR (y := 33) fl_Wo_30 rfl sh68 (mr_68_0 _) (by decide) (a_dec_at dc_Wo_weighGifts 25 rfl) ?_
    refine m_getR (y := 18) fl_Wo_54 rfl sh33 (mr_33_0 _) (by decide) (a_dec_at dc_Wo_weighGifts 26 rfl) ?_
    refine m_getR (y := 20) fl_Wo_85 rfl sh18 (mr_18_4 _) (by decide) (a_dec_at dc_Wo_weighGifts 27 rfl) ?_
    refine ev_iload_n (i := 1) rfl rfl (a_dec_at dc_Wo_weighGifts 28 rfl) ?_
    obtain ⟨c2, H⟩ := H
    refine w_iald (k := v1.toNatClampNeg) sh20 c2 rfl (a_dec_at dc_Wo_weighGifts 29 rfl) ?_
    refine ev_iload_n (i := 2) rfl rfl (a_dec_at dc_Wo_weighGifts 30 rfl) ?_
    refine ev_iload_n (i := 3) rfl rfl (a_dec_at dc_Wo_weighGifts 31 rfl) ?_
    refine ev_iadd (a_dec_at dc_Wo_weighGifts 32 rfl) ?_
    refine cV4V cs_Wo_88 sh33 rfl (Nat.le_of_ble_eq_true rfl) (Nat.le_of_ble_eq_true rfl) (a_dec_at dc_Wo_weighGifts 33 rfl) ?_
    refine CV.mono (fun mi3 ml3 z3 H => ?_) H
    refine ev_aload_n (i := 0) rfl rfl (a_dec_at dc_Wo_weighGifts 34 rfl) ?_
    refine m_getR (y := 69) fl_Wo_9 rfl sh68 (mr_68_4 _) (by decide) (a_dec_at dc_Wo_weighGifts 35 rfl) ?_
    refine ev_iload_n (i := 1) rfl rfl (a_dec_at dc_Wo_weighGifts 36 rfl) ?_
    refine ev_iload_n (i := 3) rfl rfl (a_dec_at dc_Wo_weighGifts 37 rfl) ?_
    refine cS2I cs_Wo_92 rfl (Nat.le_of_ble_eq_true rfl) (Nat.le_of_ble_eq_true rfl) (a_dec_at dc_Wo_weighGifts 38 rfl) ?_
    refine CI.mono (fun x4 mi4 ml4 z4 H => ?_) H
    refine ev_aload_n (i := 0) rfl rfl (a_dec_at dc_Wo_weighGifts 39 rfl) ?_
    refine m_getR (y := 33) fl_Wo_30 rfl sh68 (mr_68_0 _) (by decide) (a_dec_at dc_Wo_weighGifts 40 rfl) ?_
    refine m_getR (y := 35) fl_Wo_95 rfl sh33 (mr_33_3 _) (by decide) (a_dec_at dc_Wo_weighGifts 41 rfl) ?_
    refine ev_iload_n (i := 1) rfl rfl (a_dec_at dc_Wo_weighGifts 42 rfl) ?_
    refine ev_aload_n (i := 0) rfl rfl (a_dec_at dc_Wo_weighGifts 43 rfl) ?_
    refine m_getI fl_Wo_38 rfl sh68 (a_dec_at dc_Wo_weighGifts 44 rfl) ?_
    refine cN2I cs_Wo_96 rfl (Nat.le_of_ble_eq_true rfl) (Nat.le_of_ble_eq_true rfl) (a_dec_at dc_Wo_weighGifts 45 rfl) ?_
    refine CI.mono (fun x5 mi5 ml5 z5 H => ?_) H
    obtain ⟨c6, H⟩ := H
    refine w_iald (k := x5.toNatClampNeg) sh35 c6 rfl (a_dec_at dc_Wo_weighGifts 46 rfl) ?_
    obtain ⟨c7, H⟩ := H
    refine w_iast (k := x4.toNatClampNeg) sh69 c7 rfl (a_dec_at dc_Wo_weighGifts 47 rfl) ?_
    refine ev_aload_n (i := 0) rfl rfl (a_dec_at dc_Wo_weighGifts 48 rfl) ?_
    refine m_getR (y := 70) fl_Wo_15 rfl sh68 (mr_68_5 _) (by decide) (a_dec_at dc_Wo_weighGifts 49 rfl) ?_
    refine ev_iload_n (i := 1) rfl rfl (a_dec_at dc_Wo_weighGifts 50 rfl) ?_
    refine ev_iload_n (i := 3) rfl rfl (a_dec_at dc_Wo_weighGifts 51 rfl) ?_
    refine cS2I cs_Wo_92 rfl (Nat.le_of_ble_eq_true rfl) (Nat.le_of_ble_eq_true rfl) (a_dec_at dc_Wo_weighGifts 52 rfl) ?_
    refine CI.mono (fun x8 mi8 ml8 z8 H => ?_) H
    refine ev_aload_n (i := 0) rfl rfl (a_dec_at dc_Wo_weighGifts 53 rfl) ?_
    refine m_getR (y := 33) fl_Wo_30 rfl sh68 (mr_68_0 _) (by decide) (a_dec_at dc_Wo_weighGifts 54 rfl) ?_
    refine m_getR (y := 36) fl_Wo_99 rfl sh33 (mr_33_4 _) (by decide) (a_dec_at dc_Wo_weighGifts 55 rfl) ?_
    refine ev_iload_n (i := 1) rfl rfl (a_dec_at dc_Wo_weighGifts 56 rfl) ?_
    refine ev_aload_n (i := 0) rfl rfl (a_dec_at dc_Wo_weighGifts 57 rfl) ?_
    refine m_getI fl_Wo_38 rfl sh68 (a_dec_at dc_Wo_weighGifts 58 rfl) ?_
    refine cN2I cs_Wo_96 rfl (Nat.le_of_ble_eq_true rfl) (Nat.le_of_ble_eq_true rfl) (a_dec_at dc_Wo_weighGifts 59 rfl) ?_
    refine CI.mono (fun x9 mi9 ml9 z9 H => ?_) H
    obtain ⟨c10, H⟩ := H
    refine w_iald (k := x9.toNatClampNeg) sh36 c10 rfl (a_dec_at dc_Wo_weighGifts 60 rfl) ?_
    obtain ⟨c11, H⟩ := H
    refine w_iast (k := x8.toNatClampNeg) sh70 c11 rfl (a_dec_at dc_Wo_weighGifts 61 rfl) ?_
    refine ev_aload_n (i := 0) rfl rfl (a_dec_at dc_Wo_weighGifts 62 rfl) ?_
    refine m_getR (y := 71) fl_Wo_18 rfl sh68 (mr_68_6 _) (by decide) (a_dec_at dc_Wo_weighGifts 63 rfl) ?_
    refine ev_iload_n (i := 1) rfl rfl (a_dec_at dc_Wo_weighGifts 64 rfl) ?_
    refine ev_iload_n (i := 3) rfl rfl (a_dec_at dc_Wo_weighGifts 65 rfl) ?_
    refine cS2I cs_Wo_92 rfl (Nat.le_of_ble_eq_true rfl) (Nat.le_of_ble_eq_true rfl) (a_dec_at dc_Wo_weighGifts 66 rfl) ?_
    refine CI.mono (fun x12 mi12 ml12 z12 H => ?_) H
    refine ev_iconst (v := (-1)) rfl (a_dec_at dc_Wo_weighGifts 67 rfl) ?_
    obtain ⟨c13, H⟩ := H
    refine w_iast (k := x12.toNatClampNeg) sh71 c13 rfl (a_dec_at dc_Wo_weighGifts 68 rfl) ?_
    refine ev_aload_n (i := 0) rfl rfl (a_dec_at dc_Wo_weighGifts 69 rfl) ?_
    refine m_getR (y := 33) fl_Wo_30 rfl sh68 (mr_68_0 _) (by decide) (a_dec_at dc_Wo_weighGifts 70 rfl) ?_
    refine ev_iload_n (i := 1) rfl rfl (a_dec_at dc_Wo_weighGifts 71 rfl) ?_
    refine ev_aload_n (i := 0) rfl rfl (a_dec_at dc_Wo_weighGifts 72 rfl) ?_
    refine m_getI fl_Wo_38 rfl sh68 (a_dec_at dc_Wo_weighGifts 73 rfl) ?_
    refine cV2I cs_Wo_100 sh33 rfl (Nat.le_of_ble_eq_true rfl) (Nat.le_of_ble_eq_true rfl) (a_dec_at dc_Wo_weighGifts 74 rfl) ?_
    refine CI.mono (fun x14 mi14 ml14 z14 H => ?_) H
    refine ev_if_eq (tgt := 169) (a_dec_at dc_Wo_weighGifts 75 rfl) (by decide) (fun b15 => ?_) (fun b15 => ?_)
    · have H := H.1 b15
      refine ev_aload_n (i := 0) rfl rfl (a_dec_at dc_Wo_weighGifts 96 rfl) ?_
      refine ev_iload_n (i := 1) rfl rfl (a_dec_at dc_Wo_weighGifts 97 rfl) ?_
      refine ev_iload_n (i := 3) rfl rfl (a_dec_at dc_Wo_weighGifts 98 rfl) ?_
      refine cV2I cs_Wo_106 sh68 rfl (Nat.le_of_ble_eq_true rfl) (Nat.le_of_ble_eq_true rfl) (a_dec_at dc_Wo_weighGifts 99 rfl) ?_
      refine CI.mono (fun x16 mi16 ml16 z16 H => ?_) H
      refine ev_if_eq (tgt := 190) (a_dec_at dc_Wo_weighGifts 100 rfl) (by decide) (fun b17 => ?_) (fun b17 => ?_)
      · have H := H.1 b17
        refine ev_iinc (v := 1) rfl rfl (by decide) rfl (a_dec_at dc_Wo_weighGifts 111 rfl) ?_
        refine ev_goto (tgt := 22) (a_dec_at dc_Wo_weighGifts 112 rfl) (by decide) ?_
        exact Ev.drop (L' := [.ref 68, .int v1, .int v2, .int (v3 + 1)]) (And.intro rfl (And.intro rfl (And.intro rfl (And.intro rfl trivial)))) H
      · have H := H.2 b17
        refine ev_aload_n (i := 0) rfl rfl (a_dec_at dc_Wo_weighGifts 101 rfl) ?_
        refine m_getR (y := 72) fl_Wo_21 rfl sh68 (mr_68_7 _) (by decide) (a_dec_at dc_Wo_weighGifts 102 rfl) ?_
        refine ev_iload_n (i := 1) rfl rfl (a_dec_at dc_Wo_weighGifts 103 rfl) ?_
        refine ev_dup2 rfl rfl (a_dec_at dc_Wo_weighGifts 104 rfl) ?_
        obtain ⟨c18, H⟩ := H
        refine w_iald (k := v1.toNatClampNeg) sh72 c18 rfl (a_dec_at dc_Wo_weighGifts 105 rfl) ?_
        refine ev_iconst (v := 1) rfl (a_dec_at dc_Wo_weighGifts 106 rfl) ?_
        refine ev_iload_n (i := 3) rfl rfl (a_dec_at dc_Wo_weighGifts 107 rfl) ?_
        refine ev_ishl (a_dec_at dc_Wo_weighGifts 108 rfl) ?_
        refine ev_ior (a_dec_at dc_Wo_weighGifts 109 rfl) ?_
        obtain ⟨c19, H⟩ := H
        refine w_iast (k := v1.toNatClampNeg) sh72 c19 rfl (a_dec_at dc_Wo_weighGifts 110 rfl) ?_
        refine ev_iinc (v := 1) rfl rfl (by decide) rfl (a_dec_at dc_Wo_weighGifts 111 rfl) ?_
        refine ev_goto (tgt := 22) (a_dec_at dc_Wo_weighGifts 112 rfl) (by decide) ?_
        exact Ev.drop (L' := [.ref 68, .int v1, .int v2, .int (v3 + 1)]) (And.intro rfl (And.intro rfl (And.intro rfl (And.intro rfl trivial)))) H
    · have H := H.2 b15
      refine ev_aload_n (i := 0) rfl rfl (a_dec_at dc_Wo_weighGifts 76 rfl) ?_
      refine m_getR (y := 71) fl_Wo_18 rfl sh68 (mr_68_6 _) (by decide) (a_dec_at dc_Wo_weighGifts 77 rfl) ?_
      refine ev_iload_n (i := 1) rfl rfl (a_dec_at dc_Wo_weighGifts 78 rfl) ?_
      refine ev_iload_n (i := 3) rfl rfl (a_dec_at dc_Wo_weighGifts 79 rfl) ?_
      refine cS2I cs_Wo_92 rfl (Nat.le_of_ble_eq_true rfl) (Nat.le_of_ble_eq_true rfl) (a_dec_at dc_Wo_weighGifts 80 rfl) ?_
      refine CI.mono (fun x20 mi20 ml20 z20 H => ?_) H
      refine ev_aload_n (i := 0) rfl rfl (a_dec_at dc_Wo_weighGifts 81 rfl) ?_
      refine m_getR (y := 33) fl_Wo_30 rfl sh68 (mr_68_0 _) (by decide) (a_dec_at dc_Wo_weighGifts 82 rfl) ?_
      refine ev_iload_n (i := 1) rfl rfl (a_dec_at dc_Wo_weighGifts 83 rfl) ?_
      refine ev_aload_n (i := 0) rfl rfl (a_dec_at dc_Wo_weighGifts 84 rfl) ?_
      refine m_getI fl_Wo_38 rfl sh68 (a_dec_at dc_Wo_weighGifts 85 rfl) ?_
      refine cV2I cs_Wo_103 sh33 rfl (Nat.le_of_ble_eq_true rfl) (Nat.le_of_ble_eq_true rfl) (a_dec_at dc_Wo_weighGifts 86 rfl) ?_
      refine CI.mono (fun x21 mi21 ml21 z21 H => ?_) H
      obtain ⟨c22, H⟩ := H
      refine w_iast (k := x20.toNatClampNeg) sh71 c22 rfl (a_dec_at dc_Wo_weighGifts 87 rfl) ?_
      refine ev_aload_n (i := 0) rfl rfl (a_dec_at dc_Wo_weighGifts 88 rfl) ?_
      refine ev_dup rfl (a_dec_at dc_Wo_weighGifts 89 rfl) ?_
      refine m_getI fl_Wo_51 rfl sh68 (a_dec_at dc_Wo_weighGifts 90 rfl) ?_
      refine ev_iconst (v := 1) rfl (a_dec_at dc_Wo_weighGifts 91 rfl) ?_
      refine ev_iload_n (i := 1) rfl rfl (a_dec_at dc_Wo_weighGifts 92 rfl) ?_
      refine ev_ishl (a_dec_at dc_Wo_weighGifts 93 rfl) ?_
      refine ev_ior (a_dec_at dc_Wo_weighGifts 94 rfl) ?_
      refine m_putI fl_Wo_51 rfl (fun _ _ _ h => by cases h; exact Or.inl rfl) sh68 (a_dec_at dc_Wo_weighGifts 95 rfl) ?_
      refine ev_aload_n (i := 0) rfl rfl (a_dec_at dc_Wo_weighGifts 96 rfl) ?_
      refine ev_iload_n (i := 1) rfl rfl (a_dec_at dc_Wo_weighGifts 97 rfl) ?_
      refine ev_iload_n (i := 3) rfl rfl (a_dec_at dc_Wo_weighGifts 98 rfl) ?_
      refine cV2I cs_Wo_106 sh68 rfl (Nat.le_of_ble_eq_true rfl) (Nat.le_of_ble_eq_true rfl) (a_dec_at dc_Wo_weighGifts 99 rfl) ?_
      refine CI.mono (fun x23 mi23 ml23 z23 H => ?_) H
      refine ev_if_eq (tgt := 190) (a_dec_at dc_Wo_weighGifts 100 rfl) (by decide) (fun b24 => ?_) (fun b24 => ?_)
      · have H := H.1 b24
        refine ev_iinc (v := 1) rfl rfl (by decide) rfl (a_dec_at dc_Wo_weighGifts 111 rfl) ?_
        refine ev_goto (tgt := 22) (a_dec_at dc_Wo_weighGifts 112 rfl) (by decide) ?_
        exact Ev.drop (L' := [.ref 68, .int v1, .int v2, .int (v3 + 1)]) (And.intro rfl (And.intro rfl (And.intro rfl (And.intro rfl trivial)))) H
      · have H := H.2 b24
        refine ev_aload_n (i := 0) rfl rfl (a_dec_at dc_Wo_weighGifts 101 rfl) ?_
        refine m_getR (y := 72) fl_Wo_21 rfl sh68 (mr_68_7 _) (by decide) (a_dec_at dc_Wo_weighGifts 102 rfl) ?_
        refine ev_iload_n (i := 1) rfl rfl (a_dec_at dc_Wo_weighGifts 103 rfl) ?_
        refine ev_dup2 rfl rfl (a_dec_at dc_Wo_weighGifts 104 rfl) ?_
        obtain ⟨c25, H⟩ := H
        refine w_iald (k := v1.toNatClampNeg) sh72 c25 rfl (a_dec_at dc_Wo_weighGifts 105 rfl) ?_
        refine ev_iconst (v := 1) rfl (a_dec_at dc_Wo_weighGifts 106 rfl) ?_
        refine ev_iload_n (i := 3) rfl rfl (a_dec_at dc_Wo_weighGifts 107 rfl) ?_
        refine ev_ishl (a_dec_at dc_Wo_weighGifts 108 rfl) ?_
        refine ev_ior (a_dec_at dc_Wo_weighGifts 109 rfl) ?_
        obtain ⟨c26, H⟩ := H
        refine w_iast (k := v1.toNatClampNeg) sh72 c26 rfl (a_dec_at dc_Wo_weighGifts 110 rfl) ?_
        refine ev_iinc (v := 1) rfl rfl (by decide) rfl (a_dec_at dc_Wo_weighGifts 111 rfl) ?_
        refine ev_goto (tgt := 22) (a_dec_at dc_Wo_weighGifts 112 rfl) (by decide) ?_
        exact Ev.drop (L' := [.ref 68, .int v1, .int v2, .int (v3 + 1)]) (And.intro rfl (And.intro rfl (And.intro rfl (And.intro rfl trivial)))) H
set_option maxRecDepth 20000 in
theorem t_Wo_level {l : Launch} {h : Nat} (mi : TMi) (ml : TMl) (z : Nat) (a1 : Int32) (a2 : Int32) {Q : Int32 → TMi → TMl → Nat → Prop} (H : Q ((a1 * 10) + a2) mi ml z) : CI l (h + 1) m_Wo_level [.int a1, .int a2] mi ml z Q := by
  show Ev l (h + 1) m_Wo_level 0 ([.int a1, .int a2], [], st mi ml z) (qI Q)
  refine ev_iload_n (i := 0) rfl rfl (a_dec_at dc_Wo_level 0 rfl) ?_
  refine ev_bipush (v := 10) rfl (a_dec_at dc_Wo_level 1 rfl) ?_
  refine ev_imul (a_dec_at dc_Wo_level 2 rfl) ?_
  refine ev_iload_n (i := 1) rfl rfl (a_dec_at dc_Wo_level 3 rfl) ?_
  refine ev_iadd (a_dec_at dc_Wo_level 4 rfl) ?_
  exact m_retI (a_dec_at dc_Wo_level 5 rfl) rfl rfl H
set_option maxRecDepth 20000 in
theorem t_Wo_isNew {l : Launch} {h : Nat} (mi : TMi) (ml : TMl) (z : Nat) (a1 : Int32) (a2 : Int32) {Q : Int32 → TMi → TMl → Nat → Prop} (H : CI l h m_Wo_level [.int a1, .int a2] mi ml z (fun x1 mi1 ml1 z1 => CI l h m_Wo_level [.int a1, .int 0] mi1 ml1 z1 (fun x2 mi2 ml2 z2 => Ev l (h + 1) m_Wo_isNew 13 ([.ref 68, .retAddr 0, .retAddr 0, .int x1, .int x2], [], st mi2 ml2 z2) (qI Q)))) : CI l (h + 1) m_Wo_isNew [.ref 68, .int a1, .int a2] mi ml z Q := by
  show Ev l (h + 1) m_Wo_isNew 0 ([.ref 68, .int a1, .int a2, .retAddr 0, .retAddr 0], [], st mi ml z) (qI Q)
  refine ev_iload_n (i := 1) rfl rfl (a_dec_at dc_Wo_isNew 0 rfl) ?_
  refine ev_iload_n (i := 2) rfl rfl (a_dec_at dc_Wo_isNew 1 rfl) ?_
  refine cS2I cs_Wo_92 rfl (Nat.le_of_ble_eq_true rfl) (Nat.le_of_ble_eq_true rfl) (a_dec_at dc_Wo_isNew 2 rfl) ?_
  refine CI.mono (fun x1 mi1 ml1 z1 H => ?_) H
  refine ev_istore_n (i := 3) rfl (by decide) rfl (a_dec_at dc_Wo_isNew 3 rfl) ?_
  refine ev_iload_n (i := 1) rfl rfl (a_dec_at dc_Wo_isNew 4 rfl) ?_
  refine ev_iconst (v := 0) rfl (a_dec_at dc_Wo_isNew 5 rfl) ?_
  refine cS2I cs_Wo_92 rfl (Nat.le_of_ble_eq_true rfl) (Nat.le_of_ble_eq_true rfl) (a_dec_at dc_Wo_isNew 6 rfl) ?_
  refine CI.mono (fun x2 mi2 ml2 z2 H => ?_) H
  refine ev_istore (by decide) rfl (a_dec_at dc_Wo_isNew 7 rfl) ?_
  exact Ev.drop (L' := [.ref 68, .retAddr 0, .retAddr 0, .int x1, .int x2]) (And.intro rfl (And.intro rfl (And.intro rfl trivial))) H
set_option maxRecDepth 20000 in
theorem t_Wo_isNew_13 {l : Launch} {h : Nat} (mi : TMi) (ml : TMl) (z : Nat) (v3 : Int32) (v4 : Int32) {Q : Int32 → TMi → TMl → Nat → Prop} (H : ((v3 ≤ v4 → Q 1 mi ml z) ∧ (¬ v3 ≤ v4 → (vp_in v4 60) ∧ (vp_in v3 60) ∧ ((¬ (mi 71 v4.toNatClampNeg) = (mi 71 v3.toNatClampNeg) → Ev l (h + 1) m_Wo_isNew 13 ([.ref 68, .retAddr 0, .retAddr 0, .int v3, .int (v4 + 1)], [], st mi ml z) (qI Q)) ∧ ((mi 71 v4.toNatClampNeg) = (mi 71 v3.toNatClampNeg) → (vp_in v3 60) ∧ (((mi 71 v3.toNatClampNeg) = (-1) → Q 0 mi ml z) ∧ (¬ (mi 71 v3.toNatClampNeg) = (-1) → (vp_in v4 60) ∧ (vp_in v3 60) ∧ ((¬ (mi 70 v4.toNatClampNeg) = (mi 70 v3.toNatClampNeg) → Ev l (h + 1) m_Wo_isNew 13 ([.ref 68, .retAddr 0, .retAddr 0, .int v3, .int (v4 + 1)], [], st mi ml z) (qI Q)) ∧ ((mi 70 v4.toNatClampNeg) = (mi 70 v3.toNatClampNeg) → Q 0 mi ml z))))))))) : Ev l (h + 1) m_Wo_isNew 13 ([.ref 68, .retAddr 0, .retAddr 0, .int v3, .int v4], [], st mi ml z) (qI Q) := by
  refine ev_iload rfl (a_dec_at dc_Wo_isNew 8 rfl) ?_
  refine ev_iload_n (i := 3) rfl rfl (a_dec_at dc_Wo_isNew 9 rfl) ?_
  refine ev_icmp_ge (tgt := 69) (a_dec_at dc_Wo_isNew 10 rfl) (by decide) (fun b1 => ?_) (fun b1 => ?_)
  · have H := H.1 b1
    refine ev_iconst (v := 1) rfl (a_dec_at dc_Wo_isNew 39 rfl) ?_
    exact m_retI (a_dec_at dc_Wo_isNew 40 rfl) rfl rfl H
  · have H := H.2 b1
    refine ev_aload_n (i := 0) rfl rfl (a_dec_at dc_Wo_isNew 11 rfl) ?_
    refine m_getR (y := 71) fl_Wo_18 rfl sh68 (mr_68_6 _) (by decide) (a_dec_at dc_Wo_isNew 12 rfl) ?_
    refine ev_iload rfl (a_dec_at dc_Wo_isNew 13 rfl) ?_
    obtain ⟨c2, H⟩ := H
    refine w_iald (k := v4.toNatClampNeg) sh71 c2 rfl (a_dec_at dc_Wo_isNew 14 rfl) ?_
    refine ev_aload_n (i := 0) rfl rfl (a_dec_at dc_Wo_isNew 15 rfl) ?_
    refine m_getR (y := 71) fl_Wo_18 rfl sh68 (mr_68_6 _) (by decide) (a_dec_at dc_Wo_isNew 16 rfl) ?_
    refine ev_iload_n (i := 3) rfl rfl (a_dec_at dc_Wo_isNew 17 rfl) ?_
    obtain ⟨c3, H⟩ := H
    refine w_iald (k := v3.toNatClampNeg) sh71 c3 rfl (a_dec_at dc_Wo_isNew 18 rfl) ?_
    refine ev_icmp_ne (tgt := 63) (a_dec_at dc_Wo_isNew 19 rfl) (by decide) (fun b4 => ?_) (fun b4 => ?_)
    · have H := H.1 b4
      refine ev_iinc (v := 1) rfl rfl (by decide) rfl (a_dec_at dc_Wo_isNew 37 rfl) ?_
      refine ev_goto (tgt := 13) (a_dec_at dc_Wo_isNew 38 rfl) (by decide) ?_
      exact Ev.drop (L' := [.ref 68, .retAddr 0, .retAddr 0, .int v3, .int (v4 + 1)]) (And.intro rfl (And.intro rfl (And.intro rfl trivial))) H
    · have H := H.2 b4
      refine ev_aload_n (i := 0) rfl rfl (a_dec_at dc_Wo_isNew 20 rfl) ?_
      refine m_getR (y := 71) fl_Wo_18 rfl sh68 (mr_68_6 _) (by decide) (a_dec_at dc_Wo_isNew 21 rfl) ?_
      refine ev_iload_n (i := 3) rfl rfl (a_dec_at dc_Wo_isNew 22 rfl) ?_
      obtain ⟨c5, H⟩ := H
      refine w_iald (k := v3.toNatClampNeg) sh71 c5 rfl (a_dec_at dc_Wo_isNew 23 rfl) ?_
      refine ev_iconst (v := (-1)) rfl (a_dec_at dc_Wo_isNew 24 rfl) ?_
      refine ev_icmp_eq (tgt := 61) (a_dec_at dc_Wo_isNew 25 rfl) (by decide) (fun b6 => ?_) (fun b6 => ?_)
      · have H := H.1 b6
        refine ev_iconst (v := 0) rfl (a_dec_at dc_Wo_isNew 35 rfl) ?_
        exact m_retI (a_dec_at dc_Wo_isNew 36 rfl) rfl rfl H
      · have H := H.2 b6
        refine ev_aload_n (i := 0) rfl rfl (a_dec_at dc_Wo_isNew 26 rfl) ?_
        refine m_getR (y := 70) fl_Wo_15 rfl sh68 (mr_68_5 _) (by decide) (a_dec_at dc_Wo_isNew 27 rfl) ?_
        refine ev_iload rfl (a_dec_at dc_Wo_isNew 28 rfl) ?_
        obtain ⟨c7, H⟩ := H
        refine w_iald (k := v4.toNatClampNeg) sh70 c7 rfl (a_dec_at dc_Wo_isNew 29 rfl) ?_
        refine ev_aload_n (i := 0) rfl rfl (a_dec_at dc_Wo_isNew 30 rfl) ?_
        refine m_getR (y := 70) fl_Wo_15 rfl sh68 (mr_68_5 _) (by decide) (a_dec_at dc_Wo_isNew 31 rfl) ?_
        refine ev_iload_n (i := 3) rfl rfl (a_dec_at dc_Wo_isNew 32 rfl) ?_
        obtain ⟨c8, H⟩ := H
        refine w_iald (k := v3.toNatClampNeg) sh70 c8 rfl (a_dec_at dc_Wo_isNew 33 rfl) ?_
        refine ev_icmp_ne (tgt := 63) (a_dec_at dc_Wo_isNew 34 rfl) (by decide) (fun b9 => ?_) (fun b9 => ?_)
        · have H := H.1 b9
          refine ev_iinc (v := 1) rfl rfl (by decide) rfl (a_dec_at dc_Wo_isNew 37 rfl) ?_
          refine ev_goto (tgt := 13) (a_dec_at dc_Wo_isNew 38 rfl) (by decide) ?_
          exact Ev.drop (L' := [.ref 68, .retAddr 0, .retAddr 0, .int v3, .int (v4 + 1)]) (And.intro rfl (And.intro rfl (And.intro rfl trivial))) H
        · have H := H.2 b9
          refine ev_iconst (v := 0) rfl (a_dec_at dc_Wo_isNew 35 rfl) ?_
          exact m_retI (a_dec_at dc_Wo_isNew 36 rfl) rfl rfl H
set_option maxRecDepth 20000 in
theorem t_Wo_canBeEnough {l : Launch} {h : Nat} (mi : TMi) (ml : TMl) (z : Nat) {Q : Int32 → TMi → TMl → Nat → Prop} (H : Ev l (h + 1) m_Wo_canBeEnough 2 ([.ref 68, .int 0, .retAddr 0], [], st mi ml z) (qI Q)) : CI l (h + 1) m_Wo_canBeEnough [.ref 68] mi ml z Q := by
  show Ev l (h + 1) m_Wo_canBeEnough 0 ([.ref 68, .retAddr 0, .retAddr 0], [], st mi ml z) (qI Q)
  refine ev_iconst (v := 0) rfl (a_dec_at dc_Wo_canBeEnough 0 rfl) ?_
  refine ev_istore_n (i := 1) rfl (by decide) rfl (a_dec_at dc_Wo_canBeEnough 1 rfl) ?_
  exact Ev.drop (L' := [.ref 68, .int 0, .retAddr 0]) (And.intro rfl (And.intro rfl trivial)) H
set_option maxRecDepth 20000 in
theorem t_Wo_canBeEnough_2 {l : Launch} {h : Nat} (mi : TMi) (ml : TMl) (z : Nat) (v1 : Int32) {Q : Int32 → TMi → TMl → Nat → Prop} (H : CI l h m_La_allBecks [.ref 18] mi ml z (fun x1 mi1 ml1 z1 => ((x1 < v1 → Q 0 mi1 ml1 z1) ∧ (¬ x1 < v1 → ((¬ (v1 &&& ((mi1 68 9) ^^^ (-1))) = 0 → Ev l (h + 1) m_Wo_canBeEnough 2 ([.ref 68, .int (v1 + 1), .retAddr 0], [], st mi1 ml1 z1) (qI Q)) ∧ ((v1 &&& ((mi1 68 9) ^^^ (-1))) = 0 → CI l h m_JI_bitCount [.int v1] mi1 ml1 z1 (fun x4 mi4 ml4 z4 => CI l h m_Sc_roomOf [.ref 33, .int (mi4 68 2)] mi4 ml4 z4 (fun x5 mi5 ml5 z5 => ((x5 < x4 → Ev l (h + 1) m_Wo_canBeEnough 2 ([.ref 68, .int (v1 + 1), .retAddr 0], [], st mi5 ml5 z5) (qI Q)) ∧ (¬ x5 < x4 → CI l h m_Sc_flowOfSet [.ref 33, .int v1] mi5 ml5 z5 (fun x7 mi7 ml7 z7 => ((x7 < (mi7 68 3) → Ev l (h + 1) m_Wo_canBeEnough 2 ([.ref 68, .int (v1 + 1), .retAddr 0], [], st mi7 ml7 z7) (qI Q)) ∧ (¬ x7 < (mi7 68 3) → Q 1 mi7 ml7 z7))))))))))))) : Ev l (h + 1) m_Wo_canBeEnough 2 ([.ref 68, .int v1, .retAddr 0], [], st mi ml z) (qI Q) := by
  refine ev_iload_n (i := 1) rfl rfl (a_dec_at dc_Wo_canBeEnough 2 rfl) ?_
  refine ev_aload_n (i := 0) rfl rfl (a_dec_at dc_Wo_canBeEnough 3 rfl) ?_
  refine m_getR (y := 33) fl_Wo_30 rfl sh68 (mr_68_0 _) (by decide) (a_dec_at dc_Wo_canBeEnough 4 rfl) ?_
  refine m_getR (y := 18) fl_Wo_54 rfl sh33 (mr_33_0 _) (by decide) (a_dec_at dc_Wo_canBeEnough 5 rfl) ?_
  refine cV0I cs_Wo_109 sh18 rfl (Nat.le_of_ble_eq_true rfl) (Nat.le_of_ble_eq_true rfl) (a_dec_at dc_Wo_canBeEnough 6 rfl) ?_
  refine CI.mono (fun x1 mi1 ml1 z1 H => ?_) H
  refine ev_icmp_gt (tgt := 78) (a_dec_at dc_Wo_canBeEnough 7 rfl) (by decide) (fun b2 => ?_) (fun b2 => ?_)
  · have H := H.1 b2
    refine ev_iconst (v := 0) rfl (a_dec_at dc_Wo_canBeEnough 40 rfl) ?_
    exact m_retI (a_dec_at dc_Wo_canBeEnough 41 rfl) rfl rfl H
  · have H := H.2 b2
    refine ev_iload_n (i := 1) rfl rfl (a_dec_at dc_Wo_canBeEnough 8 rfl) ?_
    refine ev_aload_n (i := 0) rfl rfl (a_dec_at dc_Wo_canBeEnough 9 rfl) ?_
    refine m_getI fl_Wo_51 rfl sh68 (a_dec_at dc_Wo_canBeEnough 10 rfl) ?_
    refine ev_iconst (v := (-1)) rfl (a_dec_at dc_Wo_canBeEnough 11 rfl) ?_
    refine ev_ixor (a_dec_at dc_Wo_canBeEnough 12 rfl) ?_
    refine ev_iand (a_dec_at dc_Wo_canBeEnough 13 rfl) ?_
    refine ev_if_ne (tgt := 49) (a_dec_at dc_Wo_canBeEnough 14 rfl) (by decide) (fun b3 => ?_) (fun b3 => ?_)
    · have H := H.1 b3
      refine ev_iconst (v := 0) rfl (a_dec_at dc_Wo_canBeEnough 25 rfl) ?_
      refine ev_istore_n (i := 2) rfl (by decide) rfl (a_dec_at dc_Wo_canBeEnough 26 rfl) ?_
      refine ev_iload_n (i := 2) rfl rfl (a_dec_at dc_Wo_canBeEnough 27 rfl) ?_
      refine ev_if_eq (tgt := 72) (a_dec_at dc_Wo_canBeEnough 28 rfl) (by decide) (fun _ => ?_) (fun q => absurd (by decide) q)
      refine ev_iinc (v := 1) rfl rfl (by decide) rfl (a_dec_at dc_Wo_canBeEnough 38 rfl) ?_
      refine ev_goto (tgt := 2) (a_dec_at dc_Wo_canBeEnough 39 rfl) (by decide) ?_
      exact Ev.drop (L' := [.ref 68, .int (v1 + 1), .retAddr 0]) (And.intro rfl (And.intro rfl trivial)) H
    · have H := H.2 b3
      refine ev_iload_n (i := 1) rfl rfl (a_dec_at dc_Wo_canBeEnough 15 rfl) ?_
      refine cS1I cs_Wo_113 rfl (Nat.le_of_ble_eq_true rfl) (Nat.le_of_ble_eq_true rfl) (a_dec_at dc_Wo_canBeEnough 16 rfl) ?_
      refine CI.mono (fun x4 mi4 ml4 z4 H => ?_) H
      refine ev_aload_n (i := 0) rfl rfl (a_dec_at dc_Wo_canBeEnough 17 rfl) ?_
      refine m_getR (y := 33) fl_Wo_30 rfl sh68 (mr_68_0 _) (by decide) (a_dec_at dc_Wo_canBeEnough 18 rfl) ?_
      refine ev_aload_n (i := 0) rfl rfl (a_dec_at dc_Wo_canBeEnough 19 rfl) ?_
      refine m_getI fl_Wo_38 rfl sh68 (a_dec_at dc_Wo_canBeEnough 20 rfl) ?_
      refine cV1I cs_Wo_116 sh33 rfl (Nat.le_of_ble_eq_true rfl) (Nat.le_of_ble_eq_true rfl) (a_dec_at dc_Wo_canBeEnough 21 rfl) ?_
      refine CI.mono (fun x5 mi5 ml5 z5 H => ?_) H
      refine ev_icmp_gt (tgt := 49) (a_dec_at dc_Wo_canBeEnough 22 rfl) (by decide) (fun b6 => ?_) (fun b6 => ?_)
      · have H := H.1 b6
        refine ev_iconst (v := 0) rfl (a_dec_at dc_Wo_canBeEnough 25 rfl) ?_
        refine ev_istore_n (i := 2) rfl (by decide) rfl (a_dec_at dc_Wo_canBeEnough 26 rfl) ?_
        refine ev_iload_n (i := 2) rfl rfl (a_dec_at dc_Wo_canBeEnough 27 rfl) ?_
        refine ev_if_eq (tgt := 72) (a_dec_at dc_Wo_canBeEnough 28 rfl) (by decide) (fun _ => ?_) (fun q => absurd (by decide) q)
        refine ev_iinc (v := 1) rfl rfl (by decide) rfl (a_dec_at dc_Wo_canBeEnough 38 rfl) ?_
        refine ev_goto (tgt := 2) (a_dec_at dc_Wo_canBeEnough 39 rfl) (by decide) ?_
        exact Ev.drop (L' := [.ref 68, .int (v1 + 1), .retAddr 0]) (And.intro rfl (And.intro rfl trivial)) H
      · have H := H.2 b6
        refine ev_iconst (v := 1) rfl (a_dec_at dc_Wo_canBeEnough 23 rfl) ?_
        refine ev_goto (tgt := 50) (a_dec_at dc_Wo_canBeEnough 24 rfl) (by decide) ?_
        refine ev_istore_n (i := 2) rfl (by decide) rfl (a_dec_at dc_Wo_canBeEnough 26 rfl) ?_
        refine ev_iload_n (i := 2) rfl rfl (a_dec_at dc_Wo_canBeEnough 27 rfl) ?_
        refine ev_if_eq (tgt := 72) (a_dec_at dc_Wo_canBeEnough 28 rfl) (by decide) (fun q => absurd q (by decide)) (fun _ => ?_)
        refine ev_aload_n (i := 0) rfl rfl (a_dec_at dc_Wo_canBeEnough 29 rfl) ?_
        refine m_getR (y := 33) fl_Wo_30 rfl sh68 (mr_68_0 _) (by decide) (a_dec_at dc_Wo_canBeEnough 30 rfl) ?_
        refine ev_iload_n (i := 1) rfl rfl (a_dec_at dc_Wo_canBeEnough 31 rfl) ?_
        refine cV1I cs_Wo_119 sh33 rfl (Nat.le_of_ble_eq_true rfl) (Nat.le_of_ble_eq_true rfl) (a_dec_at dc_Wo_canBeEnough 32 rfl) ?_
        refine CI.mono (fun x7 mi7 ml7 z7 H => ?_) H
        refine ev_aload_n (i := 0) rfl rfl (a_dec_at dc_Wo_canBeEnough 33 rfl) ?_
        refine m_getI fl_Wo_42 rfl sh68 (a_dec_at dc_Wo_canBeEnough 34 rfl) ?_
        refine ev_icmp_lt (tgt := 72) (a_dec_at dc_Wo_canBeEnough 35 rfl) (by decide) (fun b8 => ?_) (fun b8 => ?_)
        · have H := H.1 b8
          refine ev_iinc (v := 1) rfl rfl (by decide) rfl (a_dec_at dc_Wo_canBeEnough 38 rfl) ?_
          refine ev_goto (tgt := 2) (a_dec_at dc_Wo_canBeEnough 39 rfl) (by decide) ?_
          exact Ev.drop (L' := [.ref 68, .int (v1 + 1), .retAddr 0]) (And.intro rfl (And.intro rfl trivial)) H
        · have H := H.2 b8
          refine ev_iconst (v := 1) rfl (a_dec_at dc_Wo_canBeEnough 36 rfl) ?_
          exact m_retI (a_dec_at dc_Wo_canBeEnough 37 rfl) rfl rfl H
set_option maxRecDepth 20000 in
theorem t_Wo_givesFrom {l : Launch} {h : Nat} (mi : TMi) (ml : TMl) (z : Nat) (a1 : Int32) (a2 : Int32) {Q : Int32 → TMi → TMl → Nat → Prop} (H : ((a1 < (mi 18 0) → (vp_in a1 7) ∧ ((a2 ≤ (mi 73 a1.toNatClampNeg) → (vp_in (a1 + 1) 7) ∧ Ev l (h + 1) m_Wo_givesFrom 61 ([.ref 68, .int a1, .int a2, .retAddr 0, .int (if 0 < (a2 - (mi 73 ((a1 + 1).toNatClampNeg))) then a2 - (mi 73 ((a1 + 1).toNatClampNeg)) else 0)], [], st mi ml z) (qI Q)) ∧ (¬ a2 ≤ (mi 73 a1.toNatClampNeg) → Q 0 mi ml z))) ∧ (¬ a1 < (mi 18 0) → ((¬ a2 = 0 → Q 0 mi ml z) ∧ (a2 = 0 → CI l h m_Wo_hasEnough [.ref 68] mi ml z (fun x6 mi6 ml6 z6 => ((x6 = 0 → Q 0 mi6 ml6 z6) ∧ (¬ x6 = 0 → Q 1 mi6 ml6 z6)))))))) : CI l (h + 1) m_Wo_givesFrom [.ref 68, .int a1, .int a2] mi ml z Q := by
  show Ev l (h + 1) m_Wo_givesFrom 0 ([.ref 68, .int a1, .int a2, .retAddr 0, .retAddr 0], [], st mi ml z) (qI Q)
  refine ev_iload_n (i := 1) rfl rfl (a_dec_at dc_Wo_givesFrom 0 rfl) ?_
  refine ev_aload_n (i := 0) rfl rfl (a_dec_at dc_Wo_givesFrom 1 rfl) ?_
  refine m_getR (y := 33) fl_Wo_30 rfl sh68 (mr_68_0 _) (by decide) (a_dec_at dc_Wo_givesFrom 2 rfl) ?_
  refine m_getR (y := 18) fl_Wo_54 rfl sh33 (mr_33_0 _) (by decide) (a_dec_at dc_Wo_givesFrom 3 rfl) ?_
  refine m_getI fl_Wo_58 rfl sh18 (a_dec_at dc_Wo_givesFrom 4 rfl) ?_
  refine ev_icmp_lt (tgt := 31) (a_dec_at dc_Wo_givesFrom 5 rfl) (by decide) (fun b1 => ?_) (fun b1 => ?_)
  · have H := H.1 b1
    refine ev_iload_n (i := 2) rfl rfl (a_dec_at dc_Wo_givesFrom 15 rfl) ?_
    refine ev_aload_n (i := 0) rfl rfl (a_dec_at dc_Wo_givesFrom 16 rfl) ?_
    refine m_getR (y := 73) fl_Wo_24 rfl sh68 (mr_68_8 _) (by decide) (a_dec_at dc_Wo_givesFrom 17 rfl) ?_
    refine ev_iload_n (i := 1) rfl rfl (a_dec_at dc_Wo_givesFrom 18 rfl) ?_
    obtain ⟨c2, H⟩ := H
    refine w_iald (k := a1.toNatClampNeg) sh73 c2 rfl (a_dec_at dc_Wo_givesFrom 19 rfl) ?_
    refine ev_icmp_le (tgt := 43) (a_dec_at dc_Wo_givesFrom 20 rfl) (by decide) (fun b3 => ?_) (fun b3 => ?_)
    · have H := H.1 b3
      refine ev_iconst (v := 0) rfl (a_dec_at dc_Wo_givesFrom 23 rfl) ?_
      refine ev_iload_n (i := 2) rfl rfl (a_dec_at dc_Wo_givesFrom 24 rfl) ?_
      refine ev_aload_n (i := 0) rfl rfl (a_dec_at dc_Wo_givesFrom 25 rfl) ?_
      refine m_getR (y := 73) fl_Wo_24 rfl sh68 (mr_68_8 _) (by decide) (a_dec_at dc_Wo_givesFrom 26 rfl) ?_
      refine ev_iload_n (i := 1) rfl rfl (a_dec_at dc_Wo_givesFrom 27 rfl) ?_
      refine ev_iconst (v := 1) rfl (a_dec_at dc_Wo_givesFrom 28 rfl) ?_
      refine ev_iadd (a_dec_at dc_Wo_givesFrom 29 rfl) ?_
      obtain ⟨c4, H⟩ := H
      refine w_iald (k := (a1 + 1).toNatClampNeg) sh73 c4 rfl (a_dec_at dc_Wo_givesFrom 30 rfl) ?_
      refine ev_isub (a_dec_at dc_Wo_givesFrom 31 rfl) ?_
      refine w_mmax cs_Wo_125 (Nat.le_of_ble_eq_true rfl) (a_dec_at dc_Wo_givesFrom 32 rfl) ?_
      refine ev_istore_n (i := 3) rfl (by decide) rfl (a_dec_at dc_Wo_givesFrom 33 rfl) ?_
      refine ev_iload_n (i := 3) rfl rfl (a_dec_at dc_Wo_givesFrom 34 rfl) ?_
      refine ev_istore (by decide) rfl (a_dec_at dc_Wo_givesFrom 35 rfl) ?_
      exact Ev.drop (L' := [.ref 68, .int a1, .int a2, .retAddr 0, .int (if 0 < (a2 - (mi 73 ((a1 + 1).toNatClampNeg))) then a2 - (mi 73 ((a1 + 1).toNatClampNeg)) else 0)]) (And.intro rfl (And.intro rfl (And.intro rfl (And.intro rfl trivial)))) H
    · have H := H.2 b3
      refine ev_iconst (v := 0) rfl (a_dec_at dc_Wo_givesFrom 21 rfl) ?_
      exact m_retI (a_dec_at dc_Wo_givesFrom 22 rfl) rfl rfl H
  · have H := H.2 b1
    refine ev_iload_n (i := 2) rfl rfl (a_dec_at dc_Wo_givesFrom 6 rfl) ?_
    refine ev_if_ne (tgt := 29) (a_dec_at dc_Wo_givesFrom 7 rfl) (by decide) (fun b5 => ?_) (fun b5 => ?_)
    · have H := H.1 b5
      refine ev_iconst (v := 0) rfl (a_dec_at dc_Wo_givesFrom 13 rfl) ?_
      exact m_retI (a_dec_at dc_Wo_givesFrom 14 rfl) rfl rfl H
    · have H := H.2 b5
      refine ev_aload_n (i := 0) rfl rfl (a_dec_at dc_Wo_givesFrom 8 rfl) ?_
      refine cV0I cs_Wo_122 sh68 rfl (Nat.le_of_ble_eq_true rfl) (Nat.le_of_ble_eq_true rfl) (a_dec_at dc_Wo_givesFrom 9 rfl) ?_
      refine CI.mono (fun x6 mi6 ml6 z6 H => ?_) H
      refine ev_if_eq (tgt := 29) (a_dec_at dc_Wo_givesFrom 10 rfl) (by decide) (fun b7 => ?_) (fun b7 => ?_)
      · have H := H.1 b7
        refine ev_iconst (v := 0) rfl (a_dec_at dc_Wo_givesFrom 13 rfl) ?_
        exact m_retI (a_dec_at dc_Wo_givesFrom 14 rfl) rfl rfl H
      · have H := H.2 b7
        refine ev_iconst (v := 1) rfl (a_dec_at dc_Wo_givesFrom 11 rfl) ?_
        refine ev_goto (tgt := 30) (a_dec_at dc_Wo_givesFrom 12 rfl) (by decide) ?_
        exact m_retI (a_dec_at dc_Wo_givesFrom 14 rfl) rfl rfl H
set_option maxRecDepth 20000 in
theorem t_Wo_givesFrom_61 {l : Launch} {h : Nat} (mi : TMi) (ml : TMl) (z : Nat) (v1 : Int32) (v2 : Int32) (v4 : Int32) {Q : Int32 → TMi → TMl → Nat → Prop} (H : ((v2 < v4 → Q 0 mi ml z) ∧ (¬ v2 < v4 → ((10 ≤ v4 → Q 0 mi ml z) ∧ (¬ 10 ≤ v4 → (vp_in v1 6) ∧ (((((mi 72 v1.toNatClampNeg) >>> (v4 &&& 31)) &&& 1) = 0 → Ev l (h + 1) m_Wo_givesFrom 61 ([.ref 68, .int v1, .int v2, .retAddr 0, .int (v4 + 1)], [], st mi ml z) (qI Q)) ∧ (¬ (((mi 72 v1.toNatClampNeg) >>> (v4 &&& 31)) &&& 1) = 0 → (vp_in v1 6) ∧ CI l h m_Wo_level [.int v1, .int v4] (up mi 74 v1.toNatClampNeg v4) ml z (fun x6 mi6 ml6 z6 => (vp_in x6 60) ∧ CI l h m_Wo_level [.int v1, .int v4] mi6 ml6 z6 (fun x8 mi8 ml8 z8 => (vp_in x8 60) ∧ CV l h m_Sc_setLiking [.ref 33, .int v1, .int ((up mi 74 v1.toNatClampNeg v4) 68 2), .int (mi6 69 x6.toNatClampNeg), .int (mi8 70 x8.toNatClampNeg)] mi8 ml8 z8 (fun mi10 ml10 z10 => CI l h m_Wo_givesFrom [.ref 68, .int (v1 + 1), .int (v2 - v4)] mi10 ml10 z10 (fun x11 mi11 ml11 z11 => ((x11 = 0 → Ev l (h + 1) m_Wo_givesFrom 61 ([.ref 68, .int v1, .int v2, .retAddr 0, .int (v4 + 1)], [], st mi11 ml11 z11) (qI Q)) ∧ (¬ x11 = 0 → Q 1 mi11 ml11 z11))))))))))))) : Ev l (h + 1) m_Wo_givesFrom 61 ([.ref 68, .int v1, .int v2, .retAddr 0, .int v4], [], st mi ml z) (qI Q) := by
  refine ev_iload rfl (a_dec_at dc_Wo_givesFrom 36 rfl) ?_
  refine ev_iload_n (i := 2) rfl rfl (a_dec_at dc_Wo_givesFrom 37 rfl) ?_
  refine ev_icmp_gt (tgt := 152) (a_dec_at dc_Wo_givesFrom 38 rfl) (by decide) (fun b1 => ?_) (fun b1 => ?_)
  · have H := H.1 b1
    refine ev_iconst (v := 0) rfl (a_dec_at dc_Wo_givesFrom 87 rfl) ?_
    exact m_retI (a_dec_at dc_Wo_givesFrom 88 rfl) rfl rfl H
  · have H := H.2 b1
    refine ev_iload rfl (a_dec_at dc_Wo_givesFrom 39 rfl) ?_
    refine ev_bipush (v := 10) rfl (a_dec_at dc_Wo_givesFrom 40 rfl) ?_
    refine ev_icmp_ge (tgt := 152) (a_dec_at dc_Wo_givesFrom 41 rfl) (by decide) (fun b2 => ?_) (fun b2 => ?_)
    · have H := H.1 b2
      refine ev_iconst (v := 0) rfl (a_dec_at dc_Wo_givesFrom 87 rfl) ?_
      exact m_retI (a_dec_at dc_Wo_givesFrom 88 rfl) rfl rfl H
    · have H := H.2 b2
      refine ev_aload_n (i := 0) rfl rfl (a_dec_at dc_Wo_givesFrom 42 rfl) ?_
      refine m_getR (y := 72) fl_Wo_21 rfl sh68 (mr_68_7 _) (by decide) (a_dec_at dc_Wo_givesFrom 43 rfl) ?_
      refine ev_iload_n (i := 1) rfl rfl (a_dec_at dc_Wo_givesFrom 44 rfl) ?_
      obtain ⟨c3, H⟩ := H
      refine w_iald (k := v1.toNatClampNeg) sh72 c3 rfl (a_dec_at dc_Wo_givesFrom 45 rfl) ?_
      refine ev_iload rfl (a_dec_at dc_Wo_givesFrom 46 rfl) ?_
      refine ev_ishr (a_dec_at dc_Wo_givesFrom 47 rfl) ?_
      refine ev_iconst (v := 1) rfl (a_dec_at dc_Wo_givesFrom 48 rfl) ?_
      refine ev_iand (a_dec_at dc_Wo_givesFrom 49 rfl) ?_
      refine ev_if_eq (tgt := 146) (a_dec_at dc_Wo_givesFrom 50 rfl) (by decide) (fun b4 => ?_) (fun b4 => ?_)
      · have H := H.1 b4
        refine ev_iinc (v := 1) rfl rfl (by decide) rfl (a_dec_at dc_Wo_givesFrom 85 rfl) ?_
        refine ev_goto (tgt := 61) (a_dec_at dc_Wo_givesFrom 86 rfl) (by decide) ?_
        exact Ev.drop (L' := [.ref 68, .int v1, .int v2, .retAddr 0, .int (v4 + 1)]) (And.intro rfl (And.intro rfl (And.intro rfl (And.intro rfl trivial)))) H
      · have H := H.2 b4
        refine ev_aload_n (i := 0) rfl rfl (a_dec_at dc_Wo_givesFrom 51 rfl) ?_
        refine m_getR (y := 74) fl_Wo_27 rfl sh68 (mr_68_10 _) (by decide) (a_dec_at dc_Wo_givesFrom 52 rfl) ?_
        refine ev_iload_n (i := 1) rfl rfl (a_dec_at dc_Wo_givesFrom 53 rfl) ?_
        refine ev_iload rfl (a_dec_at dc_Wo_givesFrom 54 rfl) ?_
        obtain ⟨c5, H⟩ := H
        refine w_iast (k := v1.toNatClampNeg) sh74 c5 rfl (a_dec_at dc_Wo_givesFrom 55 rfl) ?_
        refine ev_aload_n (i := 0) rfl rfl (a_dec_at dc_Wo_givesFrom 56 rfl) ?_
        refine m_getR (y := 33) fl_Wo_30 rfl sh68 (mr_68_0 _) (by decide) (a_dec_at dc_Wo_givesFrom 57 rfl) ?_
        refine ev_iload_n (i := 1) rfl rfl (a_dec_at dc_Wo_givesFrom 58 rfl) ?_
        refine ev_aload_n (i := 0) rfl rfl (a_dec_at dc_Wo_givesFrom 59 rfl) ?_
        refine m_getI fl_Wo_38 rfl sh68 (a_dec_at dc_Wo_givesFrom 60 rfl) ?_
        refine ev_aload_n (i := 0) rfl rfl (a_dec_at dc_Wo_givesFrom 61 rfl) ?_
        refine m_getR (y := 69) fl_Wo_9 rfl sh68 (mr_68_4 _) (by decide) (a_dec_at dc_Wo_givesFrom 62 rfl) ?_
        refine ev_iload_n (i := 1) rfl rfl (a_dec_at dc_Wo_givesFrom 63 rfl) ?_
        refine ev_iload rfl (a_dec_at dc_Wo_givesFrom 64 rfl) ?_
        refine cS2I cs_Wo_92 rfl (Nat.le_of_ble_eq_true rfl) (Nat.le_of_ble_eq_true rfl) (a_dec_at dc_Wo_givesFrom 65 rfl) ?_
        refine CI.mono (fun x6 mi6 ml6 z6 H => ?_) H
        obtain ⟨c7, H⟩ := H
        refine w_iald (k := x6.toNatClampNeg) sh69 c7 rfl (a_dec_at dc_Wo_givesFrom 66 rfl) ?_
        refine ev_aload_n (i := 0) rfl rfl (a_dec_at dc_Wo_givesFrom 67 rfl) ?_
        refine m_getR (y := 70) fl_Wo_15 rfl sh68 (mr_68_5 _) (by decide) (a_dec_at dc_Wo_givesFrom 68 rfl) ?_
        refine ev_iload_n (i := 1) rfl rfl (a_dec_at dc_Wo_givesFrom 69 rfl) ?_
        refine ev_iload rfl (a_dec_at dc_Wo_givesFrom 70 rfl) ?_
        refine cS2I cs_Wo_92 rfl (Nat.le_of_ble_eq_true rfl) (Nat.le_of_ble_eq_true rfl) (a_dec_at dc_Wo_givesFrom 71 rfl) ?_
        refine CI.mono (fun x8 mi8 ml8 z8 H => ?_) H
        obtain ⟨c9, H⟩ := H
        refine w_iald (k := x8.toNatClampNeg) sh70 c9 rfl (a_dec_at dc_Wo_givesFrom 72 rfl) ?_
        refine cV4V cs_Wo_130 sh33 rfl (Nat.le_of_ble_eq_true rfl) (Nat.le_of_ble_eq_true rfl) (a_dec_at dc_Wo_givesFrom 73 rfl) ?_
        refine CV.mono (fun mi10 ml10 z10 H => ?_) H
        refine ev_aload_n (i := 0) rfl rfl (a_dec_at dc_Wo_givesFrom 74 rfl) ?_
        refine ev_iload_n (i := 1) rfl rfl (a_dec_at dc_Wo_givesFrom 75 rfl) ?_
        refine ev_iconst (v := 1) rfl (a_dec_at dc_Wo_givesFrom 76 rfl) ?_
        refine ev_iadd (a_dec_at dc_Wo_givesFrom 77 rfl) ?_
        refine ev_iload_n (i := 2) rfl rfl (a_dec_at dc_Wo_givesFrom 78 rfl) ?_
        refine ev_iload rfl (a_dec_at dc_Wo_givesFrom 79 rfl) ?_
        refine ev_isub (a_dec_at dc_Wo_givesFrom 80 rfl) ?_
        refine cV2I cs_Wo_77 sh68 rfl (Nat.le_of_ble_eq_true rfl) (Nat.le_of_ble_eq_true rfl) (a_dec_at dc_Wo_givesFrom 81 rfl) ?_
        refine CI.mono (fun x11 mi11 ml11 z11 H => ?_) H
        refine ev_if_eq (tgt := 146) (a_dec_at dc_Wo_givesFrom 82 rfl) (by decide) (fun b12 => ?_) (fun b12 => ?_)
        · have H := H.1 b12
          refine ev_iinc (v := 1) rfl rfl (by decide) rfl (a_dec_at dc_Wo_givesFrom 85 rfl) ?_
          refine ev_goto (tgt := 61) (a_dec_at dc_Wo_givesFrom 86 rfl) (by decide) ?_
          exact Ev.drop (L' := [.ref 68, .int v1, .int v2, .retAddr 0, .int (v4 + 1)]) (And.intro rfl (And.intro rfl (And.intro rfl (And.intro rfl trivial)))) H
        · have H := H.2 b12
          refine ev_iconst (v := 1) rfl (a_dec_at dc_Wo_givesFrom 83 rfl) ?_
          exact m_retI (a_dec_at dc_Wo_givesFrom 84 rfl) rfl rfl H
set_option maxRecDepth 20000 in
theorem t_Wo_hasEnough {l : Launch} {h : Nat} (mi : TMi) (ml : TMl) (z : Nat) {Q : Int32 → TMi → TMl → Nat → Prop} (H : CI l h m_La_allBecks [.ref 18] mi ml z (fun x1 mi1 ml1 z1 => CV l h m_Ma_bestForBecks [.ref 55, .ref 33, .int x1] mi1 ml1 z1 (fun mi2 ml2 z2 => CI l h m_Sc_becksIn [.ref 33, .ref 56, .int (mi2 68 2)] mi2 ml2 z2 (fun x3 mi3 ml3 z3 => CI l h m_Sc_flowOfSet [.ref 33, .int x3] mi3 ml3 z3 (fun x4 mi4 ml4 z4 => ((x4 < (mi4 68 3) → Q 0 mi4 ml4 z4) ∧ (¬ x4 < (mi4 68 3) → Q 1 mi4 ml4 z4))))))) : CI l (h + 1) m_Wo_hasEnough [.ref 68] mi ml z Q := by
  show Ev l (h + 1) m_Wo_hasEnough 0 ([.ref 68], [], st mi ml z) (qI Q)
  refine ev_aload_n (i := 0) rfl rfl (a_dec_at dc_Wo_hasEnough 0 rfl) ?_
  refine m_getR (y := 55) fl_Wo_34 rfl sh68 (mr_68_1 _) (by decide) (a_dec_at dc_Wo_hasEnough 1 rfl) ?_
  refine ev_aload_n (i := 0) rfl rfl (a_dec_at dc_Wo_hasEnough 2 rfl) ?_
  refine m_getR (y := 33) fl_Wo_30 rfl sh68 (mr_68_0 _) (by decide) (a_dec_at dc_Wo_hasEnough 3 rfl) ?_
  refine ev_aload_n (i := 0) rfl rfl (a_dec_at dc_Wo_hasEnough 4 rfl) ?_
  refine m_getR (y := 33) fl_Wo_30 rfl sh68 (mr_68_0 _) (by decide) (a_dec_at dc_Wo_hasEnough 5 rfl) ?_
  refine m_getR (y := 18) fl_Wo_54 rfl sh33 (mr_33_0 _) (by decide) (a_dec_at dc_Wo_hasEnough 6 rfl) ?_
  refine cV0I cs_Wo_109 sh18 rfl (Nat.le_of_ble_eq_true rfl) (Nat.le_of_ble_eq_true rfl) (a_dec_at dc_Wo_hasEnough 7 rfl) ?_
  refine CI.mono (fun x1 mi1 ml1 z1 H => ?_) H
  refine cV2V cs_Wo_133 sh55 rfl (Nat.le_of_ble_eq_true rfl) (Nat.le_of_ble_eq_true rfl) (a_dec_at dc_Wo_hasEnough 8 rfl) ?_
  refine CV.mono (fun mi2 ml2 z2 H => ?_) H
  refine ev_aload_n (i := 0) rfl rfl (a_dec_at dc_Wo_hasEnough 9 rfl) ?_
  refine m_getR (y := 33) fl_Wo_30 rfl sh68 (mr_68_0 _) (by decide) (a_dec_at dc_Wo_hasEnough 10 rfl) ?_
  refine ev_aload_n (i := 0) rfl rfl (a_dec_at dc_Wo_hasEnough 11 rfl) ?_
  refine m_getR (y := 33) fl_Wo_30 rfl sh68 (mr_68_0 _) (by decide) (a_dec_at dc_Wo_hasEnough 12 rfl) ?_
  refine ev_aload_n (i := 0) rfl rfl (a_dec_at dc_Wo_hasEnough 13 rfl) ?_
  refine m_getR (y := 55) fl_Wo_34 rfl sh68 (mr_68_1 _) (by decide) (a_dec_at dc_Wo_hasEnough 14 rfl) ?_
  refine m_getR (y := 56) fl_Wo_139 rfl sh55 (mr_55_0 _) (by decide) (a_dec_at dc_Wo_hasEnough 15 rfl) ?_
  refine ev_aload_n (i := 0) rfl rfl (a_dec_at dc_Wo_hasEnough 16 rfl) ?_
  refine m_getI fl_Wo_38 rfl sh68 (a_dec_at dc_Wo_hasEnough 17 rfl) ?_
  refine cV2I cs_Wo_142 sh33 rfl (Nat.le_of_ble_eq_true rfl) (Nat.le_of_ble_eq_true rfl) (a_dec_at dc_Wo_hasEnough 18 rfl) ?_
  refine CI.mono (fun x3 mi3 ml3 z3 H => ?_) H
  refine cV1I cs_Wo_119 sh33 rfl (Nat.le_of_ble_eq_true rfl) (Nat.le_of_ble_eq_true rfl) (a_dec_at dc_Wo_hasEnough 19 rfl) ?_
  refine CI.mono (fun x4 mi4 ml4 z4 H => ?_) H
  refine ev_aload_n (i := 0) rfl rfl (a_dec_at dc_Wo_hasEnough 20 rfl) ?_
  refine m_getI fl_Wo_42 rfl sh68 (a_dec_at dc_Wo_hasEnough 21 rfl) ?_
  refine ev_icmp_lt (tgt := 57) (a_dec_at dc_Wo_hasEnough 22 rfl) (by decide) (fun b5 => ?_) (fun b5 => ?_)
  · have H := H.1 b5
    refine ev_iconst (v := 0) rfl (a_dec_at dc_Wo_hasEnough 25 rfl) ?_
    exact m_retI (a_dec_at dc_Wo_hasEnough 26 rfl) rfl rfl H
  · have H := H.2 b5
    refine ev_iconst (v := 1) rfl (a_dec_at dc_Wo_hasEnough 23 rfl) ?_
    refine ev_goto (tgt := 58) (a_dec_at dc_Wo_hasEnough 24 rfl) (by decide) ?_
    exact m_retI (a_dec_at dc_Wo_hasEnough 26 rfl) rfl rfl H
set_option maxRecDepth 20000 in
theorem t_Su_gainByLying {l : Launch} {h : Nat} (mi : TMi) (ml : TMl) (z : Nat) (a2 : Int32) {Q : Int32 → TMi → TMl → Nat → Prop} (H : CV l h m_Ma_bestForRivers [.ref 55, .ref 17] mi ml z (fun mi1 ml1 z1 => (vp_in a2 6) ∧ Ev l (h + 1) m_Su_gainByLying 24 ([.ref 75, .ref 17, .int a2, .int (mi1 56 a2.toNatClampNeg), .int 0, .int 0, .retAddr 0], [], st mi1 ml1 z1) (qI Q))) : CI l (h + 1) m_Su_gainByLying [.ref 75, .ref 17, .int a2] mi ml z Q := by
  show Ev l (h + 1) m_Su_gainByLying 0 ([.ref 75, .ref 17, .int a2, .retAddr 0, .retAddr 0, .retAddr 0, .retAddr 0], [], st mi ml z) (qI Q)
  refine ev_aload_n (i := 0) rfl rfl (a_dec_at dc_Su_gainByLying 0 rfl) ?_
  refine m_getR (y := 55) fl_Su_22 rfl sh75 (mr_75_1 _) (by decide) (a_dec_at dc_Su_gainByLying 1 rfl) ?_
  refine ev_aload_n (i := 1) rfl rfl (a_dec_at dc_Su_gainByLying 2 rfl) ?_
  refine cV1V cs_Su_26 sh55 rfl (Nat.le_of_ble_eq_true rfl) (Nat.le_of_ble_eq_true rfl) (a_dec_at dc_Su_gainByLying 3 rfl) ?_
  refine CV.mono (fun mi1 ml1 z1 H => ?_) H
  refine ev_aload_n (i := 0) rfl rfl (a_dec_at dc_Su_gainByLying 4 rfl) ?_
  refine m_getR (y := 55) fl_Su_22 rfl sh75 (mr_75_1 _) (by decide) (a_dec_at dc_Su_gainByLying 5 rfl) ?_
  refine m_getR (y := 56) fl_Su_32 rfl sh55 (mr_55_0 _) (by decide) (a_dec_at dc_Su_gainByLying 6 rfl) ?_
  refine ev_iload_n (i := 2) rfl rfl (a_dec_at dc_Su_gainByLying 7 rfl) ?_
  obtain ⟨c2, H⟩ := H
  refine w_iald (k := a2.toNatClampNeg) sh56 c2 rfl (a_dec_at dc_Su_gainByLying 8 rfl) ?_
  refine ev_istore_n (i := 3) rfl (by decide) rfl (a_dec_at dc_Su_gainByLying 9 rfl) ?_
  refine ev_iconst (v := 0) rfl (a_dec_at dc_Su_gainByLying 10 rfl) ?_
  refine ev_istore (by decide) rfl (a_dec_at dc_Su_gainByLying 11 rfl) ?_
  refine ev_iconst (v := 0) rfl (a_dec_at dc_Su_gainByLying 12 rfl) ?_
  refine ev_istore (by decide) rfl (a_dec_at dc_Su_gainByLying 13 rfl) ?_
  exact Ev.drop (L' := [.ref 75, .ref 17, .int a2, .int (mi1 56 a2.toNatClampNeg), .int 0, .int 0, .retAddr 0]) (And.intro rfl (And.intro rfl (And.intro rfl (And.intro rfl (And.intro rfl (And.intro rfl trivial)))))) H
set_option maxRecDepth 20000 in
theorem t_Su_gainByLying_24 {l : Launch} {h : Nat} (mi : TMi) (ml : TMl) (z : Nat) (v2 : Int32) (v3 : Int32) (v4 : Int32) (v5 : Int32) {Q : Int32 → TMi → TMl → Nat → Prop} (H : (((mi 18 1) ≤ v5 → ((v4 = 0 → Q (-1) mi ml z) ∧ (¬ v4 = 0 → Q v3 mi ml z))) ∧ (¬ (mi 18 1) ≤ v5 → ((v3 = (-1) → CI l h m_Sc_bothWould [.ref 17, .int v2, .int v5] mi ml z (fun x4 mi4 ml4 z4 => ((x4 = 0 → Ev l (h + 1) m_Su_gainByLying 24 ([.ref 75, .ref 17, .int v2, .int v3, .int v4, .int (v5 + 1), .retAddr 0], [], st mi4 ml4 z4) (qI Q)) ∧ (¬ x4 = 0 → CI l h m_Su_getsByTelling [.ref 75, .ref 17, .int v2, .int v5] mi4 ml4 z4 (fun x6 mi6 ml6 z6 => ((x6 = 0 → Ev l (h + 1) m_Su_gainByLying 24 ([.ref 75, .ref 17, .int v2, .int v3, .int v4, .int (v5 + 1), .retAddr 0], [], st mi6 ml6 z6) (qI Q)) ∧ (¬ x6 = 0 → Ev l (h + 1) m_Su_gainByLying 24 ([.ref 75, .ref 17, .int v2, .int v5, .int 1, .int (v5 + 1), .retAddr 0], [], st mi6 ml6 z6) (qI Q)))))))) ∧ (¬ v3 = (-1) → CI l h m_Sc_likesBetter [.ref 17, .int v2, .int v5, .int v3] mi ml z (fun x8 mi8 ml8 z8 => ((x8 = 0 → CI l h m_Sc_bothWould [.ref 17, .int v2, .int v5] mi8 ml8 z8 (fun x10 mi10 ml10 z10 => ((x10 = 0 → Ev l (h + 1) m_Su_gainByLying 24 ([.ref 75, .ref 17, .int v2, .int v3, .int v4, .int (v5 + 1), .retAddr 0], [], st mi10 ml10 z10) (qI Q)) ∧ (¬ x10 = 0 → Ev l (h + 1) m_Su_gainByLying 24 ([.ref 75, .ref 17, .int v2, .int v3, .int v4, .int (v5 + 1), .retAddr 0], [], st mi10 ml10 z10) (qI Q))))) ∧ (¬ x8 = 0 → CI l h m_Sc_bothWould [.ref 17, .int v2, .int v5] mi8 ml8 z8 (fun x12 mi12 ml12 z12 => ((x12 = 0 → Ev l (h + 1) m_Su_gainByLying 24 ([.ref 75, .ref 17, .int v2, .int v3, .int v4, .int (v5 + 1), .retAddr 0], [], st mi12 ml12 z12) (qI Q)) ∧ (¬ x12 = 0 → CI l h m_Su_getsByTelling [.ref 75, .ref 17, .int v2, .int v5] mi12 ml12 z12 (fun x14 mi14 ml14 z14 => ((x14 = 0 → Ev l (h + 1) m_Su_gainByLying 24 ([.ref 75, .ref 17, .int v2, .int v3, .int v4, .int (v5 + 1), .retAddr 0], [], st mi14 ml14 z14) (qI Q)) ∧ (¬ x14 = 0 → Ev l (h + 1) m_Su_gainByLying 24 ([.ref 75, .ref 17, .int v2, .int v5, .int 1, .int (v5 + 1), .retAddr 0], [], st mi14 ml14 z14) (qI Q))))))))))))))) : Ev l (h + 1) m_Su_gainByLying 24 ([.ref 75, .ref 17, .int v2, .int v3, .int v4, .int v5, .retAddr 0], [], st mi ml z) (qI Q) := by
  refine ev_iload rfl (a_dec_at dc_Su_gainByLying 14 rfl) ?_
  refine ev_aload_n (i := 1) rfl rfl (a_dec_at dc_Su_gainByLying 15 rfl) ?_
  refine m_getR (y := 18) fl_Su_35 rfl sh17 (mr_17_0 _) (by decide) (a_dec_at dc_Su_gainByLying 16 rfl) ?_
  refine m_getI fl_Su_41 rfl sh18 (a_dec_at dc_Su_gainByLying 17 rfl) ?_
  refine ev_icmp_ge (tgt := 97) (a_dec_at dc_Su_gainByLying 18 rfl) (by decide) (fun b1 => ?_) (fun b1 => ?_)
  · have H := H.1 b1
    refine ev_iload rfl (a_dec_at dc_Su_gainByLying 51 rfl) ?_
    refine ev_if_eq (tgt := 106) (a_dec_at dc_Su_gainByLying 52 rfl) (by decide) (fun b2 => ?_) (fun b2 => ?_)
    · have H := H.1 b2
      refine ev_iconst (v := (-1)) rfl (a_dec_at dc_Su_gainByLying 55 rfl) ?_
      exact m_retI (a_dec_at dc_Su_gainByLying 56 rfl) rfl rfl H
    · have H := H.2 b2
      refine ev_iload_n (i := 3) rfl rfl (a_dec_at dc_Su_gainByLying 53 rfl) ?_
      refine ev_goto (tgt := 107) (a_dec_at dc_Su_gainByLying 54 rfl) (by decide) ?_
      exact m_retI (a_dec_at dc_Su_gainByLying 56 rfl) rfl rfl H
  · have H := H.2 b1
    refine ev_iload_n (i := 3) rfl rfl (a_dec_at dc_Su_gainByLying 19 rfl) ?_
    refine ev_iconst (v := (-1)) rfl (a_dec_at dc_Su_gainByLying 20 rfl) ?_
    refine ev_icmp_eq (tgt := 52) (a_dec_at dc_Su_gainByLying 21 rfl) (by decide) (fun b3 => ?_) (fun b3 => ?_)
    · have H := H.1 b3
      refine ev_iconst (v := 1) rfl (a_dec_at dc_Su_gainByLying 28 rfl) ?_
      refine ev_goto (tgt := 57) (a_dec_at dc_Su_gainByLying 29 rfl) (by decide) ?_
      refine ev_istore (by decide) rfl (a_dec_at dc_Su_gainByLying 31 rfl) ?_
      refine ev_aload_n (i := 1) rfl rfl (a_dec_at dc_Su_gainByLying 32 rfl) ?_
      refine ev_iload_n (i := 2) rfl rfl (a_dec_at dc_Su_gainByLying 33 rfl) ?_
      refine ev_iload rfl (a_dec_at dc_Su_gainByLying 34 rfl) ?_
      refine cV2I cs_Su_51 sh17 rfl (Nat.le_of_ble_eq_true rfl) (Nat.le_of_ble_eq_true rfl) (a_dec_at dc_Su_gainByLying 35 rfl) ?_
      refine CI.mono (fun x4 mi4 ml4 z4 H => ?_) H
      refine ev_if_eq (tgt := 91) (a_dec_at dc_Su_gainByLying 36 rfl) (by decide) (fun b5 => ?_) (fun b5 => ?_)
      · have H := H.1 b5
        refine ev_iinc (v := 1) rfl rfl (by decide) rfl (a_dec_at dc_Su_gainByLying 49 rfl) ?_
        refine ev_goto (tgt := 24) (a_dec_at dc_Su_gainByLying 50 rfl) (by decide) ?_
        exact Ev.drop (L' := [.ref 75, .ref 17, .int v2, .int v3, .int v4, .int (v5 + 1), .retAddr 0]) (And.intro rfl (And.intro rfl (And.intro rfl (And.intro rfl (And.intro rfl (And.intro rfl trivial)))))) H
      · have H := H.2 b5
        refine ev_iload rfl (a_dec_at dc_Su_gainByLying 37 rfl) ?_
        refine ev_if_eq (tgt := 91) (a_dec_at dc_Su_gainByLying 38 rfl) (by decide) (fun q => absurd q (by decide)) (fun _ => ?_)
        refine ev_aload_n (i := 0) rfl rfl (a_dec_at dc_Su_gainByLying 39 rfl) ?_
        refine ev_aload_n (i := 1) rfl rfl (a_dec_at dc_Su_gainByLying 40 rfl) ?_
        refine ev_iload_n (i := 2) rfl rfl (a_dec_at dc_Su_gainByLying 41 rfl) ?_
        refine ev_iload rfl (a_dec_at dc_Su_gainByLying 42 rfl) ?_
        refine cV3I cs_Su_55 sh75 rfl (Nat.le_of_ble_eq_true rfl) (Nat.le_of_ble_eq_true rfl) (a_dec_at dc_Su_gainByLying 43 rfl) ?_
        refine CI.mono (fun x6 mi6 ml6 z6 H => ?_) H
        refine ev_if_eq (tgt := 91) (a_dec_at dc_Su_gainByLying 44 rfl) (by decide) (fun b7 => ?_) (fun b7 => ?_)
        · have H := H.1 b7
          refine ev_iinc (v := 1) rfl rfl (by decide) rfl (a_dec_at dc_Su_gainByLying 49 rfl) ?_
          refine ev_goto (tgt := 24) (a_dec_at dc_Su_gainByLying 50 rfl) (by decide) ?_
          exact Ev.drop (L' := [.ref 75, .ref 17, .int v2, .int v3, .int v4, .int (v5 + 1), .retAddr 0]) (And.intro rfl (And.intro rfl (And.intro rfl (And.intro rfl (And.intro rfl (And.intro rfl trivial)))))) H
        · have H := H.2 b7
          refine ev_iload rfl (a_dec_at dc_Su_gainByLying 45 rfl) ?_
          refine ev_istore_n (i := 3) rfl (by decide) rfl (a_dec_at dc_Su_gainByLying 46 rfl) ?_
          refine ev_iconst (v := 1) rfl (a_dec_at dc_Su_gainByLying 47 rfl) ?_
          refine ev_istore (by decide) rfl (a_dec_at dc_Su_gainByLying 48 rfl) ?_
          refine ev_iinc (v := 1) rfl rfl (by decide) rfl (a_dec_at dc_Su_gainByLying 49 rfl) ?_
          refine ev_goto (tgt := 24) (a_dec_at dc_Su_gainByLying 50 rfl) (by decide) ?_
          exact Ev.drop (L' := [.ref 75, .ref 17, .int v2, .int v5, .int 1, .int (v5 + 1), .retAddr 0]) (And.intro rfl (And.intro rfl (And.intro rfl (And.intro rfl (And.intro rfl (And.intro rfl trivial)))))) H
    · have H := H.2 b3
      refine ev_aload_n (i := 1) rfl rfl (a_dec_at dc_Su_gainByLying 22 rfl) ?_
      refine ev_iload_n (i := 2) rfl rfl (a_dec_at dc_Su_gainByLying 23 rfl) ?_
      refine ev_iload rfl (a_dec_at dc_Su_gainByLying 24 rfl) ?_
      refine ev_iload_n (i := 3) rfl rfl (a_dec_at dc_Su_gainByLying 25 rfl) ?_
      refine cV3I cs_Su_47 sh17 rfl (Nat.le_of_ble_eq_true rfl) (Nat.le_of_ble_eq_true rfl) (a_dec_at dc_Su_gainByLying 26 rfl) ?_
      refine CI.mono (fun x8 mi8 ml8 z8 H => ?_) H
      refine ev_if_eq (tgt := 56) (a_dec_at dc_Su_gainByLying 27 rfl) (by decide) (fun b9 => ?_) (fun b9 => ?_)
      · have H := H.1 b9
        refine ev_iconst (v := 0) rfl (a_dec_at dc_Su_gainByLying 30 rfl) ?_
        refine ev_istore (by decide) rfl (a_dec_at dc_Su_gainByLying 31 rfl) ?_
        refine ev_aload_n (i := 1) rfl rfl (a_dec_at dc_Su_gainByLying 32 rfl) ?_
        refine ev_iload_n (i := 2) rfl rfl (a_dec_at dc_Su_gainByLying 33 rfl) ?_
        refine ev_iload rfl (a_dec_at dc_Su_gainByLying 34 rfl) ?_
        refine cV2I cs_Su_51 sh17 rfl (Nat.le_of_ble_eq_true rfl) (Nat.le_of_ble_eq_true rfl) (a_dec_at dc_Su_gainByLying 35 rfl) ?_
        refine CI.mono (fun x10 mi10 ml10 z10 H => ?_) H
        refine ev_if_eq (tgt := 91) (a_dec_at dc_Su_gainByLying 36 rfl) (by decide) (fun b11 => ?_) (fun b11 => ?_)
        · have H := H.1 b11
          refine ev_iinc (v := 1) rfl rfl (by decide) rfl (a_dec_at dc_Su_gainByLying 49 rfl) ?_
          refine ev_goto (tgt := 24) (a_dec_at dc_Su_gainByLying 50 rfl) (by decide) ?_
          exact Ev.drop (L' := [.ref 75, .ref 17, .int v2, .int v3, .int v4, .int (v5 + 1), .retAddr 0]) (And.intro rfl (And.intro rfl (And.intro rfl (And.intro rfl (And.intro rfl (And.intro rfl trivial)))))) H
        · have H := H.2 b11
          refine ev_iload rfl (a_dec_at dc_Su_gainByLying 37 rfl) ?_
          refine ev_if_eq (tgt := 91) (a_dec_at dc_Su_gainByLying 38 rfl) (by decide) (fun _ => ?_) (fun q => absurd (by decide) q)
          refine ev_iinc (v := 1) rfl rfl (by decide) rfl (a_dec_at dc_Su_gainByLying 49 rfl) ?_
          refine ev_goto (tgt := 24) (a_dec_at dc_Su_gainByLying 50 rfl) (by decide) ?_
          exact Ev.drop (L' := [.ref 75, .ref 17, .int v2, .int v3, .int v4, .int (v5 + 1), .retAddr 0]) (And.intro rfl (And.intro rfl (And.intro rfl (And.intro rfl (And.intro rfl (And.intro rfl trivial)))))) H
      · have H := H.2 b9
        refine ev_iconst (v := 1) rfl (a_dec_at dc_Su_gainByLying 28 rfl) ?_
        refine ev_goto (tgt := 57) (a_dec_at dc_Su_gainByLying 29 rfl) (by decide) ?_
        refine ev_istore (by decide) rfl (a_dec_at dc_Su_gainByLying 31 rfl) ?_
        refine ev_aload_n (i := 1) rfl rfl (a_dec_at dc_Su_gainByLying 32 rfl) ?_
        refine ev_iload_n (i := 2) rfl rfl (a_dec_at dc_Su_gainByLying 33 rfl) ?_
        refine ev_iload rfl (a_dec_at dc_Su_gainByLying 34 rfl) ?_
        refine cV2I cs_Su_51 sh17 rfl (Nat.le_of_ble_eq_true rfl) (Nat.le_of_ble_eq_true rfl) (a_dec_at dc_Su_gainByLying 35 rfl) ?_
        refine CI.mono (fun x12 mi12 ml12 z12 H => ?_) H
        refine ev_if_eq (tgt := 91) (a_dec_at dc_Su_gainByLying 36 rfl) (by decide) (fun b13 => ?_) (fun b13 => ?_)
        · have H := H.1 b13
          refine ev_iinc (v := 1) rfl rfl (by decide) rfl (a_dec_at dc_Su_gainByLying 49 rfl) ?_
          refine ev_goto (tgt := 24) (a_dec_at dc_Su_gainByLying 50 rfl) (by decide) ?_
          exact Ev.drop (L' := [.ref 75, .ref 17, .int v2, .int v3, .int v4, .int (v5 + 1), .retAddr 0]) (And.intro rfl (And.intro rfl (And.intro rfl (And.intro rfl (And.intro rfl (And.intro rfl trivial)))))) H
        · have H := H.2 b13
          refine ev_iload rfl (a_dec_at dc_Su_gainByLying 37 rfl) ?_
          refine ev_if_eq (tgt := 91) (a_dec_at dc_Su_gainByLying 38 rfl) (by decide) (fun q => absurd q (by decide)) (fun _ => ?_)
          refine ev_aload_n (i := 0) rfl rfl (a_dec_at dc_Su_gainByLying 39 rfl) ?_
          refine ev_aload_n (i := 1) rfl rfl (a_dec_at dc_Su_gainByLying 40 rfl) ?_
          refine ev_iload_n (i := 2) rfl rfl (a_dec_at dc_Su_gainByLying 41 rfl) ?_
          refine ev_iload rfl (a_dec_at dc_Su_gainByLying 42 rfl) ?_
          refine cV3I cs_Su_55 sh75 rfl (Nat.le_of_ble_eq_true rfl) (Nat.le_of_ble_eq_true rfl) (a_dec_at dc_Su_gainByLying 43 rfl) ?_
          refine CI.mono (fun x14 mi14 ml14 z14 H => ?_) H
          refine ev_if_eq (tgt := 91) (a_dec_at dc_Su_gainByLying 44 rfl) (by decide) (fun b15 => ?_) (fun b15 => ?_)
          · have H := H.1 b15
            refine ev_iinc (v := 1) rfl rfl (by decide) rfl (a_dec_at dc_Su_gainByLying 49 rfl) ?_
            refine ev_goto (tgt := 24) (a_dec_at dc_Su_gainByLying 50 rfl) (by decide) ?_
            exact Ev.drop (L' := [.ref 75, .ref 17, .int v2, .int v3, .int v4, .int (v5 + 1), .retAddr 0]) (And.intro rfl (And.intro rfl (And.intro rfl (And.intro rfl (And.intro rfl (And.intro rfl trivial)))))) H
          · have H := H.2 b15
            refine ev_iload rfl (a_dec_at dc_Su_gainByLying 45 rfl) ?_
            refine ev_istore_n (i := 3) rfl (by decide) rfl (a_dec_at dc_Su_gainByLying 46 rfl) ?_
            refine ev_iconst (v := 1) rfl (a_dec_at dc_Su_gainByLying 47 rfl) ?_
            refine ev_istore (by decide) rfl (a_dec_at dc_Su_gainByLying 48 rfl) ?_
            refine ev_iinc (v := 1) rfl rfl (by decide) rfl (a_dec_at dc_Su_gainByLying 49 rfl) ?_
            refine ev_goto (tgt := 24) (a_dec_at dc_Su_gainByLying 50 rfl) (by decide) ?_
            exact Ev.drop (L' := [.ref 75, .ref 17, .int v2, .int v5, .int 1, .int (v5 + 1), .retAddr 0]) (And.intro rfl (And.intro rfl (And.intro rfl (And.intro rfl (And.intro rfl (And.intro rfl trivial)))))) H
set_option maxRecDepth 20000 in
theorem t_Su_getsByTelling {l : Launch} {h : Nat} (mi : TMi) (ml : TMl) (z : Nat) (a2 : Int32) (a3 : Int32) {Q : Int32 → TMi → TMl → Nat → Prop} (H : CV l h m_Sc_copyFrom [.ref 33, .ref 17] mi ml z (fun mi1 ml1 z1 => Ev l (h + 1) m_Su_getsByTelling 11 ([.ref 75, .ref 17, .int a2, .int a3, .int 0], [], st mi1 ml1 z1) (qI Q))) : CI l (h + 1) m_Su_getsByTelling [.ref 75, .ref 17, .int a2, .int a3] mi ml z Q := by
  show Ev l (h + 1) m_Su_getsByTelling 0 ([.ref 75, .ref 17, .int a2, .int a3, .retAddr 0], [], st mi ml z) (qI Q)
  refine ev_aload_n (i := 0) rfl rfl (a_dec_at dc_Su_getsByTelling 0 rfl) ?_
  refine m_getR (y := 33) fl_Su_18 rfl sh75 (mr_75_0 _) (by decide) (a_dec_at dc_Su_getsByTelling 1 rfl) ?_
  refine ev_aload_n (i := 1) rfl rfl (a_dec_at dc_Su_getsByTelling 2 rfl) ?_
  refine cV1V cs_Su_59 sh33 rfl (Nat.le_of_ble_eq_true rfl) (Nat.le_of_ble_eq_true rfl) (a_dec_at dc_Su_getsByTelling 3 rfl) ?_
  refine CV.mono (fun mi1 ml1 z1 H => ?_) H
  refine ev_iconst (v := 0) rfl (a_dec_at dc_Su_getsByTelling 4 rfl) ?_
  refine ev_istore (by decide) rfl (a_dec_at dc_Su_getsByTelling 5 rfl) ?_
  exact Ev.drop (L' := [.ref 75, .ref 17, .int a2, .int a3, .int 0]) (And.intro rfl (And.intro rfl (And.intro rfl (And.intro rfl (And.intro rfl trivial))))) H
set_option maxRecDepth 20000 in
theorem t_Su_getsByTelling_11 {l : Launch} {h : Nat} (mi : TMi) (ml : TMl) (z : Nat) (v2 : Int32) (v3 : Int32) (v4 : Int32) {Q : Int32 → TMi → TMl → Nat → Prop} (H : (((mi 18 1) ≤ v4 → CV l h m_Ma_bestForRivers [.ref 55, .ref 33] mi ml z (fun mi2 ml2 z2 => (vp_in v2 6) ∧ ((¬ (mi2 56 v2.toNatClampNeg) = v3 → Q 0 mi2 ml2 z2) ∧ ((mi2 56 v2.toNatClampNeg) = v3 → Q 1 mi2 ml2 z2)))) ∧ (¬ (mi 18 1) ≤ v4 → ((¬ v4 = v3 → CI l h m_B_pair [.int v2, .int v4] mi ml z (fun x6 mi6 ml6 z6 => (vp_in x6 24) ∧ CV l h m_Sc_setLiking [.ref 33, .int v2, .int v4, .int 0, .int (mi6 29 x6.toNatClampNeg)] mi6 ml6 z6 (fun mi8 ml8 z8 => Ev l (h + 1) m_Su_getsByTelling 11 ([.ref 75, .ref 17, .int v2, .int v3, .int (v4 + 1)], [], st mi8 ml8 z8) (qI Q)))) ∧ (v4 = v3 → CI l h m_B_pair [.int v2, .int v4] mi ml z (fun x9 mi9 ml9 z9 => (vp_in x9 24) ∧ CV l h m_Sc_setLiking [.ref 33, .int v2, .int v4, .int 1, .int (mi9 29 x9.toNatClampNeg)] mi9 ml9 z9 (fun mi11 ml11 z11 => Ev l (h + 1) m_Su_getsByTelling 11 ([.ref 75, .ref 17, .int v2, .int v3, .int (v4 + 1)], [], st mi11 ml11 z11) (qI Q)))))))) : Ev l (h + 1) m_Su_getsByTelling 11 ([.ref 75, .ref 17, .int v2, .int v3, .int v4], [], st mi ml z) (qI Q) := by
  refine ev_iload rfl (a_dec_at dc_Su_getsByTelling 6 rfl) ?_
  refine ev_aload_n (i := 1) rfl rfl (a_dec_at dc_Su_getsByTelling 7 rfl) ?_
  refine m_getR (y := 18) fl_Su_35 rfl sh17 (mr_17_0 _) (by decide) (a_dec_at dc_Su_getsByTelling 8 rfl) ?_
  refine m_getI fl_Su_41 rfl sh18 (a_dec_at dc_Su_getsByTelling 9 rfl) ?_
  refine ev_icmp_ge (tgt := 61) (a_dec_at dc_Su_getsByTelling 10 rfl) (by decide) (fun b1 => ?_) (fun b1 => ?_)
  · have H := H.1 b1
    refine ev_aload_n (i := 0) rfl rfl (a_dec_at dc_Su_getsByTelling 30 rfl) ?_
    refine m_getR (y := 55) fl_Su_22 rfl sh75 (mr_75_1 _) (by decide) (a_dec_at dc_Su_getsByTelling 31 rfl) ?_
    refine ev_aload_n (i := 0) rfl rfl (a_dec_at dc_Su_getsByTelling 32 rfl) ?_
    refine m_getR (y := 33) fl_Su_18 rfl sh75 (mr_75_0 _) (by decide) (a_dec_at dc_Su_getsByTelling 33 rfl) ?_
    refine cV1V cs_Su_26 sh55 rfl (Nat.le_of_ble_eq_true rfl) (Nat.le_of_ble_eq_true rfl) (a_dec_at dc_Su_getsByTelling 34 rfl) ?_
    refine CV.mono (fun mi2 ml2 z2 H => ?_) H
    refine ev_aload_n (i := 0) rfl rfl (a_dec_at dc_Su_getsByTelling 35 rfl) ?_
    refine m_getR (y := 55) fl_Su_22 rfl sh75 (mr_75_1 _) (by decide) (a_dec_at dc_Su_getsByTelling 36 rfl) ?_
    refine m_getR (y := 56) fl_Su_32 rfl sh55 (mr_55_0 _) (by decide) (a_dec_at dc_Su_getsByTelling 37 rfl) ?_
    refine ev_iload_n (i := 2) rfl rfl (a_dec_at dc_Su_getsByTelling 38 rfl) ?_
    obtain ⟨c3, H⟩ := H
    refine w_iald (k := v2.toNatClampNeg) sh56 c3 rfl (a_dec_at dc_Su_getsByTelling 39 rfl) ?_
    refine ev_iload_n (i := 3) rfl rfl (a_dec_at dc_Su_getsByTelling 40 rfl) ?_
    refine ev_icmp_ne (tgt := 89) (a_dec_at dc_Su_getsByTelling 41 rfl) (by decide) (fun b4 => ?_) (fun b4 => ?_)
    · have H := H.1 b4
      refine ev_iconst (v := 0) rfl (a_dec_at dc_Su_getsByTelling 44 rfl) ?_
      exact m_retI (a_dec_at dc_Su_getsByTelling 45 rfl) rfl rfl H
    · have H := H.2 b4
      refine ev_iconst (v := 1) rfl (a_dec_at dc_Su_getsByTelling 42 rfl) ?_
      refine ev_goto (tgt := 90) (a_dec_at dc_Su_getsByTelling 43 rfl) (by decide) ?_
      exact m_retI (a_dec_at dc_Su_getsByTelling 45 rfl) rfl rfl H
  · have H := H.2 b1
    refine ev_aload_n (i := 0) rfl rfl (a_dec_at dc_Su_getsByTelling 11 rfl) ?_
    refine m_getR (y := 33) fl_Su_18 rfl sh75 (mr_75_0 _) (by decide) (a_dec_at dc_Su_getsByTelling 12 rfl) ?_
    refine ev_iload_n (i := 2) rfl rfl (a_dec_at dc_Su_getsByTelling 13 rfl) ?_
    refine ev_iload rfl (a_dec_at dc_Su_getsByTelling 14 rfl) ?_
    refine ev_iload rfl (a_dec_at dc_Su_getsByTelling 15 rfl) ?_
    refine ev_iload_n (i := 3) rfl rfl (a_dec_at dc_Su_getsByTelling 16 rfl) ?_
    refine ev_icmp_ne (tgt := 40) (a_dec_at dc_Su_getsByTelling 17 rfl) (by decide) (fun b5 => ?_) (fun b5 => ?_)
    · have H := H.1 b5
      refine ev_iconst (v := 0) rfl (a_dec_at dc_Su_getsByTelling 20 rfl) ?_
      refine ev_aload_n (i := 1) rfl rfl (a_dec_at dc_Su_getsByTelling 21 rfl) ?_
      refine m_getR (y := 29) fl_Su_62 rfl sh17 (mr_17_4 _) (by decide) (a_dec_at dc_Su_getsByTelling 22 rfl) ?_
      refine ev_iload_n (i := 2) rfl rfl (a_dec_at dc_Su_getsByTelling 23 rfl) ?_
      refine ev_iload rfl (a_dec_at dc_Su_getsByTelling 24 rfl) ?_
      refine cN2I cs_Su_65 rfl (Nat.le_of_ble_eq_true rfl) (Nat.le_of_ble_eq_true rfl) (a_dec_at dc_Su_getsByTelling 25 rfl) ?_
      refine CI.mono (fun x6 mi6 ml6 z6 H => ?_) H
      obtain ⟨c7, H⟩ := H
      refine w_iald (k := x6.toNatClampNeg) sh29 c7 rfl (a_dec_at dc_Su_getsByTelling 26 rfl) ?_
      refine cV4V cs_Su_69 sh33 rfl (Nat.le_of_ble_eq_true rfl) (Nat.le_of_ble_eq_true rfl) (a_dec_at dc_Su_getsByTelling 27 rfl) ?_
      refine CV.mono (fun mi8 ml8 z8 H => ?_) H
      refine ev_iinc (v := 1) rfl rfl (by decide) rfl (a_dec_at dc_Su_getsByTelling 28 rfl) ?_
      refine ev_goto (tgt := 11) (a_dec_at dc_Su_getsByTelling 29 rfl) (by decide) ?_
      exact Ev.drop (L' := [.ref 75, .ref 17, .int v2, .int v3, .int (v4 + 1)]) (And.intro rfl (And.intro rfl (And.intro rfl (And.intro rfl (And.intro rfl trivial))))) H
    · have H := H.2 b5
      refine ev_iconst (v := 1) rfl (a_dec_at dc_Su_getsByTelling 18 rfl) ?_
      refine ev_goto (tgt := 41) (a_dec_at dc_Su_getsByTelling 19 rfl) (by decide) ?_
      refine ev_aload_n (i := 1) rfl rfl (a_dec_at dc_Su_getsByTelling 21 rfl) ?_
      refine m_getR (y := 29) fl_Su_62 rfl sh17 (mr_17_4 _) (by decide) (a_dec_at dc_Su_getsByTelling 22 rfl) ?_
      refine ev_iload_n (i := 2) rfl rfl (a_dec_at dc_Su_getsByTelling 23 rfl) ?_
      refine ev_iload rfl (a_dec_at dc_Su_getsByTelling 24 rfl) ?_
      refine cN2I cs_Su_65 rfl (Nat.le_of_ble_eq_true rfl) (Nat.le_of_ble_eq_true rfl) (a_dec_at dc_Su_getsByTelling 25 rfl) ?_
      refine CI.mono (fun x9 mi9 ml9 z9 H => ?_) H
      obtain ⟨c10, H⟩ := H
      refine w_iald (k := x9.toNatClampNeg) sh29 c10 rfl (a_dec_at dc_Su_getsByTelling 26 rfl) ?_
      refine cV4V cs_Su_69 sh33 rfl (Nat.le_of_ble_eq_true rfl) (Nat.le_of_ble_eq_true rfl) (a_dec_at dc_Su_getsByTelling 27 rfl) ?_
      refine CV.mono (fun mi11 ml11 z11 H => ?_) H
      refine ev_iinc (v := 1) rfl rfl (by decide) rfl (a_dec_at dc_Su_getsByTelling 28 rfl) ?_
      refine ev_goto (tgt := 11) (a_dec_at dc_Su_getsByTelling 29 rfl) (by decide) ?_
      exact Ev.drop (L' := [.ref 75, .ref 17, .int v2, .int v3, .int (v4 + 1)]) (And.intro rfl (And.intro rfl (And.intro rfl (And.intro rfl (And.intro rfl trivial))))) H
set_option maxRecDepth 20000 in
theorem t_Su_hear_111 {l : Launch} {h : Nat} (mi : TMi) (ml : TMl) (z : Nat) {Q : Int32 → TMi → TMl → Nat → Prop} (H : Ev l (h + 1) m_Su_hear 2 ([.ref 75, .ref 17, .ref 111, .int 0, .retAddr 0, .retAddr 0], [], st mi ml z) (qI Q)) : CI l (h + 1) m_Su_hear [.ref 75, .ref 17, .ref 111] mi ml z Q := by
  show Ev l (h + 1) m_Su_hear 0 ([.ref 75, .ref 17, .ref 111, .retAddr 0, .retAddr 0, .retAddr 0], [], st mi ml z) (qI Q)
  refine ev_iconst (v := 0) rfl (a_dec_at dc_Su_hear 0 rfl) ?_
  refine ev_istore_n (i := 3) rfl (by decide) rfl (a_dec_at dc_Su_hear 1 rfl) ?_
  exact Ev.drop (L' := [.ref 75, .ref 17, .ref 111, .int 0, .retAddr 0, .retAddr 0]) (And.intro rfl (And.intro rfl (And.intro rfl (And.intro rfl trivial)))) H
set_option maxRecDepth 20000 in
theorem t_Su_hear_111_2 {l : Launch} {h : Nat} (mi : TMi) (ml : TMl) (z : Nat) (v3 : Int32) {Q : Int32 → TMi → TMl → Nat → Prop} (H : (((mi 18 0) ≤ v3 → Ev l (h + 1) m_Su_hear 62 ([.ref 75, .ref 17, .retAddr 0, .int 0, .retAddr 0, .retAddr 0], [], st mi ml z) (qI Q)) ∧ (¬ (mi 18 0) ≤ v3 → CLg l h m_Tr_at [.ref 111, .int v3] mi ml z (fun x2 mi2 ml2 z2 => (((lg_cmp x2 (-1)) < 0 → Q 0 mi2 ml2 z2) ∧ (¬ (lg_cmp x2 (-1)) < 0 → (((lg_cmp x2 ((mi2 18 1).toInt64)) < 0 → (vp_in v3 6) ∧ Ev l (h + 1) m_Su_hear 2 ([.ref 75, .ref 17, .ref 111, .int (v3 + 1), .retAddr 0, .retAddr 0], [], st (up mi2 76 v3.toNatClampNeg x2.toInt32) ml2 z2) (qI Q)) ∧ (¬ (lg_cmp x2 ((mi2 18 1).toInt64)) < 0 → Q 0 mi2 ml2 z2)))))))) : Ev l (h + 1) m_Su_hear 2 ([.ref 75, .ref 17, .ref 111, .int v3, .retAddr 0, .retAddr 0], [], st mi ml z) (qI Q) := by
  refine ev_iload_n (i := 3) rfl rfl (a_dec_at dc_Su_hear 2 rfl) ?_
  refine ev_aload_n (i := 1) rfl rfl (a_dec_at dc_Su_hear 3 rfl) ?_
  refine m_getR (y := 18) fl_Su_35 rfl sh17 (mr_17_0 _) (by decide) (a_dec_at dc_Su_hear 4 rfl) ?_
  refine m_getI fl_Su_73 rfl sh18 (a_dec_at dc_Su_hear 5 rfl) ?_
  refine ev_icmp_ge (tgt := 60) (a_dec_at dc_Su_hear 6 rfl) (by decide) (fun b1 => ?_) (fun b1 => ?_)
  · have H := H.1 b1
    refine ev_iconst (v := 0) rfl (a_dec_at dc_Su_hear 32 rfl) ?_
    refine ev_istore_n (i := 3) rfl (by decide) rfl (a_dec_at dc_Su_hear 33 rfl) ?_
    exact Ev.drop (L' := [.ref 75, .ref 17, .retAddr 0, .int 0, .retAddr 0, .retAddr 0]) (And.intro rfl (And.intro rfl (And.intro rfl trivial))) H
  · have H := H.2 b1
    refine ev_aload_n (i := 2) rfl rfl (a_dec_at dc_Su_hear 7 rfl) ?_
    refine ev_iload_n (i := 3) rfl rfl (a_dec_at dc_Su_hear 8 rfl) ?_
    refine cV1L cs_Su_76 sh111 rfl (Nat.le_of_ble_eq_true rfl) (Nat.le_of_ble_eq_true rfl) (a_dec_at dc_Su_hear 9 rfl) ?_
    refine CLg.mono (fun x2 mi2 ml2 z2 H => ?_) H
    refine ev_lstore (by decide) rfl (a_dec_at dc_Su_hear 10 rfl) ?_
    refine ev_lload rfl (a_dec_at dc_Su_hear 11 rfl) ?_
    refine ev_ldc2 kc_Su_82 (a_dec_at dc_Su_hear 12 rfl) ?_
    refine ev_lcmp (a_dec_at dc_Su_hear 13 rfl) ?_
    refine ev_if_lt (tgt := 43) (a_dec_at dc_Su_hear 14 rfl) (by decide) (fun b3 => ?_) (fun b3 => ?_)
    · have H := H.1 b3
      refine ev_iconst (v := 0) rfl (a_dec_at dc_Su_hear 22 rfl) ?_
      exact m_retI (a_dec_at dc_Su_hear 23 rfl) rfl rfl H
    · have H := H.2 b3
      refine ev_lload rfl (a_dec_at dc_Su_hear 15 rfl) ?_
      refine ev_aload_n (i := 1) rfl rfl (a_dec_at dc_Su_hear 16 rfl) ?_
      refine m_getR (y := 18) fl_Su_35 rfl sh17 (mr_17_0 _) (by decide) (a_dec_at dc_Su_hear 17 rfl) ?_
      refine m_getI fl_Su_41 rfl sh18 (a_dec_at dc_Su_hear 18 rfl) ?_
      refine ev_i2l (a_dec_at dc_Su_hear 19 rfl) ?_
      refine ev_lcmp (a_dec_at dc_Su_hear 20 rfl) ?_
      refine ev_if_lt (tgt := 45) (a_dec_at dc_Su_hear 21 rfl) (by decide) (fun b4 => ?_) (fun b4 => ?_)
      · have H := H.1 b4
        refine ev_aload_n (i := 0) rfl rfl (a_dec_at dc_Su_hear 24 rfl) ?_
        refine m_getR (y := 76) fl_Su_9 rfl sh75 (mr_75_2 _) (by decide) (a_dec_at dc_Su_hear 25 rfl) ?_
        refine ev_iload_n (i := 3) rfl rfl (a_dec_at dc_Su_hear 26 rfl) ?_
        refine ev_lload rfl (a_dec_at dc_Su_hear 27 rfl) ?_
        refine ev_l2i (a_dec_at dc_Su_hear 28 rfl) ?_
        obtain ⟨c5, H⟩ := H
        refine w_iast (k := v3.toNatClampNeg) sh76 c5 rfl (a_dec_at dc_Su_hear 29 rfl) ?_
        refine ev_iinc (v := 1) rfl rfl (by decide) rfl (a_dec_at dc_Su_hear 30 rfl) ?_
        refine ev_goto (tgt := 2) (a_dec_at dc_Su_hear 31 rfl) (by decide) ?_
        exact Ev.drop (L' := [.ref 75, .ref 17, .ref 111, .int (v3 + 1), .retAddr 0, .retAddr 0]) (And.intro rfl (And.intro rfl (And.intro rfl (And.intro rfl trivial)))) H
      · have H := H.2 b4
        refine ev_iconst (v := 0) rfl (a_dec_at dc_Su_hear 22 rfl) ?_
        exact m_retI (a_dec_at dc_Su_hear 23 rfl) rfl rfl H
set_option maxRecDepth 20000 in
theorem t_Su_hear_111_62 {l : Launch} {h : Nat} (mi : TMi) (ml : TMl) (z : Nat) (v3 : Int32) {Q : Int32 → TMi → TMl → Nat → Prop} (H : (((mi 18 1) ≤ v3 → Q 1 mi ml z) ∧ (¬ (mi 18 1) ≤ v3 → CI l h m_Sc_becksIn [.ref 17, .ref 76, .int v3] mi ml z (fun x2 mi2 ml2 z2 => CI l h m_JI_bitCount [.int x2] mi2 ml2 z2 (fun x3 mi3 ml3 z3 => CI l h m_Sc_roomOf [.ref 17, .int v3] mi3 ml3 z3 (fun x4 mi4 ml4 z4 => ((x3 ≤ x4 → Ev l (h + 1) m_Su_hear 62 ([.ref 75, .ref 17, .retAddr 0, .int (v3 + 1), .retAddr 0, .retAddr 0], [], st mi4 ml4 z4) (qI Q)) ∧ (¬ x3 ≤ x4 → Q 0 mi4 ml4 z4)))))))) : Ev l (h + 1) m_Su_hear 62 ([.ref 75, .ref 17, .retAddr 0, .int v3, .retAddr 0, .retAddr 0], [], st mi ml z) (qI Q) := by
  refine ev_iload_n (i := 3) rfl rfl (a_dec_at dc_Su_hear 34 rfl) ?_
  refine ev_aload_n (i := 1) rfl rfl (a_dec_at dc_Su_hear 35 rfl) ?_
  refine m_getR (y := 18) fl_Su_35 rfl sh17 (mr_17_0 _) (by decide) (a_dec_at dc_Su_hear 36 rfl) ?_
  refine m_getI fl_Su_41 rfl sh18 (a_dec_at dc_Su_hear 37 rfl) ?_
  refine ev_icmp_ge (tgt := 101) (a_dec_at dc_Su_hear 38 rfl) (by decide) (fun b1 => ?_) (fun b1 => ?_)
  · have H := H.1 b1
    refine ev_iconst (v := 1) rfl (a_dec_at dc_Su_hear 53 rfl) ?_
    exact m_retI (a_dec_at dc_Su_hear 54 rfl) rfl rfl H
  · have H := H.2 b1
    refine ev_aload_n (i := 1) rfl rfl (a_dec_at dc_Su_hear 39 rfl) ?_
    refine ev_aload_n (i := 0) rfl rfl (a_dec_at dc_Su_hear 40 rfl) ?_
    refine m_getR (y := 76) fl_Su_9 rfl sh75 (mr_75_2 _) (by decide) (a_dec_at dc_Su_hear 41 rfl) ?_
    refine ev_iload_n (i := 3) rfl rfl (a_dec_at dc_Su_hear 42 rfl) ?_
    refine cV2I cs_Su_84 sh17 rfl (Nat.le_of_ble_eq_true rfl) (Nat.le_of_ble_eq_true rfl) (a_dec_at dc_Su_hear 43 rfl) ?_
    refine CI.mono (fun x2 mi2 ml2 z2 H => ?_) H
    refine cS1I cs_Su_88 rfl (Nat.le_of_ble_eq_true rfl) (Nat.le_of_ble_eq_true rfl) (a_dec_at dc_Su_hear 44 rfl) ?_
    refine CI.mono (fun x3 mi3 ml3 z3 H => ?_) H
    refine ev_aload_n (i := 1) rfl rfl (a_dec_at dc_Su_hear 45 rfl) ?_
    refine ev_iload_n (i := 3) rfl rfl (a_dec_at dc_Su_hear 46 rfl) ?_
    refine cV1I cs_Su_94 sh17 rfl (Nat.le_of_ble_eq_true rfl) (Nat.le_of_ble_eq_true rfl) (a_dec_at dc_Su_hear 47 rfl) ?_
    refine CI.mono (fun x4 mi4 ml4 z4 H => ?_) H
    refine ev_icmp_le (tgt := 95) (a_dec_at dc_Su_hear 48 rfl) (by decide) (fun b5 => ?_) (fun b5 => ?_)
    · have H := H.1 b5
      refine ev_iinc (v := 1) rfl rfl (by decide) rfl (a_dec_at dc_Su_hear 51 rfl) ?_
      refine ev_goto (tgt := 62) (a_dec_at dc_Su_hear 52 rfl) (by decide) ?_
      exact Ev.drop (L' := [.ref 75, .ref 17, .retAddr 0, .int (v3 + 1), .retAddr 0, .retAddr 0]) (And.intro rfl (And.intro rfl (And.intro rfl trivial))) H
    · have H := H.2 b5
      refine ev_iconst (v := 0) rfl (a_dec_at dc_Su_hear 49 rfl) ?_
      exact m_retI (a_dec_at dc_Su_hear 50 rfl) rfl rfl H
set_option maxRecDepth 20000 in
theorem t_Su_hear_113 {l : Launch} {h : Nat} (mi : TMi) (ml : TMl) (z : Nat) {Q : Int32 → TMi → TMl → Nat → Prop} (H : Ev l (h + 1) m_Su_hear 2 ([.ref 75, .ref 17, .ref 113, .int 0, .retAddr 0, .retAddr 0], [], st mi ml z) (qI Q)) : CI l (h + 1) m_Su_hear [.ref 75, .ref 17, .ref 113] mi ml z Q := by
  show Ev l (h + 1) m_Su_hear 0 ([.ref 75, .ref 17, .ref 113, .retAddr 0, .retAddr 0, .retAddr 0], [], st mi ml z) (qI Q)
  refine ev_iconst (v := 0) rfl (a_dec_at dc_Su_hear 0 rfl) ?_
  refine ev_istore_n (i := 3) rfl (by decide) rfl (a_dec_at dc_Su_hear 1 rfl) ?_
  exact Ev.drop (L' := [.ref 75, .ref 17, .ref 113, .int 0, .retAddr 0, .retAddr 0]) (And.intro rfl (And.intro rfl (And.intro rfl (And.intro rfl trivial)))) H
set_option maxRecDepth 20000 in
theorem t_Su_hear_113_2 {l : Launch} {h : Nat} (mi : TMi) (ml : TMl) (z : Nat) (v3 : Int32) {Q : Int32 → TMi → TMl → Nat → Prop} (H : (((mi 18 0) ≤ v3 → Ev l (h + 1) m_Su_hear 62 ([.ref 75, .ref 17, .retAddr 0, .int 0, .retAddr 0, .retAddr 0], [], st mi ml z) (qI Q)) ∧ (¬ (mi 18 0) ≤ v3 → CLg l h m_Tr_at [.ref 113, .int v3] mi ml z (fun x2 mi2 ml2 z2 => (((lg_cmp x2 (-1)) < 0 → Q 0 mi2 ml2 z2) ∧ (¬ (lg_cmp x2 (-1)) < 0 → (((lg_cmp x2 ((mi2 18 1).toInt64)) < 0 → (vp_in v3 6) ∧ Ev l (h + 1) m_Su_hear 2 ([.ref 75, .ref 17, .ref 113, .int (v3 + 1), .retAddr 0, .retAddr 0], [], st (up mi2 76 v3.toNatClampNeg x2.toInt32) ml2 z2) (qI Q)) ∧ (¬ (lg_cmp x2 ((mi2 18 1).toInt64)) < 0 → Q 0 mi2 ml2 z2)))))))) : Ev l (h + 1) m_Su_hear 2 ([.ref 75, .ref 17, .ref 113, .int v3, .retAddr 0, .retAddr 0], [], st mi ml z) (qI Q) := by
  refine ev_iload_n (i := 3) rfl rfl (a_dec_at dc_Su_hear 2 rfl) ?_
  refine ev_aload_n (i := 1) rfl rfl (a_dec_at dc_Su_hear 3 rfl) ?_
  refine m_getR (y := 18) fl_Su_35 rfl sh17 (mr_17_0 _) (by decide) (a_dec_at dc_Su_hear 4 rfl) ?_
  refine m_getI fl_Su_73 rfl sh18 (a_dec_at dc_Su_hear 5 rfl) ?_
  refine ev_icmp_ge (tgt := 60) (a_dec_at dc_Su_hear 6 rfl) (by decide) (fun b1 => ?_) (fun b1 => ?_)
  · have H := H.1 b1
    refine ev_iconst (v := 0) rfl (a_dec_at dc_Su_hear 32 rfl) ?_
    refine ev_istore_n (i := 3) rfl (by decide) rfl (a_dec_at dc_Su_hear 33 rfl) ?_
    exact Ev.drop (L' := [.ref 75, .ref 17, .retAddr 0, .int 0, .retAddr 0, .retAddr 0]) (And.intro rfl (And.intro rfl (And.intro rfl trivial))) H
  · have H := H.2 b1
    refine ev_aload_n (i := 2) rfl rfl (a_dec_at dc_Su_hear 7 rfl) ?_
    refine ev_iload_n (i := 3) rfl rfl (a_dec_at dc_Su_hear 8 rfl) ?_
    refine cV1L cs_Su_76 sh113 rfl (Nat.le_of_ble_eq_true rfl) (Nat.le_of_ble_eq_true rfl) (a_dec_at dc_Su_hear 9 rfl) ?_
    refine CLg.mono (fun x2 mi2 ml2 z2 H => ?_) H
    refine ev_lstore (by decide) rfl (a_dec_at dc_Su_hear 10 rfl) ?_
    refine ev_lload rfl (a_dec_at dc_Su_hear 11 rfl) ?_
    refine ev_ldc2 kc_Su_82 (a_dec_at dc_Su_hear 12 rfl) ?_
    refine ev_lcmp (a_dec_at dc_Su_hear 13 rfl) ?_
    refine ev_if_lt (tgt := 43) (a_dec_at dc_Su_hear 14 rfl) (by decide) (fun b3 => ?_) (fun b3 => ?_)
    · have H := H.1 b3
      refine ev_iconst (v := 0) rfl (a_dec_at dc_Su_hear 22 rfl) ?_
      exact m_retI (a_dec_at dc_Su_hear 23 rfl) rfl rfl H
    · have H := H.2 b3
      refine ev_lload rfl (a_dec_at dc_Su_hear 15 rfl) ?_
      refine ev_aload_n (i := 1) rfl rfl (a_dec_at dc_Su_hear 16 rfl) ?_
      refine m_getR (y := 18) fl_Su_35 rfl sh17 (mr_17_0 _) (by decide) (a_dec_at dc_Su_hear 17 rfl) ?_
      refine m_getI fl_Su_41 rfl sh18 (a_dec_at dc_Su_hear 18 rfl) ?_
      refine ev_i2l (a_dec_at dc_Su_hear 19 rfl) ?_
      refine ev_lcmp (a_dec_at dc_Su_hear 20 rfl) ?_
      refine ev_if_lt (tgt := 45) (a_dec_at dc_Su_hear 21 rfl) (by decide) (fun b4 => ?_) (fun b4 => ?_)
      · have H := H.1 b4
        refine ev_aload_n (i := 0) rfl rfl (a_dec_at dc_Su_hear 24 rfl) ?_
        refine m_getR (y := 76) fl_Su_9 rfl sh75 (mr_75_2 _) (by decide) (a_dec_at dc_Su_hear 25 rfl) ?_
        refine ev_iload_n (i := 3) rfl rfl (a_dec_at dc_Su_hear 26 rfl) ?_
        refine ev_lload rfl (a_dec_at dc_Su_hear 27 rfl) ?_
        refine ev_l2i (a_dec_at dc_Su_hear 28 rfl) ?_
        obtain ⟨c5, H⟩ := H
        refine w_iast (k := v3.toNatClampNeg) sh76 c5 rfl (a_dec_at dc_Su_hear 29 rfl) ?_
        refine ev_iinc (v := 1) rfl rfl (by decide) rfl (a_dec_at dc_Su_hear 30 rfl) ?_
        refine ev_goto (tgt := 2) (a_dec_at dc_Su_hear 31 rfl) (by decide) ?_
        exact Ev.drop (L' := [.ref 75, .ref 17, .ref 113, .int (v3 + 1), .retAddr 0, .retAddr 0]) (And.intro rfl (And.intro rfl (And.intro rfl (And.intro rfl trivial)))) H
      · have H := H.2 b4
        refine ev_iconst (v := 0) rfl (a_dec_at dc_Su_hear 22 rfl) ?_
        exact m_retI (a_dec_at dc_Su_hear 23 rfl) rfl rfl H
set_option maxRecDepth 20000 in
theorem t_Su_hear_113_62 {l : Launch} {h : Nat} (mi : TMi) (ml : TMl) (z : Nat) (v3 : Int32) {Q : Int32 → TMi → TMl → Nat → Prop} (H : (((mi 18 1) ≤ v3 → Q 1 mi ml z) ∧ (¬ (mi 18 1) ≤ v3 → CI l h m_Sc_becksIn [.ref 17, .ref 76, .int v3] mi ml z (fun x2 mi2 ml2 z2 => CI l h m_JI_bitCount [.int x2] mi2 ml2 z2 (fun x3 mi3 ml3 z3 => CI l h m_Sc_roomOf [.ref 17, .int v3] mi3 ml3 z3 (fun x4 mi4 ml4 z4 => ((x3 ≤ x4 → Ev l (h + 1) m_Su_hear 62 ([.ref 75, .ref 17, .retAddr 0, .int (v3 + 1), .retAddr 0, .retAddr 0], [], st mi4 ml4 z4) (qI Q)) ∧ (¬ x3 ≤ x4 → Q 0 mi4 ml4 z4)))))))) : Ev l (h + 1) m_Su_hear 62 ([.ref 75, .ref 17, .retAddr 0, .int v3, .retAddr 0, .retAddr 0], [], st mi ml z) (qI Q) := by
  refine ev_iload_n (i := 3) rfl rfl (a_dec_at dc_Su_hear 34 rfl) ?_
  refine ev_aload_n (i := 1) rfl rfl (a_dec_at dc_Su_hear 35 rfl) ?_
  refine m_getR (y := 18) fl_Su_35 rfl sh17 (mr_17_0 _) (by decide) (a_dec_at dc_Su_hear 36 rfl) ?_
  refine m_getI fl_Su_41 rfl sh18 (a_dec_at dc_Su_hear 37 rfl) ?_
  refine ev_icmp_ge (tgt := 101) (a_dec_at dc_Su_hear 38 rfl) (by decide) (fun b1 => ?_) (fun b1 => ?_)
  · have H := H.1 b1
    refine ev_iconst (v := 1) rfl (a_dec_at dc_Su_hear 53 rfl) ?_
    exact m_retI (a_dec_at dc_Su_hear 54 rfl) rfl rfl H
  · have H := H.2 b1
    refine ev_aload_n (i := 1) rfl rfl (a_dec_at dc_Su_hear 39 rfl) ?_
    refine ev_aload_n (i := 0) rfl rfl (a_dec_at dc_Su_hear 40 rfl) ?_
    refine m_getR (y := 76) fl_Su_9 rfl sh75 (mr_75_2 _) (by decide) (a_dec_at dc_Su_hear 41 rfl) ?_
    refine ev_iload_n (i := 3) rfl rfl (a_dec_at dc_Su_hear 42 rfl) ?_
    refine cV2I cs_Su_84 sh17 rfl (Nat.le_of_ble_eq_true rfl) (Nat.le_of_ble_eq_true rfl) (a_dec_at dc_Su_hear 43 rfl) ?_
    refine CI.mono (fun x2 mi2 ml2 z2 H => ?_) H
    refine cS1I cs_Su_88 rfl (Nat.le_of_ble_eq_true rfl) (Nat.le_of_ble_eq_true rfl) (a_dec_at dc_Su_hear 44 rfl) ?_
    refine CI.mono (fun x3 mi3 ml3 z3 H => ?_) H
    refine ev_aload_n (i := 1) rfl rfl (a_dec_at dc_Su_hear 45 rfl) ?_
    refine ev_iload_n (i := 3) rfl rfl (a_dec_at dc_Su_hear 46 rfl) ?_
    refine cV1I cs_Su_94 sh17 rfl (Nat.le_of_ble_eq_true rfl) (Nat.le_of_ble_eq_true rfl) (a_dec_at dc_Su_hear 47 rfl) ?_
    refine CI.mono (fun x4 mi4 ml4 z4 H => ?_) H
    refine ev_icmp_le (tgt := 95) (a_dec_at dc_Su_hear 48 rfl) (by decide) (fun b5 => ?_) (fun b5 => ?_)
    · have H := H.1 b5
      refine ev_iinc (v := 1) rfl rfl (by decide) rfl (a_dec_at dc_Su_hear 51 rfl) ?_
      refine ev_goto (tgt := 62) (a_dec_at dc_Su_hear 52 rfl) (by decide) ?_
      exact Ev.drop (L' := [.ref 75, .ref 17, .retAddr 0, .int (v3 + 1), .retAddr 0, .retAddr 0]) (And.intro rfl (And.intro rfl (And.intro rfl trivial))) H
    · have H := H.2 b5
      refine ev_iconst (v := 0) rfl (a_dec_at dc_Su_hear 49 rfl) ?_
      exact m_retI (a_dec_at dc_Su_hear 50 rfl) rfl rfl H
set_option maxRecDepth 20000 in
theorem t_Su_hear_115 {l : Launch} {h : Nat} (mi : TMi) (ml : TMl) (z : Nat) {Q : Int32 → TMi → TMl → Nat → Prop} (H : Ev l (h + 1) m_Su_hear 2 ([.ref 75, .ref 17, .ref 115, .int 0, .retAddr 0, .retAddr 0], [], st mi ml z) (qI Q)) : CI l (h + 1) m_Su_hear [.ref 75, .ref 17, .ref 115] mi ml z Q := by
  show Ev l (h + 1) m_Su_hear 0 ([.ref 75, .ref 17, .ref 115, .retAddr 0, .retAddr 0, .retAddr 0], [], st mi ml z) (qI Q)
  refine ev_iconst (v := 0) rfl (a_dec_at dc_Su_hear 0 rfl) ?_
  refine ev_istore_n (i := 3) rfl (by decide) rfl (a_dec_at dc_Su_hear 1 rfl) ?_
  exact Ev.drop (L' := [.ref 75, .ref 17, .ref 115, .int 0, .retAddr 0, .retAddr 0]) (And.intro rfl (And.intro rfl (And.intro rfl (And.intro rfl trivial)))) H
set_option maxRecDepth 20000 in
theorem t_Su_hear_115_2 {l : Launch} {h : Nat} (mi : TMi) (ml : TMl) (z : Nat) (v3 : Int32) {Q : Int32 → TMi → TMl → Nat → Prop} (H : (((mi 18 0) ≤ v3 → Ev l (h + 1) m_Su_hear 62 ([.ref 75, .ref 17, .retAddr 0, .int 0, .retAddr 0, .retAddr 0], [], st mi ml z) (qI Q)) ∧ (¬ (mi 18 0) ≤ v3 → CLg l h m_Tr_at [.ref 115, .int v3] mi ml z (fun x2 mi2 ml2 z2 => (((lg_cmp x2 (-1)) < 0 → Q 0 mi2 ml2 z2) ∧ (¬ (lg_cmp x2 (-1)) < 0 → (((lg_cmp x2 ((mi2 18 1).toInt64)) < 0 → (vp_in v3 6) ∧ Ev l (h + 1) m_Su_hear 2 ([.ref 75, .ref 17, .ref 115, .int (v3 + 1), .retAddr 0, .retAddr 0], [], st (up mi2 76 v3.toNatClampNeg x2.toInt32) ml2 z2) (qI Q)) ∧ (¬ (lg_cmp x2 ((mi2 18 1).toInt64)) < 0 → Q 0 mi2 ml2 z2)))))))) : Ev l (h + 1) m_Su_hear 2 ([.ref 75, .ref 17, .ref 115, .int v3, .retAddr 0, .retAddr 0], [], st mi ml z) (qI Q) := by
  refine ev_iload_n (i := 3) rfl rfl (a_dec_at dc_Su_hear 2 rfl) ?_
  refine ev_aload_n (i := 1) rfl rfl (a_dec_at dc_Su_hear 3 rfl) ?_
  refine m_getR (y := 18) fl_Su_35 rfl sh17 (mr_17_0 _) (by decide) (a_dec_at dc_Su_hear 4 rfl) ?_
  refine m_getI fl_Su_73 rfl sh18 (a_dec_at dc_Su_hear 5 rfl) ?_
  refine ev_icmp_ge (tgt := 60) (a_dec_at dc_Su_hear 6 rfl) (by decide) (fun b1 => ?_) (fun b1 => ?_)
  · have H := H.1 b1
    refine ev_iconst (v := 0) rfl (a_dec_at dc_Su_hear 32 rfl) ?_
    refine ev_istore_n (i := 3) rfl (by decide) rfl (a_dec_at dc_Su_hear 33 rfl) ?_
    exact Ev.drop (L' := [.ref 75, .ref 17, .retAddr 0, .int 0, .retAddr 0, .retAddr 0]) (And.intro rfl (And.intro rfl (And.intro rfl trivial))) H
  · have H := H.2 b1
    refine ev_aload_n (i := 2) rfl rfl (a_dec_at dc_Su_hear 7 rfl) ?_
    refine ev_iload_n (i := 3) rfl rfl (a_dec_at dc_Su_hear 8 rfl) ?_
    refine cV1L cs_Su_76 sh115 rfl (Nat.le_of_ble_eq_true rfl) (Nat.le_of_ble_eq_true rfl) (a_dec_at dc_Su_hear 9 rfl) ?_
    refine CLg.mono (fun x2 mi2 ml2 z2 H => ?_) H
    refine ev_lstore (by decide) rfl (a_dec_at dc_Su_hear 10 rfl) ?_
    refine ev_lload rfl (a_dec_at dc_Su_hear 11 rfl) ?_
    refine ev_ldc2 kc_Su_82 (a_dec_at dc_Su_hear 12 rfl) ?_
    refine ev_lcmp (a_dec_at dc_Su_hear 13 rfl) ?_
    refine ev_if_lt (tgt := 43) (a_dec_at dc_Su_hear 14 rfl) (by decide) (fun b3 => ?_) (fun b3 => ?_)
    · have H := H.1 b3
      refine ev_iconst (v := 0) rfl (a_dec_at dc_Su_hear 22 rfl) ?_
      exact m_retI (a_dec_at dc_Su_hear 23 rfl) rfl rfl H
    · have H := H.2 b3
      refine ev_lload rfl (a_dec_at dc_Su_hear 15 rfl) ?_
      refine ev_aload_n (i := 1) rfl rfl (a_dec_at dc_Su_hear 16 rfl) ?_
      refine m_getR (y := 18) fl_Su_35 rfl sh17 (mr_17_0 _) (by decide) (a_dec_at dc_Su_hear 17 rfl) ?_
      refine m_getI fl_Su_41 rfl sh18 (a_dec_at dc_Su_hear 18 rfl) ?_
      refine ev_i2l (a_dec_at dc_Su_hear 19 rfl) ?_
      refine ev_lcmp (a_dec_at dc_Su_hear 20 rfl) ?_
      refine ev_if_lt (tgt := 45) (a_dec_at dc_Su_hear 21 rfl) (by decide) (fun b4 => ?_) (fun b4 => ?_)
      · have H := H.1 b4
        refine ev_aload_n (i := 0) rfl rfl (a_dec_at dc_Su_hear 24 rfl) ?_
        refine m_getR (y := 76) fl_Su_9 rfl sh75 (mr_75_2 _) (by decide) (a_dec_at dc_Su_hear 25 rfl) ?_
        refine ev_iload_n (i := 3) rfl rfl (a_dec_at dc_Su_hear 26 rfl) ?_
        refine ev_lload rfl (a_dec_at dc_Su_hear 27 rfl) ?_
        refine ev_l2i (a_dec_at dc_Su_hear 28 rfl) ?_
        obtain ⟨c5, H⟩ := H
        refine w_iast (k := v3.toNatClampNeg) sh76 c5 rfl (a_dec_at dc_Su_hear 29 rfl) ?_
        refine ev_iinc (v := 1) rfl rfl (by decide) rfl (a_dec_at dc_Su_hear 30 rfl) ?_
        refine ev_goto (tgt := 2) (a_dec_at dc_Su_hear 31 rfl) (by decide) ?_
        exact Ev.drop (L' := [.ref 75, .ref 17, .ref 115, .int (v3 + 1), .retAddr 0, .retAddr 0]) (And.intro rfl (And.intro rfl (And.intro rfl (And.intro rfl trivial)))) H
      · have H := H.2 b4
        refine ev_iconst (v := 0) rfl (a_dec_at dc_Su_hear 22 rfl) ?_
        exact m_retI (a_dec_at dc_Su_hear 23 rfl) rfl rfl H
set_option maxRecDepth 20000 in
theorem t_Su_hear_115_62 {l : Launch} {h : Nat} (mi : TMi) (ml : TMl) (z : Nat) (v3 : Int32) {Q : Int32 → TMi → TMl → Nat → Prop} (H : (((mi 18 1) ≤ v3 → Q 1 mi ml z) ∧ (¬ (mi 18 1) ≤ v3 → CI l h m_Sc_becksIn [.ref 17, .ref 76, .int v3] mi ml z (fun x2 mi2 ml2 z2 => CI l h m_JI_bitCount [.int x2] mi2 ml2 z2 (fun x3 mi3 ml3 z3 => CI l h m_Sc_roomOf [.ref 17, .int v3] mi3 ml3 z3 (fun x4 mi4 ml4 z4 => ((x3 ≤ x4 → Ev l (h + 1) m_Su_hear 62 ([.ref 75, .ref 17, .retAddr 0, .int (v3 + 1), .retAddr 0, .retAddr 0], [], st mi4 ml4 z4) (qI Q)) ∧ (¬ x3 ≤ x4 → Q 0 mi4 ml4 z4)))))))) : Ev l (h + 1) m_Su_hear 62 ([.ref 75, .ref 17, .retAddr 0, .int v3, .retAddr 0, .retAddr 0], [], st mi ml z) (qI Q) := by
  refine ev_iload_n (i := 3) rfl rfl (a_dec_at dc_Su_hear 34 rfl) ?_
  refine ev_aload_n (i := 1) rfl rfl (a_dec_at dc_Su_hear 35 rfl) ?_
  refine m_getR (y := 18) fl_Su_35 rfl sh17 (mr_17_0 _) (by decide) (a_dec_at dc_Su_hear 36 rfl) ?_
  refine m_getI fl_Su_41 rfl sh18 (a_dec_at dc_Su_hear 37 rfl) ?_
  refine ev_icmp_ge (tgt := 101) (a_dec_at dc_Su_hear 38 rfl) (by decide) (fun b1 => ?_) (fun b1 => ?_)
  · have H := H.1 b1
    refine ev_iconst (v := 1) rfl (a_dec_at dc_Su_hear 53 rfl) ?_
    exact m_retI (a_dec_at dc_Su_hear 54 rfl) rfl rfl H
  · have H := H.2 b1
    refine ev_aload_n (i := 1) rfl rfl (a_dec_at dc_Su_hear 39 rfl) ?_
    refine ev_aload_n (i := 0) rfl rfl (a_dec_at dc_Su_hear 40 rfl) ?_
    refine m_getR (y := 76) fl_Su_9 rfl sh75 (mr_75_2 _) (by decide) (a_dec_at dc_Su_hear 41 rfl) ?_
    refine ev_iload_n (i := 3) rfl rfl (a_dec_at dc_Su_hear 42 rfl) ?_
    refine cV2I cs_Su_84 sh17 rfl (Nat.le_of_ble_eq_true rfl) (Nat.le_of_ble_eq_true rfl) (a_dec_at dc_Su_hear 43 rfl) ?_
    refine CI.mono (fun x2 mi2 ml2 z2 H => ?_) H
    refine cS1I cs_Su_88 rfl (Nat.le_of_ble_eq_true rfl) (Nat.le_of_ble_eq_true rfl) (a_dec_at dc_Su_hear 44 rfl) ?_
    refine CI.mono (fun x3 mi3 ml3 z3 H => ?_) H
    refine ev_aload_n (i := 1) rfl rfl (a_dec_at dc_Su_hear 45 rfl) ?_
    refine ev_iload_n (i := 3) rfl rfl (a_dec_at dc_Su_hear 46 rfl) ?_
    refine cV1I cs_Su_94 sh17 rfl (Nat.le_of_ble_eq_true rfl) (Nat.le_of_ble_eq_true rfl) (a_dec_at dc_Su_hear 47 rfl) ?_
    refine CI.mono (fun x4 mi4 ml4 z4 H => ?_) H
    refine ev_icmp_le (tgt := 95) (a_dec_at dc_Su_hear 48 rfl) (by decide) (fun b5 => ?_) (fun b5 => ?_)
    · have H := H.1 b5
      refine ev_iinc (v := 1) rfl rfl (by decide) rfl (a_dec_at dc_Su_hear 51 rfl) ?_
      refine ev_goto (tgt := 62) (a_dec_at dc_Su_hear 52 rfl) (by decide) ?_
      exact Ev.drop (L' := [.ref 75, .ref 17, .retAddr 0, .int (v3 + 1), .retAddr 0, .retAddr 0]) (And.intro rfl (And.intro rfl (And.intro rfl trivial))) H
    · have H := H.2 b5
      refine ev_iconst (v := 0) rfl (a_dec_at dc_Su_hear 49 rfl) ?_
      exact m_retI (a_dec_at dc_Su_hear 50 rfl) rfl rfl H
set_option maxRecDepth 20000 in
theorem t_Su_hear_117 {l : Launch} {h : Nat} (mi : TMi) (ml : TMl) (z : Nat) {Q : Int32 → TMi → TMl → Nat → Prop} (H : Ev l (h + 1) m_Su_hear 2 ([.ref 75, .ref 17, .ref 117, .int 0, .retAddr 0, .retAddr 0], [], st mi ml z) (qI Q)) : CI l (h + 1) m_Su_hear [.ref 75, .ref 17, .ref 117] mi ml z Q := by
  show Ev l (h + 1) m_Su_hear 0 ([.ref 75, .ref 17, .ref 117, .retAddr 0, .retAddr 0, .retAddr 0], [], st mi ml z) (qI Q)
  refine ev_iconst (v := 0) rfl (a_dec_at dc_Su_hear 0 rfl) ?_
  refine ev_istore_n (i := 3) rfl (by decide) rfl (a_dec_at dc_Su_hear 1 rfl) ?_
  exact Ev.drop (L' := [.ref 75, .ref 17, .ref 117, .int 0, .retAddr 0, .retAddr 0]) (And.intro rfl (And.intro rfl (And.intro rfl (And.intro rfl trivial)))) H
set_option maxRecDepth 20000 in
theorem t_Su_hear_117_2 {l : Launch} {h : Nat} (mi : TMi) (ml : TMl) (z : Nat) (v3 : Int32) {Q : Int32 → TMi → TMl → Nat → Prop} (H : (((mi 18 0) ≤ v3 → Ev l (h + 1) m_Su_hear 62 ([.ref 75, .ref 17, .retAddr 0, .int 0, .retAddr 0, .retAddr 0], [], st mi ml z) (qI Q)) ∧ (¬ (mi 18 0) ≤ v3 → CLg l h m_Tr_at [.ref 117, .int v3] mi ml z (fun x2 mi2 ml2 z2 => (((lg_cmp x2 (-1)) < 0 → Q 0 mi2 ml2 z2) ∧ (¬ (lg_cmp x2 (-1)) < 0 → (((lg_cmp x2 ((mi2 18 1).toInt64)) < 0 → (vp_in v3 6) ∧ Ev l (h + 1) m_Su_hear 2 ([.ref 75, .ref 17, .ref 117, .int (v3 + 1), .retAddr 0, .retAddr 0], [], st (up mi2 76 v3.toNatClampNeg x2.toInt32) ml2 z2) (qI Q)) ∧ (¬ (lg_cmp x2 ((mi2 18 1).toInt64)) < 0 → Q 0 mi2 ml2 z2)))))))) : Ev l (h + 1) m_Su_hear 2 ([.ref 75, .ref 17, .ref 117, .int v3, .retAddr 0, .retAddr 0], [], st mi ml z) (qI Q) := by
  refine ev_iload_n (i := 3) rfl rfl (a_dec_at dc_Su_hear 2 rfl) ?_
  refine ev_aload_n (i := 1) rfl rfl (a_dec_at dc_Su_hear 3 rfl) ?_
  refine m_getR (y := 18) fl_Su_35 rfl sh17 (mr_17_0 _) (by decide) (a_dec_at dc_Su_hear 4 rfl) ?_
  refine m_getI fl_Su_73 rfl sh18 (a_dec_at dc_Su_hear 5 rfl) ?_
  refine ev_icmp_ge (tgt := 60) (a_dec_at dc_Su_hear 6 rfl) (by decide) (fun b1 => ?_) (fun b1 => ?_)
  · have H := H.1 b1
    refine ev_iconst (v := 0) rfl (a_dec_at dc_Su_hear 32 rfl) ?_
    refine ev_istore_n (i := 3) rfl (by decide) rfl (a_dec_at dc_Su_hear 33 rfl) ?_
    exact Ev.drop (L' := [.ref 75, .ref 17, .retAddr 0, .int 0, .retAddr 0, .retAddr 0]) (And.intro rfl (And.intro rfl (And.intro rfl trivial))) H
  · have H := H.2 b1
    refine ev_aload_n (i := 2) rfl rfl (a_dec_at dc_Su_hear 7 rfl) ?_
    refine ev_iload_n (i := 3) rfl rfl (a_dec_at dc_Su_hear 8 rfl) ?_
    refine cV1L cs_Su_76 sh117 rfl (Nat.le_of_ble_eq_true rfl) (Nat.le_of_ble_eq_true rfl) (a_dec_at dc_Su_hear 9 rfl) ?_
    refine CLg.mono (fun x2 mi2 ml2 z2 H => ?_) H
    refine ev_lstore (by decide) rfl (a_dec_at dc_Su_hear 10 rfl) ?_
    refine ev_lload rfl (a_dec_at dc_Su_hear 11 rfl) ?_
    refine ev_ldc2 kc_Su_82 (a_dec_at dc_Su_hear 12 rfl) ?_
    refine ev_lcmp (a_dec_at dc_Su_hear 13 rfl) ?_
    refine ev_if_lt (tgt := 43) (a_dec_at dc_Su_hear 14 rfl) (by decide) (fun b3 => ?_) (fun b3 => ?_)
    · have H := H.1 b3
      refine ev_iconst (v := 0) rfl (a_dec_at dc_Su_hear 22 rfl) ?_
      exact m_retI (a_dec_at dc_Su_hear 23 rfl) rfl rfl H
    · have H := H.2 b3
      refine ev_lload rfl (a_dec_at dc_Su_hear 15 rfl) ?_
      refine ev_aload_n (i := 1) rfl rfl (a_dec_at dc_Su_hear 16 rfl) ?_
      refine m_getR (y := 18) fl_Su_35 rfl sh17 (mr_17_0 _) (by decide) (a_dec_at dc_Su_hear 17 rfl) ?_
      refine m_getI fl_Su_41 rfl sh18 (a_dec_at dc_Su_hear 18 rfl) ?_
      refine ev_i2l (a_dec_at dc_Su_hear 19 rfl) ?_
      refine ev_lcmp (a_dec_at dc_Su_hear 20 rfl) ?_
      refine ev_if_lt (tgt := 45) (a_dec_at dc_Su_hear 21 rfl) (by decide) (fun b4 => ?_) (fun b4 => ?_)
      · have H := H.1 b4
        refine ev_aload_n (i := 0) rfl rfl (a_dec_at dc_Su_hear 24 rfl) ?_
        refine m_getR (y := 76) fl_Su_9 rfl sh75 (mr_75_2 _) (by decide) (a_dec_at dc_Su_hear 25 rfl) ?_
        refine ev_iload_n (i := 3) rfl rfl (a_dec_at dc_Su_hear 26 rfl) ?_
        refine ev_lload rfl (a_dec_at dc_Su_hear 27 rfl) ?_
        refine ev_l2i (a_dec_at dc_Su_hear 28 rfl) ?_
        obtain ⟨c5, H⟩ := H
        refine w_iast (k := v3.toNatClampNeg) sh76 c5 rfl (a_dec_at dc_Su_hear 29 rfl) ?_
        refine ev_iinc (v := 1) rfl rfl (by decide) rfl (a_dec_at dc_Su_hear 30 rfl) ?_
        refine ev_goto (tgt := 2) (a_dec_at dc_Su_hear 31 rfl) (by decide) ?_
        exact Ev.drop (L' := [.ref 75, .ref 17, .ref 117, .int (v3 + 1), .retAddr 0, .retAddr 0]) (And.intro rfl (And.intro rfl (And.intro rfl (And.intro rfl trivial)))) H
      · have H := H.2 b4
        refine ev_iconst (v := 0) rfl (a_dec_at dc_Su_hear 22 rfl) ?_
        exact m_retI (a_dec_at dc_Su_hear 23 rfl) rfl rfl H
set_option maxRecDepth 20000 in
theorem t_Su_hear_117_62 {l : Launch} {h : Nat} (mi : TMi) (ml : TMl) (z : Nat) (v3 : Int32) {Q : Int32 → TMi → TMl → Nat → Prop} (H : (((mi 18 1) ≤ v3 → Q 1 mi ml z) ∧ (¬ (mi 18 1) ≤ v3 → CI l h m_Sc_becksIn [.ref 17, .ref 76, .int v3] mi ml z (fun x2 mi2 ml2 z2 => CI l h m_JI_bitCount [.int x2] mi2 ml2 z2 (fun x3 mi3 ml3 z3 => CI l h m_Sc_roomOf [.ref 17, .int v3] mi3 ml3 z3 (fun x4 mi4 ml4 z4 => ((x3 ≤ x4 → Ev l (h + 1) m_Su_hear 62 ([.ref 75, .ref 17, .retAddr 0, .int (v3 + 1), .retAddr 0, .retAddr 0], [], st mi4 ml4 z4) (qI Q)) ∧ (¬ x3 ≤ x4 → Q 0 mi4 ml4 z4)))))))) : Ev l (h + 1) m_Su_hear 62 ([.ref 75, .ref 17, .retAddr 0, .int v3, .retAddr 0, .retAddr 0], [], st mi ml z) (qI Q) := by
  refine ev_iload_n (i := 3) rfl rfl (a_dec_at dc_Su_hear 34 rfl) ?_
  refine ev_aload_n (i := 1) rfl rfl (a_dec_at dc_Su_hear 35 rfl) ?_
  refine m_getR (y := 18) fl_Su_35 rfl sh17 (mr_17_0 _) (by decide) (a_dec_at dc_Su_hear 36 rfl) ?_
  refine m_getI fl_Su_41 rfl sh18 (a_dec_at dc_Su_hear 37 rfl) ?_
  refine ev_icmp_ge (tgt := 101) (a_dec_at dc_Su_hear 38 rfl) (by decide) (fun b1 => ?_) (fun b1 => ?_)
  · have H := H.1 b1
    refine ev_iconst (v := 1) rfl (a_dec_at dc_Su_hear 53 rfl) ?_
    exact m_retI (a_dec_at dc_Su_hear 54 rfl) rfl rfl H
  · have H := H.2 b1
    refine ev_aload_n (i := 1) rfl rfl (a_dec_at dc_Su_hear 39 rfl) ?_
    refine ev_aload_n (i := 0) rfl rfl (a_dec_at dc_Su_hear 40 rfl) ?_
    refine m_getR (y := 76) fl_Su_9 rfl sh75 (mr_75_2 _) (by decide) (a_dec_at dc_Su_hear 41 rfl) ?_
    refine ev_iload_n (i := 3) rfl rfl (a_dec_at dc_Su_hear 42 rfl) ?_
    refine cV2I cs_Su_84 sh17 rfl (Nat.le_of_ble_eq_true rfl) (Nat.le_of_ble_eq_true rfl) (a_dec_at dc_Su_hear 43 rfl) ?_
    refine CI.mono (fun x2 mi2 ml2 z2 H => ?_) H
    refine cS1I cs_Su_88 rfl (Nat.le_of_ble_eq_true rfl) (Nat.le_of_ble_eq_true rfl) (a_dec_at dc_Su_hear 44 rfl) ?_
    refine CI.mono (fun x3 mi3 ml3 z3 H => ?_) H
    refine ev_aload_n (i := 1) rfl rfl (a_dec_at dc_Su_hear 45 rfl) ?_
    refine ev_iload_n (i := 3) rfl rfl (a_dec_at dc_Su_hear 46 rfl) ?_
    refine cV1I cs_Su_94 sh17 rfl (Nat.le_of_ble_eq_true rfl) (Nat.le_of_ble_eq_true rfl) (a_dec_at dc_Su_hear 47 rfl) ?_
    refine CI.mono (fun x4 mi4 ml4 z4 H => ?_) H
    refine ev_icmp_le (tgt := 95) (a_dec_at dc_Su_hear 48 rfl) (by decide) (fun b5 => ?_) (fun b5 => ?_)
    · have H := H.1 b5
      refine ev_iinc (v := 1) rfl rfl (by decide) rfl (a_dec_at dc_Su_hear 51 rfl) ?_
      refine ev_goto (tgt := 62) (a_dec_at dc_Su_hear 52 rfl) (by decide) ?_
      exact Ev.drop (L' := [.ref 75, .ref 17, .retAddr 0, .int (v3 + 1), .retAddr 0, .retAddr 0]) (And.intro rfl (And.intro rfl (And.intro rfl trivial))) H
    · have H := H.2 b5
      refine ev_iconst (v := 0) rfl (a_dec_at dc_Su_hear 49 rfl) ?_
      exact m_retI (a_dec_at dc_Su_hear 50 rfl) rfl rfl H
set_option maxRecDepth 20000 in
theorem t_Su_marksThatHold {l : Launch} {h : Nat} (mi : TMi) (ml : TMl) (z : Nat) (a2 : Int32) {Q : Int32 → TMi → TMl → Nat → Prop} (H : CV l h m_Sc_copyFrom [.ref 33, .ref 17] mi ml z (fun mi1 ml1 z1 => CV l h m_JA_fill [.ref 77, .int 0] (up mi1 75 3 0) ml1 z1 (fun mi2 ml2 z2 => Ev l (h + 1) m_Su_marksThatHold 23 ([.ref 75, .retAddr 0, .int a2, .int 0], [], st mi2 ml2 z2) (qI Q)))) : CI l (h + 1) m_Su_marksThatHold [.ref 75, .ref 17, .int a2] mi ml z Q := by
  show Ev l (h + 1) m_Su_marksThatHold 0 ([.ref 75, .ref 17, .int a2, .retAddr 0], [], st mi ml z) (qI Q)
  refine ev_aload_n (i := 0) rfl rfl (a_dec_at dc_Su_marksThatHold 0 rfl) ?_
  refine m_getR (y := 33) fl_Su_18 rfl sh75 (mr_75_0 _) (by decide) (a_dec_at dc_Su_marksThatHold 1 rfl) ?_
  refine ev_aload_n (i := 1) rfl rfl (a_dec_at dc_Su_marksThatHold 2 rfl) ?_
  refine cV1V cs_Su_59 sh33 rfl (Nat.le_of_ble_eq_true rfl) (Nat.le_of_ble_eq_true rfl) (a_dec_at dc_Su_marksThatHold 3 rfl) ?_
  refine CV.mono (fun mi1 ml1 z1 H => ?_) H
  refine ev_aload_n (i := 0) rfl rfl (a_dec_at dc_Su_marksThatHold 4 rfl) ?_
  refine ev_iconst (v := 0) rfl (a_dec_at dc_Su_marksThatHold 5 rfl) ?_
  refine m_putI fl_Su_97 rfl (fun _ _ _ h => by cases h; exact Or.inl rfl) sh75 (a_dec_at dc_Su_marksThatHold 6 rfl) ?_
  refine ev_aload_n (i := 0) rfl rfl (a_dec_at dc_Su_marksThatHold 7 rfl) ?_
  refine m_getR (y := 77) fl_Su_15 rfl sh75 (mr_75_4 _) (by decide) (a_dec_at dc_Su_marksThatHold 8 rfl) ?_
  refine ev_iconst (v := 0) rfl (a_dec_at dc_Su_marksThatHold 9 rfl) ?_
  refine cS2V cs_Su_100 rfl (Nat.le_of_ble_eq_true rfl) (Nat.le_of_ble_eq_true rfl) (a_dec_at dc_Su_marksThatHold 10 rfl) ?_
  refine CV.mono (fun mi2 ml2 z2 H => ?_) H
  refine ev_iconst (v := 0) rfl (a_dec_at dc_Su_marksThatHold 11 rfl) ?_
  refine ev_istore_n (i := 3) rfl (by decide) rfl (a_dec_at dc_Su_marksThatHold 12 rfl) ?_
  exact Ev.drop (L' := [.ref 75, .retAddr 0, .int a2, .int 0]) (And.intro rfl (And.intro rfl (And.intro rfl trivial))) H
set_option maxRecDepth 20000 in
theorem t_Su_marksThatHold_23 {l : Launch} {h : Nat} (mi : TMi) (ml : TMl) (z : Nat) (v2 : Int32) (v3 : Int32) {Q : Int32 → TMi → TMl → Nat → Prop} (H : ((9 < v3 → Q (mi 75 3) mi ml z) ∧ (¬ 9 < v3 → CV l h m_Sc_measureBeck [.ref 33, .int v2, .int v3] mi ml z (fun mi2 ml2 z2 => CI l h m_Sc_isHeld [.ref 33, .ref 76] mi2 ml2 z2 (fun x3 mi3 ml3 z3 => ((x3 = 0 → Ev l (h + 1) m_Su_marksThatHold 23 ([.ref 75, .retAddr 0, .int v2, .int (v3 + 1)], [], st mi3 ml3 z3) (qI Q)) ∧ (¬ x3 = 0 → CV l h m_Su_countWilling [.ref 75, .int v2] (up mi3 75 3 ((mi3 75 3) ||| ((1 : Int32) <<< (v3 &&& 31)))) ml3 z3 (fun mi5 ml5 z5 => Ev l (h + 1) m_Su_marksThatHold 23 ([.ref 75, .retAddr 0, .int v2, .int (v3 + 1)], [], st mi5 ml5 z5) (qI Q))))))))) : Ev l (h + 1) m_Su_marksThatHold 23 ([.ref 75, .retAddr 0, .int v2, .int v3], [], st mi ml z) (qI Q) := by
  refine ev_iload_n (i := 3) rfl rfl (a_dec_at dc_Su_marksThatHold 13 rfl) ?_
  refine ev_bipush (v := 9) rfl (a_dec_at dc_Su_marksThatHold 14 rfl) ?_
  refine ev_icmp_gt (tgt := 75) (a_dec_at dc_Su_marksThatHold 15 rfl) (by decide) (fun b1 => ?_) (fun b1 => ?_)
  · have H := H.1 b1
    refine ev_aload_n (i := 0) rfl rfl (a_dec_at dc_Su_marksThatHold 40 rfl) ?_
    refine m_getI fl_Su_97 rfl sh75 (a_dec_at dc_Su_marksThatHold 41 rfl) ?_
    exact m_retI (a_dec_at dc_Su_marksThatHold 42 rfl) rfl rfl H
  · have H := H.2 b1
    refine ev_aload_n (i := 0) rfl rfl (a_dec_at dc_Su_marksThatHold 16 rfl) ?_
    refine m_getR (y := 33) fl_Su_18 rfl sh75 (mr_75_0 _) (by decide) (a_dec_at dc_Su_marksThatHold 17 rfl) ?_
    refine ev_iload_n (i := 2) rfl rfl (a_dec_at dc_Su_marksThatHold 18 rfl) ?_
    refine ev_iload_n (i := 3) rfl rfl (a_dec_at dc_Su_marksThatHold 19 rfl) ?_
    refine cV2V cs_Su_106 sh33 rfl (Nat.le_of_ble_eq_true rfl) (Nat.le_of_ble_eq_true rfl) (a_dec_at dc_Su_marksThatHold 20 rfl) ?_
    refine CV.mono (fun mi2 ml2 z2 H => ?_) H
    refine ev_aload_n (i := 0) rfl rfl (a_dec_at dc_Su_marksThatHold 21 rfl) ?_
    refine m_getR (y := 33) fl_Su_18 rfl sh75 (mr_75_0 _) (by decide) (a_dec_at dc_Su_marksThatHold 22 rfl) ?_
    refine ev_aload_n (i := 0) rfl rfl (a_dec_at dc_Su_marksThatHold 23 rfl) ?_
    refine m_getR (y := 76) fl_Su_9 rfl sh75 (mr_75_2 _) (by decide) (a_dec_at dc_Su_marksThatHold 24 rfl) ?_
    refine cV1I cs_Su_110 sh33 rfl (Nat.le_of_ble_eq_true rfl) (Nat.le_of_ble_eq_true rfl) (a_dec_at dc_Su_marksThatHold 25 rfl) ?_
    refine CI.mono (fun x3 mi3 ml3 z3 H => ?_) H
    refine ev_if_eq (tgt := 69) (a_dec_at dc_Su_marksThatHold 26 rfl) (by decide) (fun b4 => ?_) (fun b4 => ?_)
    · have H := H.1 b4
      refine ev_iinc (v := 1) rfl rfl (by decide) rfl (a_dec_at dc_Su_marksThatHold 38 rfl) ?_
      refine ev_goto (tgt := 23) (a_dec_at dc_Su_marksThatHold 39 rfl) (by decide) ?_
      exact Ev.drop (L' := [.ref 75, .retAddr 0, .int v2, .int (v3 + 1)]) (And.intro rfl (And.intro rfl (And.intro rfl trivial))) H
    · have H := H.2 b4
      refine ev_aload_n (i := 0) rfl rfl (a_dec_at dc_Su_marksThatHold 27 rfl) ?_
      refine ev_dup rfl (a_dec_at dc_Su_marksThatHold 28 rfl) ?_
      refine m_getI fl_Su_97 rfl sh75 (a_dec_at dc_Su_marksThatHold 29 rfl) ?_
      refine ev_iconst (v := 1) rfl (a_dec_at dc_Su_marksThatHold 30 rfl) ?_
      refine ev_iload_n (i := 3) rfl rfl (a_dec_at dc_Su_marksThatHold 31 rfl) ?_
      refine ev_ishl (a_dec_at dc_Su_marksThatHold 32 rfl) ?_
      refine ev_ior (a_dec_at dc_Su_marksThatHold 33 rfl) ?_
      refine m_putI fl_Su_97 rfl (fun _ _ _ h => by cases h; exact Or.inl rfl) sh75 (a_dec_at dc_Su_marksThatHold 34 rfl) ?_
      refine ev_aload_n (i := 0) rfl rfl (a_dec_at dc_Su_marksThatHold 35 rfl) ?_
      refine ev_iload_n (i := 2) rfl rfl (a_dec_at dc_Su_marksThatHold 36 rfl) ?_
      refine cV1V cs_Su_114 sh75 rfl (Nat.le_of_ble_eq_true rfl) (Nat.le_of_ble_eq_true rfl) (a_dec_at dc_Su_marksThatHold 37 rfl) ?_
      refine CV.mono (fun mi5 ml5 z5 H => ?_) H
      refine ev_iinc (v := 1) rfl rfl (by decide) rfl (a_dec_at dc_Su_marksThatHold 38 rfl) ?_
      refine ev_goto (tgt := 23) (a_dec_at dc_Su_marksThatHold 39 rfl) (by decide) ?_
      exact Ev.drop (L' := [.ref 75, .retAddr 0, .int v2, .int (v3 + 1)]) (And.intro rfl (And.intro rfl (And.intro rfl trivial))) H
set_option maxRecDepth 20000 in
theorem t_Su_countWilling {l : Launch} {h : Nat} (mi : TMi) (ml : TMl) (z : Nat) (a1 : Int32) {Q : TMi → TMl → Nat → Prop} (H : Ev l (h + 1) m_Su_countWilling 2 ([.ref 75, .int a1, .int 0], [], st mi ml z) (qV Q)) : CV l (h + 1) m_Su_countWilling [.ref 75, .int a1] mi ml z Q := by
  show Ev l (h + 1) m_Su_countWilling 0 ([.ref 75, .int a1, .retAddr 0], [], st mi ml z) (qV Q)
  refine ev_iconst (v := 0) rfl (a_dec_at dc_Su_countWilling 0 rfl) ?_
  refine ev_istore_n (i := 2) rfl (by decide) rfl (a_dec_at dc_Su_countWilling 1 rfl) ?_
  exact Ev.drop (L' := [.ref 75, .int a1, .int 0]) (And.intro rfl (And.intro rfl (And.intro rfl trivial))) H
set_option maxRecDepth 20000 in
theorem t_Su_countWilling_2 {l : Launch} {h : Nat} (mi : TMi) (ml : TMl) (z : Nat) (v1 : Int32) (v2 : Int32) {Q : TMi → TMl → Nat → Prop} (H : (((mi 18 1) ≤ v2 → Q mi ml z) ∧ (¬ (mi 18 1) ≤ v2 → CI l h m_B_pair [.int v1, .int v2] mi ml z (fun x2 mi2 ml2 z2 => (vp_in x2 24) ∧ (((mi2 35 x2.toNatClampNeg) ≤ 0 → Ev l (h + 1) m_Su_countWilling 2 ([.ref 75, .int v1, .int (v2 + 1)], [], st mi2 ml2 z2) (qV Q)) ∧ (¬ (mi2 35 x2.toNatClampNeg) ≤ 0 → (vp_in v2 4) ∧ (vp_in v2 4) ∧ Ev l (h + 1) m_Su_countWilling 2 ([.ref 75, .int v1, .int (v2 + 1)], [], st (up mi2 77 v2.toNatClampNeg ((mi2 77 v2.toNatClampNeg) + 1)) ml2 z2) (qV Q))))))) : Ev l (h + 1) m_Su_countWilling 2 ([.ref 75, .int v1, .int v2], [], st mi ml z) (qV Q) := by
  refine ev_iload_n (i := 2) rfl rfl (a_dec_at dc_Su_countWilling 2 rfl) ?_
  refine ev_aload_n (i := 0) rfl rfl (a_dec_at dc_Su_countWilling 3 rfl) ?_
  refine m_getR (y := 33) fl_Su_18 rfl sh75 (mr_75_0 _) (by decide) (a_dec_at dc_Su_countWilling 4 rfl) ?_
  refine m_getR (y := 18) fl_Su_35 rfl sh33 (mr_33_0 _) (by decide) (a_dec_at dc_Su_countWilling 5 rfl) ?_
  refine m_getI fl_Su_41 rfl sh18 (a_dec_at dc_Su_countWilling 6 rfl) ?_
  refine ev_icmp_ge (tgt := 48) (a_dec_at dc_Su_countWilling 7 rfl) (by decide) (fun b1 => ?_) (fun b1 => ?_)
  · have H := H.1 b1
    exact m_retV (a_dec_at dc_Su_countWilling 26 rfl) rfl H
  · have H := H.2 b1
    refine ev_aload_n (i := 0) rfl rfl (a_dec_at dc_Su_countWilling 8 rfl) ?_
    refine m_getR (y := 33) fl_Su_18 rfl sh75 (mr_75_0 _) (by decide) (a_dec_at dc_Su_countWilling 9 rfl) ?_
    refine m_getR (y := 35) fl_Su_118 rfl sh33 (mr_33_3 _) (by decide) (a_dec_at dc_Su_countWilling 10 rfl) ?_
    refine ev_iload_n (i := 1) rfl rfl (a_dec_at dc_Su_countWilling 11 rfl) ?_
    refine ev_iload_n (i := 2) rfl rfl (a_dec_at dc_Su_countWilling 12 rfl) ?_
    refine cN2I cs_Su_65 rfl (Nat.le_of_ble_eq_true rfl) (Nat.le_of_ble_eq_true rfl) (a_dec_at dc_Su_countWilling 13 rfl) ?_
    refine CI.mono (fun x2 mi2 ml2 z2 H => ?_) H
    obtain ⟨c3, H⟩ := H
    refine w_iald (k := x2.toNatClampNeg) sh35 c3 rfl (a_dec_at dc_Su_countWilling 14 rfl) ?_
    refine ev_if_le (tgt := 42) (a_dec_at dc_Su_countWilling 15 rfl) (by decide) (fun b4 => ?_) (fun b4 => ?_)
    · have H := H.1 b4
      refine ev_iinc (v := 1) rfl rfl (by decide) rfl (a_dec_at dc_Su_countWilling 24 rfl) ?_
      refine ev_goto (tgt := 2) (a_dec_at dc_Su_countWilling 25 rfl) (by decide) ?_
      exact Ev.drop (L' := [.ref 75, .int v1, .int (v2 + 1)]) (And.intro rfl (And.intro rfl (And.intro rfl trivial))) H
    · have H := H.2 b4
      refine ev_aload_n (i := 0) rfl rfl (a_dec_at dc_Su_countWilling 16 rfl) ?_
      refine m_getR (y := 77) fl_Su_15 rfl sh75 (mr_75_4 _) (by decide) (a_dec_at dc_Su_countWilling 17 rfl) ?_
      refine ev_iload_n (i := 2) rfl rfl (a_dec_at dc_Su_countWilling 18 rfl) ?_
      refine ev_dup2 rfl rfl (a_dec_at dc_Su_countWilling 19 rfl) ?_
      obtain ⟨c5, H⟩ := H
      refine w_iald (k := v2.toNatClampNeg) sh77 c5 rfl (a_dec_at dc_Su_countWilling 20 rfl) ?_
      refine ev_iconst (v := 1) rfl (a_dec_at dc_Su_countWilling 21 rfl) ?_
      refine ev_iadd (a_dec_at dc_Su_countWilling 22 rfl) ?_
      obtain ⟨c6, H⟩ := H
      refine w_iast (k := v2.toNatClampNeg) sh77 c6 rfl (a_dec_at dc_Su_countWilling 23 rfl) ?_
      refine ev_iinc (v := 1) rfl rfl (by decide) rfl (a_dec_at dc_Su_countWilling 24 rfl) ?_
      refine ev_goto (tgt := 2) (a_dec_at dc_Su_countWilling 25 rfl) (by decide) ?_
      exact Ev.drop (L' := [.ref 75, .int v1, .int (v2 + 1)]) (And.intro rfl (And.intro rfl (And.intro rfl trivial))) H
set_option maxRecDepth 20000 in
theorem t_Su_bestQuestion {l : Launch} {h : Nat} (mi : TMi) (ml : TMl) (z : Nat) (a1 : Int32) {Q : Int32 → TMi → TMl → Nat → Prop} (H : CI l h m_JI_bitCount [.int (mi 75 3)] mi ml z (fun x1 mi1 ml1 z1 => Ev l (h + 1) m_Su_bestQuestion 16 ([.ref 75, .int a1, .int (-1), .int (-1), .int x1, .int 0, .retAddr 0], [], st mi1 ml1 z1) (qI Q))) : CI l (h + 1) m_Su_bestQuestion [.ref 75, .int a1] mi ml z Q := by
  show Ev l (h + 1) m_Su_bestQuestion 0 ([.ref 75, .int a1, .retAddr 0, .retAddr 0, .retAddr 0, .retAddr 0, .retAddr 0], [], st mi ml z) (qI Q)
  refine ev_iconst (v := (-1)) rfl (a_dec_at dc_Su_bestQuestion 0 rfl) ?_
  refine ev_istore_n (i := 2) rfl (by decide) rfl (a_dec_at dc_Su_bestQuestion 1 rfl) ?_
  refine ev_iconst (v := (-1)) rfl (a_dec_at dc_Su_bestQuestion 2 rfl) ?_
  refine ev_istore_n (i := 3) rfl (by decide) rfl (a_dec_at dc_Su_bestQuestion 3 rfl) ?_
  refine ev_aload_n (i := 0) rfl rfl (a_dec_at dc_Su_bestQuestion 4 rfl) ?_
  refine m_getI fl_Su_97 rfl sh75 (a_dec_at dc_Su_bestQuestion 5 rfl) ?_
  refine cS1I cs_Su_88 rfl (Nat.le_of_ble_eq_true rfl) (Nat.le_of_ble_eq_true rfl) (a_dec_at dc_Su_bestQuestion 6 rfl) ?_
  refine CI.mono (fun x1 mi1 ml1 z1 H => ?_) H
  refine ev_istore (by decide) rfl (a_dec_at dc_Su_bestQuestion 7 rfl) ?_
  refine ev_iconst (v := 0) rfl (a_dec_at dc_Su_bestQuestion 8 rfl) ?_
  refine ev_istore (by decide) rfl (a_dec_at dc_Su_bestQuestion 9 rfl) ?_
  exact Ev.drop (L' := [.ref 75, .int a1, .int (-1), .int (-1), .int x1, .int 0, .retAddr 0]) (And.intro rfl (And.intro rfl (And.intro rfl (And.intro rfl (And.intro rfl (And.intro rfl trivial)))))) H
set_option maxRecDepth 20000 in
theorem t_Su_bestQuestion_16 {l : Launch} {h : Nat} (mi : TMi) (ml : TMl) (z : Nat) (v1 : Int32) (v2 : Int32) (v3 : Int32) (v4 : Int32) (v5 : Int32) {Q : Int32 → TMi → TMl → Nat → Prop} (H : ((v1 ≤ v5 → Q v2 mi ml z) ∧ (¬ v1 ≤ v5 → ((v4 ≤ 0 → Q v2 mi ml z) ∧ (¬ v4 ≤ 0 → (vp_in v5 4) ∧ (vp_in v5 4) ∧ (((if (mi 77 v5.toNatClampNeg) > (v4 - (mi 77 v5.toNatClampNeg)) then v4 - (mi 77 v5.toNatClampNeg) else mi 77 v5.toNatClampNeg) ≤ v3 → Ev l (h + 1) m_Su_bestQuestion 16 ([.ref 75, .int v1, .int v2, .int v3, .int v4, .int (v5 + 1), .retAddr 0], [], st mi ml z) (qI Q)) ∧ (¬ (if (mi 77 v5.toNatClampNeg) > (v4 - (mi 77 v5.toNatClampNeg)) then v4 - (mi 77 v5.toNatClampNeg) else mi 77 v5.toNatClampNeg) ≤ v3 → Ev l (h + 1) m_Su_bestQuestion 16 ([.ref 75, .int v1, .int v5, .int (if (mi 77 v5.toNatClampNeg) > (v4 - (mi 77 v5.toNatClampNeg)) then v4 - (mi 77 v5.toNatClampNeg) else mi 77 v5.toNatClampNeg), .int v4, .int (v5 + 1), .retAddr 0], [], st mi ml z) (qI Q)))))))) : Ev l (h + 1) m_Su_bestQuestion 16 ([.ref 75, .int v1, .int v2, .int v3, .int v4, .int v5, .retAddr 0], [], st mi ml z) (qI Q) := by
  refine ev_iload rfl (a_dec_at dc_Su_bestQuestion 10 rfl) ?_
  refine ev_iload_n (i := 1) rfl rfl (a_dec_at dc_Su_bestQuestion 11 rfl) ?_
  refine ev_icmp_ge (tgt := 67) (a_dec_at dc_Su_bestQuestion 12 rfl) (by decide) (fun b1 => ?_) (fun b1 => ?_)
  · have H := H.1 b1
    refine ev_iload_n (i := 2) rfl rfl (a_dec_at dc_Su_bestQuestion 36 rfl) ?_
    exact m_retI (a_dec_at dc_Su_bestQuestion 37 rfl) rfl rfl H
  · have H := H.2 b1
    refine ev_iload rfl (a_dec_at dc_Su_bestQuestion 13 rfl) ?_
    refine ev_if_le (tgt := 67) (a_dec_at dc_Su_bestQuestion 14 rfl) (by decide) (fun b2 => ?_) (fun b2 => ?_)
    · have H := H.1 b2
      refine ev_iload_n (i := 2) rfl rfl (a_dec_at dc_Su_bestQuestion 36 rfl) ?_
      exact m_retI (a_dec_at dc_Su_bestQuestion 37 rfl) rfl rfl H
    · have H := H.2 b2
      refine ev_aload_n (i := 0) rfl rfl (a_dec_at dc_Su_bestQuestion 15 rfl) ?_
      refine m_getR (y := 77) fl_Su_15 rfl sh75 (mr_75_4 _) (by decide) (a_dec_at dc_Su_bestQuestion 16 rfl) ?_
      refine ev_iload rfl (a_dec_at dc_Su_bestQuestion 17 rfl) ?_
      obtain ⟨c3, H⟩ := H
      refine w_iald (k := v5.toNatClampNeg) sh77 c3 rfl (a_dec_at dc_Su_bestQuestion 18 rfl) ?_
      refine ev_iload rfl (a_dec_at dc_Su_bestQuestion 19 rfl) ?_
      refine ev_aload_n (i := 0) rfl rfl (a_dec_at dc_Su_bestQuestion 20 rfl) ?_
      refine m_getR (y := 77) fl_Su_15 rfl sh75 (mr_75_4 _) (by decide) (a_dec_at dc_Su_bestQuestion 21 rfl) ?_
      refine ev_iload rfl (a_dec_at dc_Su_bestQuestion 22 rfl) ?_
      obtain ⟨c4, H⟩ := H
      refine w_iald (k := v5.toNatClampNeg) sh77 c4 rfl (a_dec_at dc_Su_bestQuestion 23 rfl) ?_
      refine ev_isub (a_dec_at dc_Su_bestQuestion 24 rfl) ?_
      refine w_mmin cs_Su_121 (Nat.le_of_ble_eq_true rfl) (a_dec_at dc_Su_bestQuestion 25 rfl) ?_
      refine ev_istore (by decide) rfl (a_dec_at dc_Su_bestQuestion 26 rfl) ?_
      refine ev_iload rfl (a_dec_at dc_Su_bestQuestion 27 rfl) ?_
      refine ev_iload_n (i := 3) rfl rfl (a_dec_at dc_Su_bestQuestion 28 rfl) ?_
      refine ev_icmp_le (tgt := 61) (a_dec_at dc_Su_bestQuestion 29 rfl) (by decide) (fun b5 => ?_) (fun b5 => ?_)
      · have H := H.1 b5
        refine ev_iinc (v := 1) rfl rfl (by decide) rfl (a_dec_at dc_Su_bestQuestion 34 rfl) ?_
        refine ev_goto (tgt := 16) (a_dec_at dc_Su_bestQuestion 35 rfl) (by decide) ?_
        exact Ev.drop (L' := [.ref 75, .int v1, .int v2, .int v3, .int v4, .int (v5 + 1), .retAddr 0]) (And.intro rfl (And.intro rfl (And.intro rfl (And.intro rfl (And.intro rfl (And.intro rfl trivial)))))) H
      · have H := H.2 b5
        refine ev_iload rfl (a_dec_at dc_Su_bestQuestion 30 rfl) ?_
        refine ev_istore_n (i := 3) rfl (by decide) rfl (a_dec_at dc_Su_bestQuestion 31 rfl) ?_
        refine ev_iload rfl (a_dec_at dc_Su_bestQuestion 32 rfl) ?_
        refine ev_istore_n (i := 2) rfl (by decide) rfl (a_dec_at dc_Su_bestQuestion 33 rfl) ?_
        refine ev_iinc (v := 1) rfl rfl (by decide) rfl (a_dec_at dc_Su_bestQuestion 34 rfl) ?_
        refine ev_goto (tgt := 16) (a_dec_at dc_Su_bestQuestion 35 rfl) (by decide) ?_
        exact Ev.drop (L' := [.ref 75, .int v1, .int v5, .int (if (mi 77 v5.toNatClampNeg) > (v4 - (mi 77 v5.toNatClampNeg)) then v4 - (mi 77 v5.toNatClampNeg) else mi 77 v5.toNatClampNeg), .int v4, .int (v5 + 1), .retAddr 0]) (And.intro rfl (And.intro rfl (And.intro rfl (And.intro rfl (And.intro rfl (And.intro rfl trivial)))))) H
set_option maxRecDepth 20000 in
theorem t_Su_chanceOfFlood {l : Launch} {h : Nat} (mi : TMi) (ml : TMl) (z : Nat) (a2 : Int32) {Q : TMi → TMl → Nat → Prop} (H : Ev l (h + 1) m_Su_chanceOfFlood 5 ([.ref 75, .ref 17, .int a2, .int 0, .int 0], [], st mi ml z) (qV Q)) : CV l (h + 1) m_Su_chanceOfFlood [.ref 75, .ref 17, .int a2] mi ml z Q := by
  show Ev l (h + 1) m_Su_chanceOfFlood 0 ([.ref 75, .ref 17, .int a2, .retAddr 0, .retAddr 0], [], st mi ml z) (qV Q)
  refine ev_iconst (v := 0) rfl (a_dec_at dc_Su_chanceOfFlood 0 rfl) ?_
  refine ev_istore_n (i := 3) rfl (by decide) rfl (a_dec_at dc_Su_chanceOfFlood 1 rfl) ?_
  refine ev_iconst (v := 0) rfl (a_dec_at dc_Su_chanceOfFlood 2 rfl) ?_
  refine ev_istore (by decide) rfl (a_dec_at dc_Su_chanceOfFlood 3 rfl) ?_
  exact Ev.drop (L' := [.ref 75, .ref 17, .int a2, .int 0, .int 0]) (And.intro rfl (And.intro rfl (And.intro rfl (And.intro rfl (And.intro rfl trivial))))) H
set_option maxRecDepth 20000 in
theorem t_Su_chanceOfFlood_5 {l : Launch} {h : Nat} (mi : TMi) (ml : TMl) (z : Nat) (v2 : Int32) (v3 : Int32) (v4 : Int32) {Q : TMi → TMl → Nat → Prop} (H : CI l h m_La_allBecks [.ref 18] mi ml z (fun x1 mi1 ml1 z1 => ((x1 < v4 → CI l h m_Su_wholeOf [.ref 18] mi1 ml1 z1 (fun x3 mi3 ml3 z3 => CV l h m_Su_tellInLowestTerms [.ref 75, .int v3, .int x3] mi3 ml3 z3 (fun mi4 ml4 z4 => Q mi4 ml4 z4))) ∧ (¬ x1 < v4 → CI l h m_Sc_overflows [.ref 17, .int v2, .int v4] mi1 ml1 z1 (fun x5 mi5 ml5 z5 => ((x5 = 0 → Ev l (h + 1) m_Su_chanceOfFlood 5 ([.ref 75, .ref 17, .int v2, .int v3, .int (v4 + 1)], [], st mi5 ml5 z5) (qV Q)) ∧ (¬ x5 = 0 → CI l h m_Su_weightOf [.ref 18, .int v4] mi5 ml5 z5 (fun x7 mi7 ml7 z7 => Ev l (h + 1) m_Su_chanceOfFlood 5 ([.ref 75, .ref 17, .int v2, .int (v3 + x7), .int (v4 + 1)], [], st mi7 ml7 z7) (qV Q))))))))) : Ev l (h + 1) m_Su_chanceOfFlood 5 ([.ref 75, .ref 17, .int v2, .int v3, .int v4], [], st mi ml z) (qV Q) := by
  refine ev_iload rfl (a_dec_at dc_Su_chanceOfFlood 4 rfl) ?_
  refine ev_aload_n (i := 1) rfl rfl (a_dec_at dc_Su_chanceOfFlood 5 rfl) ?_
  refine m_getR (y := 18) fl_Su_35 rfl sh17 (mr_17_0 _) (by decide) (a_dec_at dc_Su_chanceOfFlood 6 rfl) ?_
  refine cV0I cs_Su_126 sh18 rfl (Nat.le_of_ble_eq_true rfl) (Nat.le_of_ble_eq_true rfl) (a_dec_at dc_Su_chanceOfFlood 7 rfl) ?_
  refine CI.mono (fun x1 mi1 ml1 z1 H => ?_) H
  refine ev_icmp_gt (tgt := 45) (a_dec_at dc_Su_chanceOfFlood 8 rfl) (by decide) (fun b2 => ?_) (fun b2 => ?_)
  · have H := H.1 b2
    refine ev_aload_n (i := 0) rfl rfl (a_dec_at dc_Su_chanceOfFlood 23 rfl) ?_
    refine ev_iload_n (i := 3) rfl rfl (a_dec_at dc_Su_chanceOfFlood 24 rfl) ?_
    refine ev_aload_n (i := 1) rfl rfl (a_dec_at dc_Su_chanceOfFlood 25 rfl) ?_
    refine m_getR (y := 18) fl_Su_35 rfl sh17 (mr_17_0 _) (by decide) (a_dec_at dc_Su_chanceOfFlood 26 rfl) ?_
    refine cS1I cs_Su_137 rfl (Nat.le_of_ble_eq_true rfl) (Nat.le_of_ble_eq_true rfl) (a_dec_at dc_Su_chanceOfFlood 27 rfl) ?_
    refine CI.mono (fun x3 mi3 ml3 z3 H => ?_) H
    refine cV2V cs_Su_141 sh75 rfl (Nat.le_of_ble_eq_true rfl) (Nat.le_of_ble_eq_true rfl) (a_dec_at dc_Su_chanceOfFlood 28 rfl) ?_
    refine CV.mono (fun mi4 ml4 z4 H => ?_) H
    exact m_retV (a_dec_at dc_Su_chanceOfFlood 29 rfl) rfl H
  · have H := H.2 b2
    refine ev_aload_n (i := 1) rfl rfl (a_dec_at dc_Su_chanceOfFlood 9 rfl) ?_
    refine ev_iload_n (i := 2) rfl rfl (a_dec_at dc_Su_chanceOfFlood 10 rfl) ?_
    refine ev_iload rfl (a_dec_at dc_Su_chanceOfFlood 11 rfl) ?_
    refine cV2I cs_Su_130 sh17 rfl (Nat.le_of_ble_eq_true rfl) (Nat.le_of_ble_eq_true rfl) (a_dec_at dc_Su_chanceOfFlood 12 rfl) ?_
    refine CI.mono (fun x5 mi5 ml5 z5 H => ?_) H
    refine ev_if_eq (tgt := 39) (a_dec_at dc_Su_chanceOfFlood 13 rfl) (by decide) (fun b6 => ?_) (fun b6 => ?_)
    · have H := H.1 b6
      refine ev_iinc (v := 1) rfl rfl (by decide) rfl (a_dec_at dc_Su_chanceOfFlood 21 rfl) ?_
      refine ev_goto (tgt := 5) (a_dec_at dc_Su_chanceOfFlood 22 rfl) (by decide) ?_
      exact Ev.drop (L' := [.ref 75, .ref 17, .int v2, .int v3, .int (v4 + 1)]) (And.intro rfl (And.intro rfl (And.intro rfl (And.intro rfl (And.intro rfl trivial))))) H
    · have H := H.2 b6
      refine ev_iload_n (i := 3) rfl rfl (a_dec_at dc_Su_chanceOfFlood 14 rfl) ?_
      refine ev_aload_n (i := 1) rfl rfl (a_dec_at dc_Su_chanceOfFlood 15 rfl) ?_
      refine m_getR (y := 18) fl_Su_35 rfl sh17 (mr_17_0 _) (by decide) (a_dec_at dc_Su_chanceOfFlood 16 rfl) ?_
      refine ev_iload rfl (a_dec_at dc_Su_chanceOfFlood 17 rfl) ?_
      refine cS2I cs_Su_133 rfl (Nat.le_of_ble_eq_true rfl) (Nat.le_of_ble_eq_true rfl) (a_dec_at dc_Su_chanceOfFlood 18 rfl) ?_
      refine CI.mono (fun x7 mi7 ml7 z7 H => ?_) H
      refine ev_iadd (a_dec_at dc_Su_chanceOfFlood 19 rfl) ?_
      refine ev_istore_n (i := 3) rfl (by decide) rfl (a_dec_at dc_Su_chanceOfFlood 20 rfl) ?_
      refine ev_iinc (v := 1) rfl rfl (by decide) rfl (a_dec_at dc_Su_chanceOfFlood 21 rfl) ?_
      refine ev_goto (tgt := 5) (a_dec_at dc_Su_chanceOfFlood 22 rfl) (by decide) ?_
      exact Ev.drop (L' := [.ref 75, .ref 17, .int v2, .int (v3 + x7), .int (v4 + 1)]) (And.intro rfl (And.intro rfl (And.intro rfl (And.intro rfl (And.intro rfl trivial))))) H
set_option maxRecDepth 20000 in
theorem t_Su_weightOf {l : Launch} {h : Nat} (mi : TMi) (ml : TMl) (z : Nat) (a2 : Int32) {Q : Int32 → TMi → TMl → Nat → Prop} (H : Ev l (h + 1) m_Su_weightOf 4 ([.ref 18, .int a2, .int 1, .int 0], [], st mi ml z) (qI Q)) : CI l (h + 1) m_Su_weightOf [.ref 18, .int a2] mi ml z Q := by
  show Ev l (h + 1) m_Su_weightOf 0 ([.ref 18, .int a2, .retAddr 0, .retAddr 0], [], st mi ml z) (qI Q)
  refine ev_iconst (v := 1) rfl (a_dec_at dc_Su_weightOf 0 rfl) ?_
  refine ev_istore_n (i := 2) rfl (by decide) rfl (a_dec_at dc_Su_weightOf 1 rfl) ?_
  refine ev_iconst (v := 0) rfl (a_dec_at dc_Su_weightOf 2 rfl) ?_
  refine ev_istore_n (i := 3) rfl (by decide) rfl (a_dec_at dc_Su_weightOf 3 rfl) ?_
  exact Ev.drop (L' := [.ref 18, .int a2, .int 1, .int 0]) (And.intro rfl (And.intro rfl (And.intro rfl (And.intro rfl trivial)))) H
set_option maxRecDepth 20000 in
theorem t_Su_weightOf_4 {l : Launch} {h : Nat} (mi : TMi) (ml : TMl) (z : Nat) (v1 : Int32) (v2 : Int32) (v3 : Int32) {Q : Int32 → TMi → TMl → Nat → Prop} (H : (((mi 18 0) ≤ v3 → Q v2 mi ml z) ∧ (¬ (mi 18 0) ≤ v3 → ((((v1 >>> (v3 &&& 31)) &&& 1) = 0 → (vp_in v3 6) ∧ Ev l (h + 1) m_Su_weightOf 4 ([.ref 18, .int v1, .int (v2 * (mi 21 v3.toNatClampNeg)), .int (v3 + 1)], [], st mi ml z) (qI Q)) ∧ (¬ ((v1 >>> (v3 &&& 31)) &&& 1) = 0 → (vp_in v3 6) ∧ Ev l (h + 1) m_Su_weightOf 4 ([.ref 18, .int v1, .int (v2 * (10 - (mi 21 v3.toNatClampNeg))), .int (v3 + 1)], [], st mi ml z) (qI Q)))))) : Ev l (h + 1) m_Su_weightOf 4 ([.ref 18, .int v1, .int v2, .int v3], [], st mi ml z) (qI Q) := by
  refine ev_iload_n (i := 3) rfl rfl (a_dec_at dc_Su_weightOf 4 rfl) ?_
  refine ev_aload_n (i := 0) rfl rfl (a_dec_at dc_Su_weightOf 5 rfl) ?_
  refine m_getI fl_Su_73 rfl sh18 (a_dec_at dc_Su_weightOf 6 rfl) ?_
  refine ev_icmp_ge (tgt := 47) (a_dec_at dc_Su_weightOf 7 rfl) (by decide) (fun b1 => ?_) (fun b1 => ?_)
  · have H := H.1 b1
    refine ev_iload_n (i := 2) rfl rfl (a_dec_at dc_Su_weightOf 30 rfl) ?_
    exact m_retI (a_dec_at dc_Su_weightOf 31 rfl) rfl rfl H
  · have H := H.2 b1
    refine ev_iload_n (i := 2) rfl rfl (a_dec_at dc_Su_weightOf 8 rfl) ?_
    refine ev_iload_n (i := 1) rfl rfl (a_dec_at dc_Su_weightOf 9 rfl) ?_
    refine ev_iload_n (i := 3) rfl rfl (a_dec_at dc_Su_weightOf 10 rfl) ?_
    refine ev_ishr (a_dec_at dc_Su_weightOf 11 rfl) ?_
    refine ev_iconst (v := 1) rfl (a_dec_at dc_Su_weightOf 12 rfl) ?_
    refine ev_iand (a_dec_at dc_Su_weightOf 13 rfl) ?_
    refine ev_if_eq (tgt := 33) (a_dec_at dc_Su_weightOf 14 rfl) (by decide) (fun b2 => ?_) (fun b2 => ?_)
    · have H := H.1 b2
      refine ev_aload_n (i := 0) rfl rfl (a_dec_at dc_Su_weightOf 22 rfl) ?_
      refine m_getR (y := 21) fl_Su_148 rfl sh18 (mr_18_5 _) (by decide) (a_dec_at dc_Su_weightOf 23 rfl) ?_
      refine ev_iload_n (i := 3) rfl rfl (a_dec_at dc_Su_weightOf 24 rfl) ?_
      obtain ⟨c3, H⟩ := H
      refine w_iald (k := v3.toNatClampNeg) sh21 c3 rfl (a_dec_at dc_Su_weightOf 25 rfl) ?_
      refine ev_imul (a_dec_at dc_Su_weightOf 26 rfl) ?_
      refine ev_istore_n (i := 2) rfl (by decide) rfl (a_dec_at dc_Su_weightOf 27 rfl) ?_
      refine ev_iinc (v := 1) rfl rfl (by decide) rfl (a_dec_at dc_Su_weightOf 28 rfl) ?_
      refine ev_goto (tgt := 4) (a_dec_at dc_Su_weightOf 29 rfl) (by decide) ?_
      exact Ev.drop (L' := [.ref 18, .int v1, .int (v2 * (mi 21 v3.toNatClampNeg)), .int (v3 + 1)]) (And.intro rfl (And.intro rfl (And.intro rfl (And.intro rfl trivial)))) H
    · have H := H.2 b2
      refine ev_bipush (v := 10) rfl (a_dec_at dc_Su_weightOf 15 rfl) ?_
      refine ev_aload_n (i := 0) rfl rfl (a_dec_at dc_Su_weightOf 16 rfl) ?_
      refine m_getR (y := 21) fl_Su_148 rfl sh18 (mr_18_5 _) (by decide) (a_dec_at dc_Su_weightOf 17 rfl) ?_
      refine ev_iload_n (i := 3) rfl rfl (a_dec_at dc_Su_weightOf 18 rfl) ?_
      obtain ⟨c4, H⟩ := H
      refine w_iald (k := v3.toNatClampNeg) sh21 c4 rfl (a_dec_at dc_Su_weightOf 19 rfl) ?_
      refine ev_isub (a_dec_at dc_Su_weightOf 20 rfl) ?_
      refine ev_goto (tgt := 39) (a_dec_at dc_Su_weightOf 21 rfl) (by decide) ?_
      refine ev_imul (a_dec_at dc_Su_weightOf 26 rfl) ?_
      refine ev_istore_n (i := 2) rfl (by decide) rfl (a_dec_at dc_Su_weightOf 27 rfl) ?_
      refine ev_iinc (v := 1) rfl rfl (by decide) rfl (a_dec_at dc_Su_weightOf 28 rfl) ?_
      refine ev_goto (tgt := 4) (a_dec_at dc_Su_weightOf 29 rfl) (by decide) ?_
      exact Ev.drop (L' := [.ref 18, .int v1, .int (v2 * (10 - (mi 21 v3.toNatClampNeg))), .int (v3 + 1)]) (And.intro rfl (And.intro rfl (And.intro rfl (And.intro rfl trivial)))) H
set_option maxRecDepth 20000 in
theorem t_Su_wholeOf {l : Launch} {h : Nat} (mi : TMi) (ml : TMl) (z : Nat) {Q : Int32 → TMi → TMl → Nat → Prop} (H : Ev l (h + 1) m_Su_wholeOf 4 ([.ref 18, .int 1, .int 0], [], st mi ml z) (qI Q)) : CI l (h + 1) m_Su_wholeOf [.ref 18] mi ml z Q := by
  show Ev l (h + 1) m_Su_wholeOf 0 ([.ref 18, .retAddr 0, .retAddr 0], [], st mi ml z) (qI Q)
  refine ev_iconst (v := 1) rfl (a_dec_at dc_Su_wholeOf 0 rfl) ?_
  refine ev_istore_n (i := 1) rfl (by decide) rfl (a_dec_at dc_Su_wholeOf 1 rfl) ?_
  refine ev_iconst (v := 0) rfl (a_dec_at dc_Su_wholeOf 2 rfl) ?_
  refine ev_istore_n (i := 2) rfl (by decide) rfl (a_dec_at dc_Su_wholeOf 3 rfl) ?_
  exact Ev.drop (L' := [.ref 18, .int 1, .int 0]) (And.intro rfl (And.intro rfl (And.intro rfl trivial))) H
set_option maxRecDepth 20000 in
theorem t_Su_wholeOf_4 {l : Launch} {h : Nat} (mi : TMi) (ml : TMl) (z : Nat) (v1 : Int32) (v2 : Int32) {Q : Int32 → TMi → TMl → Nat → Prop} (H : (((mi 18 0) ≤ v2 → Q v1 mi ml z) ∧ (¬ (mi 18 0) ≤ v2 → Ev l (h + 1) m_Su_wholeOf 4 ([.ref 18, .int (v1 * 10), .int (v2 + 1)], [], st mi ml z) (qI Q)))) : Ev l (h + 1) m_Su_wholeOf 4 ([.ref 18, .int v1, .int v2], [], st mi ml z) (qI Q) := by
  refine ev_iload_n (i := 2) rfl rfl (a_dec_at dc_Su_wholeOf 4 rfl) ?_
  refine ev_aload_n (i := 0) rfl rfl (a_dec_at dc_Su_wholeOf 5 rfl) ?_
  refine m_getI fl_Su_73 rfl sh18 (a_dec_at dc_Su_wholeOf 6 rfl) ?_
  refine ev_icmp_ge (tgt := 23) (a_dec_at dc_Su_wholeOf 7 rfl) (by decide) (fun b1 => ?_) (fun b1 => ?_)
  · have H := H.1 b1
    refine ev_iload_n (i := 1) rfl rfl (a_dec_at dc_Su_wholeOf 14 rfl) ?_
    exact m_retI (a_dec_at dc_Su_wholeOf 15 rfl) rfl rfl H
  · have H := H.2 b1
    refine ev_iload_n (i := 1) rfl rfl (a_dec_at dc_Su_wholeOf 8 rfl) ?_
    refine ev_bipush (v := 10) rfl (a_dec_at dc_Su_wholeOf 9 rfl) ?_
    refine ev_imul (a_dec_at dc_Su_wholeOf 10 rfl) ?_
    refine ev_istore_n (i := 1) rfl (by decide) rfl (a_dec_at dc_Su_wholeOf 11 rfl) ?_
    refine ev_iinc (v := 1) rfl rfl (by decide) rfl (a_dec_at dc_Su_wholeOf 12 rfl) ?_
    refine ev_goto (tgt := 4) (a_dec_at dc_Su_wholeOf 13 rfl) (by decide) ?_
    exact Ev.drop (L' := [.ref 18, .int (v1 * 10), .int (v2 + 1)]) (And.intro rfl (And.intro rfl (And.intro rfl trivial))) H
set_option maxRecDepth 20000 in
theorem t_Su_tellInLowestTerms {l : Launch} {h : Nat} (mi : TMi) (ml : TMl) (z : Nat) (a1 : Int32) (a2 : Int32) {Q : TMi → TMl → Nat → Prop} (H : Ev l (h + 1) m_Su_tellInLowestTerms 8 ([.ref 75, .int a1, .int a2, .int a2, .int a1, .int 0, .retAddr 0], [], st mi ml z) (qV Q)) : CV l (h + 1) m_Su_tellInLowestTerms [.ref 75, .int a1, .int a2] mi ml z Q := by
  show Ev l (h + 1) m_Su_tellInLowestTerms 0 ([.ref 75, .int a1, .int a2, .retAddr 0, .retAddr 0, .retAddr 0, .retAddr 0], [], st mi ml z) (qV Q)
  refine ev_iload_n (i := 2) rfl rfl (a_dec_at dc_Su_tellInLowestTerms 0 rfl) ?_
  refine ev_istore_n (i := 3) rfl (by decide) rfl (a_dec_at dc_Su_tellInLowestTerms 1 rfl) ?_
  refine ev_iload_n (i := 1) rfl rfl (a_dec_at dc_Su_tellInLowestTerms 2 rfl) ?_
  refine ev_istore (by decide) rfl (a_dec_at dc_Su_tellInLowestTerms 3 rfl) ?_
  refine ev_iconst (v := 0) rfl (a_dec_at dc_Su_tellInLowestTerms 4 rfl) ?_
  refine ev_istore (by decide) rfl (a_dec_at dc_Su_tellInLowestTerms 5 rfl) ?_
  exact Ev.drop (L' := [.ref 75, .int a1, .int a2, .int a2, .int a1, .int 0, .retAddr 0]) (And.intro rfl (And.intro rfl (And.intro rfl (And.intro rfl (And.intro rfl (And.intro rfl trivial)))))) H
set_option maxRecDepth 20000 in
theorem t_Su_tellInLowestTerms_8 {l : Launch} {h : Nat} (mi : TMi) (ml : TMl) (z : Nat) (v1 : Int32) (v2 : Int32) (v3 : Int32) (v4 : Int32) (v5 : Int32) {Q : TMi → TMl → Nat → Prop} (H : ((64 ≤ v5 → ((¬ v3 = 0 → (¬ v3 = 0) ∧ ((¬ v3 = 0 → (¬ v3 = 0) ∧ Q (up (up mi 75 5 (v1 / v3)) 75 6 (v2 / v3)) ml z) ∧ (v3 = 0 → Q (up (up mi 75 5 (v1 / v3)) 75 6 v2) ml z))) ∧ (v3 = 0 → ((¬ v3 = 0 → (¬ v3 = 0) ∧ Q (up (up mi 75 5 v1) 75 6 (v2 / v3)) ml z) ∧ (v3 = 0 → Q (up (up mi 75 5 v1) 75 6 v2) ml z))))) ∧ (¬ 64 ≤ v5 → ((v4 = 0 → ((¬ v3 = 0 → (¬ v3 = 0) ∧ ((¬ v3 = 0 → (¬ v3 = 0) ∧ Q (up (up mi 75 5 (v1 / v3)) 75 6 (v2 / v3)) ml z) ∧ (v3 = 0 → Q (up (up mi 75 5 (v1 / v3)) 75 6 v2) ml z))) ∧ (v3 = 0 → ((¬ v3 = 0 → (¬ v3 = 0) ∧ Q (up (up mi 75 5 v1) 75 6 (v2 / v3)) ml z) ∧ (v3 = 0 → Q (up (up mi 75 5 v1) 75 6 v2) ml z))))) ∧ (¬ v4 = 0 → (¬ v4 = 0) ∧ Ev l (h + 1) m_Su_tellInLowestTerms 8 ([.ref 75, .int v1, .int v2, .int v4, .int (a_rem v3 v4), .int (v5 + 1), .retAddr 0], [], st mi ml z) (qV Q)))))) : Ev l (h + 1) m_Su_tellInLowestTerms 8 ([.ref 75, .int v1, .int v2, .int v3, .int v4, .int v5, .retAddr 0], [], st mi ml z) (qV Q) := by
  refine ev_iload rfl (a_dec_at dc_Su_tellInLowestTerms 6 rfl) ?_
  refine ev_bipush (v := 64) rfl (a_dec_at dc_Su_tellInLowestTerms 7 rfl) ?_
  refine ev_icmp_ge (tgt := 39) (a_dec_at dc_Su_tellInLowestTerms 8 rfl) (by decide) (fun b1 => ?_) (fun b1 => ?_)
  · have H := H.1 b1
    refine ev_aload_n (i := 0) rfl rfl (a_dec_at dc_Su_tellInLowestTerms 21 rfl) ?_
    refine ev_iload_n (i := 3) rfl rfl (a_dec_at dc_Su_tellInLowestTerms 22 rfl) ?_
    refine ev_if_ne (tgt := 48) (a_dec_at dc_Su_tellInLowestTerms 23 rfl) (by decide) (fun b2 => ?_) (fun b2 => ?_)
    · have H := H.1 b2
      refine ev_iload_n (i := 1) rfl rfl (a_dec_at dc_Su_tellInLowestTerms 26 rfl) ?_
      refine ev_iload_n (i := 3) rfl rfl (a_dec_at dc_Su_tellInLowestTerms 27 rfl) ?_
      obtain ⟨c3, H⟩ := H
      refine ev_idiv c3 (a_dec_at dc_Su_tellInLowestTerms 28 rfl) ?_
      refine m_putI fl_Su_151 rfl (fun _ _ _ h => by cases h; exact Or.inl rfl) sh75 (a_dec_at dc_Su_tellInLowestTerms 29 rfl) ?_
      refine ev_aload_n (i := 0) rfl rfl (a_dec_at dc_Su_tellInLowestTerms 30 rfl) ?_
      refine ev_iload_n (i := 3) rfl rfl (a_dec_at dc_Su_tellInLowestTerms 31 rfl) ?_
      refine ev_if_ne (tgt := 63) (a_dec_at dc_Su_tellInLowestTerms 32 rfl) (by decide) (fun b4 => ?_) (fun b4 => ?_)
      · have H := H.1 b4
        refine ev_iload_n (i := 2) rfl rfl (a_dec_at dc_Su_tellInLowestTerms 35 rfl) ?_
        refine ev_iload_n (i := 3) rfl rfl (a_dec_at dc_Su_tellInLowestTerms 36 rfl) ?_
        obtain ⟨c5, H⟩ := H
        refine ev_idiv c5 (a_dec_at dc_Su_tellInLowestTerms 37 rfl) ?_
        refine m_putI fl_Su_154 rfl (fun _ _ _ h => by cases h; exact Or.inl rfl) sh75 (a_dec_at dc_Su_tellInLowestTerms 38 rfl) ?_
        exact m_retV (a_dec_at dc_Su_tellInLowestTerms 39 rfl) rfl H
      · have H := H.2 b4
        refine ev_iload_n (i := 2) rfl rfl (a_dec_at dc_Su_tellInLowestTerms 33 rfl) ?_
        refine ev_goto (tgt := 66) (a_dec_at dc_Su_tellInLowestTerms 34 rfl) (by decide) ?_
        refine m_putI fl_Su_154 rfl (fun _ _ _ h => by cases h; exact Or.inl rfl) sh75 (a_dec_at dc_Su_tellInLowestTerms 38 rfl) ?_
        exact m_retV (a_dec_at dc_Su_tellInLowestTerms 39 rfl) rfl H
    · have H := H.2 b2
      refine ev_iload_n (i := 1) rfl rfl (a_dec_at dc_Su_tellInLowestTerms 24 rfl) ?_
      refine ev_goto (tgt := 51) (a_dec_at dc_Su_tellInLowestTerms 25 rfl) (by decide) ?_
      refine m_putI fl_Su_151 rfl (fun _ _ _ h => by cases h; exact Or.inl rfl) sh75 (a_dec_at dc_Su_tellInLowestTerms 29 rfl) ?_
      refine ev_aload_n (i := 0) rfl rfl (a_dec_at dc_Su_tellInLowestTerms 30 rfl) ?_
      refine ev_iload_n (i := 3) rfl rfl (a_dec_at dc_Su_tellInLowestTerms 31 rfl) ?_
      refine ev_if_ne (tgt := 63) (a_dec_at dc_Su_tellInLowestTerms 32 rfl) (by decide) (fun b6 => ?_) (fun b6 => ?_)
      · have H := H.1 b6
        refine ev_iload_n (i := 2) rfl rfl (a_dec_at dc_Su_tellInLowestTerms 35 rfl) ?_
        refine ev_iload_n (i := 3) rfl rfl (a_dec_at dc_Su_tellInLowestTerms 36 rfl) ?_
        obtain ⟨c7, H⟩ := H
        refine ev_idiv c7 (a_dec_at dc_Su_tellInLowestTerms 37 rfl) ?_
        refine m_putI fl_Su_154 rfl (fun _ _ _ h => by cases h; exact Or.inl rfl) sh75 (a_dec_at dc_Su_tellInLowestTerms 38 rfl) ?_
        exact m_retV (a_dec_at dc_Su_tellInLowestTerms 39 rfl) rfl H
      · have H := H.2 b6
        refine ev_iload_n (i := 2) rfl rfl (a_dec_at dc_Su_tellInLowestTerms 33 rfl) ?_
        refine ev_goto (tgt := 66) (a_dec_at dc_Su_tellInLowestTerms 34 rfl) (by decide) ?_
        refine m_putI fl_Su_154 rfl (fun _ _ _ h => by cases h; exact Or.inl rfl) sh75 (a_dec_at dc_Su_tellInLowestTerms 38 rfl) ?_
        exact m_retV (a_dec_at dc_Su_tellInLowestTerms 39 rfl) rfl H
  · have H := H.2 b1
    refine ev_iload rfl (a_dec_at dc_Su_tellInLowestTerms 9 rfl) ?_
    refine ev_if_eq (tgt := 39) (a_dec_at dc_Su_tellInLowestTerms 10 rfl) (by decide) (fun b8 => ?_) (fun b8 => ?_)
    · have H := H.1 b8
      refine ev_aload_n (i := 0) rfl rfl (a_dec_at dc_Su_tellInLowestTerms 21 rfl) ?_
      refine ev_iload_n (i := 3) rfl rfl (a_dec_at dc_Su_tellInLowestTerms 22 rfl) ?_
      refine ev_if_ne (tgt := 48) (a_dec_at dc_Su_tellInLowestTerms 23 rfl) (by decide) (fun b9 => ?_) (fun b9 => ?_)
      · have H := H.1 b9
        refine ev_iload_n (i := 1) rfl rfl (a_dec_at dc_Su_tellInLowestTerms 26 rfl) ?_
        refine ev_iload_n (i := 3) rfl rfl (a_dec_at dc_Su_tellInLowestTerms 27 rfl) ?_
        obtain ⟨c10, H⟩ := H
        refine ev_idiv c10 (a_dec_at dc_Su_tellInLowestTerms 28 rfl) ?_
        refine m_putI fl_Su_151 rfl (fun _ _ _ h => by cases h; exact Or.inl rfl) sh75 (a_dec_at dc_Su_tellInLowestTerms 29 rfl) ?_
        refine ev_aload_n (i := 0) rfl rfl (a_dec_at dc_Su_tellInLowestTerms 30 rfl) ?_
        refine ev_iload_n (i := 3) rfl rfl (a_dec_at dc_Su_tellInLowestTerms 31 rfl) ?_
        refine ev_if_ne (tgt := 63) (a_dec_at dc_Su_tellInLowestTerms 32 rfl) (by decide) (fun b11 => ?_) (fun b11 => ?_)
        · have H := H.1 b11
          refine ev_iload_n (i := 2) rfl rfl (a_dec_at dc_Su_tellInLowestTerms 35 rfl) ?_
          refine ev_iload_n (i := 3) rfl rfl (a_dec_at dc_Su_tellInLowestTerms 36 rfl) ?_
          obtain ⟨c12, H⟩ := H
          refine ev_idiv c12 (a_dec_at dc_Su_tellInLowestTerms 37 rfl) ?_
          refine m_putI fl_Su_154 rfl (fun _ _ _ h => by cases h; exact Or.inl rfl) sh75 (a_dec_at dc_Su_tellInLowestTerms 38 rfl) ?_
          exact m_retV (a_dec_at dc_Su_tellInLowestTerms 39 rfl) rfl H
        · have H := H.2 b11
          refine ev_iload_n (i := 2) rfl rfl (a_dec_at dc_Su_tellInLowestTerms 33 rfl) ?_
          refine ev_goto (tgt := 66) (a_dec_at dc_Su_tellInLowestTerms 34 rfl) (by decide) ?_
          refine m_putI fl_Su_154 rfl (fun _ _ _ h => by cases h; exact Or.inl rfl) sh75 (a_dec_at dc_Su_tellInLowestTerms 38 rfl) ?_
          exact m_retV (a_dec_at dc_Su_tellInLowestTerms 39 rfl) rfl H
      · have H := H.2 b9
        refine ev_iload_n (i := 1) rfl rfl (a_dec_at dc_Su_tellInLowestTerms 24 rfl) ?_
        refine ev_goto (tgt := 51) (a_dec_at dc_Su_tellInLowestTerms 25 rfl) (by decide) ?_
        refine m_putI fl_Su_151 rfl (fun _ _ _ h => by cases h; exact Or.inl rfl) sh75 (a_dec_at dc_Su_tellInLowestTerms 29 rfl) ?_
        refine ev_aload_n (i := 0) rfl rfl (a_dec_at dc_Su_tellInLowestTerms 30 rfl) ?_
        refine ev_iload_n (i := 3) rfl rfl (a_dec_at dc_Su_tellInLowestTerms 31 rfl) ?_
        refine ev_if_ne (tgt := 63) (a_dec_at dc_Su_tellInLowestTerms 32 rfl) (by decide) (fun b13 => ?_) (fun b13 => ?_)
        · have H := H.1 b13
          refine ev_iload_n (i := 2) rfl rfl (a_dec_at dc_Su_tellInLowestTerms 35 rfl) ?_
          refine ev_iload_n (i := 3) rfl rfl (a_dec_at dc_Su_tellInLowestTerms 36 rfl) ?_
          obtain ⟨c14, H⟩ := H
          refine ev_idiv c14 (a_dec_at dc_Su_tellInLowestTerms 37 rfl) ?_
          refine m_putI fl_Su_154 rfl (fun _ _ _ h => by cases h; exact Or.inl rfl) sh75 (a_dec_at dc_Su_tellInLowestTerms 38 rfl) ?_
          exact m_retV (a_dec_at dc_Su_tellInLowestTerms 39 rfl) rfl H
        · have H := H.2 b13
          refine ev_iload_n (i := 2) rfl rfl (a_dec_at dc_Su_tellInLowestTerms 33 rfl) ?_
          refine ev_goto (tgt := 66) (a_dec_at dc_Su_tellInLowestTerms 34 rfl) (by decide) ?_
          refine m_putI fl_Su_154 rfl (fun _ _ _ h => by cases h; exact Or.inl rfl) sh75 (a_dec_at dc_Su_tellInLowestTerms 38 rfl) ?_
          exact m_retV (a_dec_at dc_Su_tellInLowestTerms 39 rfl) rfl H
    · have H := H.2 b8
      refine ev_iload_n (i := 3) rfl rfl (a_dec_at dc_Su_tellInLowestTerms 11 rfl) ?_
      refine ev_iload rfl (a_dec_at dc_Su_tellInLowestTerms 12 rfl) ?_
      obtain ⟨c15, H⟩ := H
      refine ev_irem c15 (a_dec_at dc_Su_tellInLowestTerms 13 rfl) ?_
      refine ev_istore (by decide) rfl (a_dec_at dc_Su_tellInLowestTerms 14 rfl) ?_
      refine ev_iload rfl (a_dec_at dc_Su_tellInLowestTerms 15 rfl) ?_
      refine ev_istore_n (i := 3) rfl (by decide) rfl (a_dec_at dc_Su_tellInLowestTerms 16 rfl) ?_
      refine ev_iload rfl (a_dec_at dc_Su_tellInLowestTerms 17 rfl) ?_
      refine ev_istore (by decide) rfl (a_dec_at dc_Su_tellInLowestTerms 18 rfl) ?_
      refine ev_iinc (v := 1) rfl rfl (by decide) rfl (a_dec_at dc_Su_tellInLowestTerms 19 rfl) ?_
      refine ev_goto (tgt := 8) (a_dec_at dc_Su_tellInLowestTerms 20 rfl) (by decide) ?_
      exact Ev.drop (L' := [.ref 75, .int v1, .int v2, .int v4, .int (a_rem v3 v4), .int (v5 + 1), .retAddr 0]) (And.intro rfl (And.intro rfl (And.intro rfl (And.intro rfl (And.intro rfl (And.intro rfl trivial)))))) H
set_option maxRecDepth 20000 in
theorem t_Su_chanceOfStaying {l : Launch} {h : Nat} (mi : TMi) (ml : TMl) (z : Nat) (a2 : Int32) {Q : TMi → TMl → Nat → Prop} (H : CI l h m_La_allBecks [.ref 18] mi ml z (fun x1 mi1 ml1 z1 => CV l h m_Ma_bestForBecks [.ref 55, .ref 17, .int x1] mi1 ml1 z1 (fun mi2 ml2 z2 => (vp_in a2 6) ∧ Ev l (h + 1) m_Su_chanceOfStaying 31 ([.ref 75, .ref 17, .int a2, .int (mi2 56 a2.toNatClampNeg), .int 0, .int 0, .retAddr 0], [], st mi2 ml2 z2) (qV Q)))) : CV l (h + 1) m_Su_chanceOfStaying [.ref 75, .ref 17, .int a2] mi ml z Q := by
  show Ev l (h + 1) m_Su_chanceOfStaying 0 ([.ref 75, .ref 17, .int a2, .retAddr 0, .retAddr 0, .retAddr 0, .retAddr 0], [], st mi ml z) (qV Q)
  refine ev_aload_n (i := 0) rfl rfl (a_dec_at dc_Su_chanceOfStaying 0 rfl) ?_
  refine m_getR (y := 55) fl_Su_22 rfl sh75 (mr_75_1 _) (by decide) (a_dec_at dc_Su_chanceOfStaying 1 rfl) ?_
  refine ev_aload_n (i := 1) rfl rfl (a_dec_at dc_Su_chanceOfStaying 2 rfl) ?_
  refine ev_aload_n (i := 1) rfl rfl (a_dec_at dc_Su_chanceOfStaying 3 rfl) ?_
  refine m_getR (y := 18) fl_Su_35 rfl sh17 (mr_17_0 _) (by decide) (a_dec_at dc_Su_chanceOfStaying 4 rfl) ?_
  refine cV0I cs_Su_126 sh18 rfl (Nat.le_of_ble_eq_true rfl) (Nat.le_of_ble_eq_true rfl) (a_dec_at dc_Su_chanceOfStaying 5 rfl) ?_
  refine CI.mono (fun x1 mi1 ml1 z1 H => ?_) H
  refine cV2V cs_Su_144 sh55 rfl (Nat.le_of_ble_eq_true rfl) (Nat.le_of_ble_eq_true rfl) (a_dec_at dc_Su_chanceOfStaying 6 rfl) ?_
  refine CV.mono (fun mi2 ml2 z2 H => ?_) H
  refine ev_aload_n (i := 0) rfl rfl (a_dec_at dc_Su_chanceOfStaying 7 rfl) ?_
  refine m_getR (y := 55) fl_Su_22 rfl sh75 (mr_75_1 _) (by decide) (a_dec_at dc_Su_chanceOfStaying 8 rfl) ?_
  refine m_getR (y := 56) fl_Su_32 rfl sh55 (mr_55_0 _) (by decide) (a_dec_at dc_Su_chanceOfStaying 9 rfl) ?_
  refine ev_iload_n (i := 2) rfl rfl (a_dec_at dc_Su_chanceOfStaying 10 rfl) ?_
  obtain ⟨c3, H⟩ := H
  refine w_iald (k := a2.toNatClampNeg) sh56 c3 rfl (a_dec_at dc_Su_chanceOfStaying 11 rfl) ?_
  refine ev_istore_n (i := 3) rfl (by decide) rfl (a_dec_at dc_Su_chanceOfStaying 12 rfl) ?_
  refine ev_iconst (v := 0) rfl (a_dec_at dc_Su_chanceOfStaying 13 rfl) ?_
  refine ev_istore (by decide) rfl (a_dec_at dc_Su_chanceOfStaying 14 rfl) ?_
  refine ev_iconst (v := 0) rfl (a_dec_at dc_Su_chanceOfStaying 15 rfl) ?_
  refine ev_istore (by decide) rfl (a_dec_at dc_Su_chanceOfStaying 16 rfl) ?_
  exact Ev.drop (L' := [.ref 75, .ref 17, .int a2, .int (mi2 56 a2.toNatClampNeg), .int 0, .int 0, .retAddr 0]) (And.intro rfl (And.intro rfl (And.intro rfl (And.intro rfl (And.intro rfl (And.intro rfl trivial)))))) H
set_option maxRecDepth 20000 in
theorem t_Su_chanceOfStaying_31 {l : Launch} {h : Nat} (mi : TMi) (ml : TMl) (z : Nat) (v2 : Int32) (v3 : Int32) (v4 : Int32) (v5 : Int32) {Q : TMi → TMl → Nat → Prop} (H : CI l h m_La_allBecks [.ref 18] mi ml z (fun x1 mi1 ml1 z1 => ((x1 < v5 → CI l h m_Su_wholeOf [.ref 18] mi1 ml1 z1 (fun x3 mi3 ml3 z3 => CV l h m_Su_tellInLowestTerms [.ref 75, .int v4, .int x3] mi3 ml3 z3 (fun mi4 ml4 z4 => Q mi4 ml4 z4))) ∧ (¬ x1 < v5 → ((v3 = (-1) → CI l h m_Su_wholeOf [.ref 18] mi1 ml1 z1 (fun x6 mi6 ml6 z6 => CV l h m_Su_tellInLowestTerms [.ref 75, .int v4, .int x6] mi6 ml6 z6 (fun mi7 ml7 z7 => Q mi7 ml7 z7))) ∧ (¬ v3 = (-1) → ((((v5 >>> (v2 &&& 31)) &&& 1) = 0 → Ev l (h + 1) m_Su_chanceOfStaying 31 ([.ref 75, .ref 17, .int v2, .int v3, .int v4, .int (v5 + 1), .retAddr 0], [], st mi1 ml1 z1) (qV Q)) ∧ (¬ ((v5 >>> (v2 &&& 31)) &&& 1) = 0 → CI l h m_Su_weightOf [.ref 18, .int v5] mi1 ml1 z1 (fun x9 mi9 ml9 z9 => ((x9 ≤ 0 → Ev l (h + 1) m_Su_chanceOfStaying 31 ([.ref 75, .ref 17, .int v2, .int v3, .int v4, .int (v5 + 1), .retAddr 0], [], st mi9 ml9 z9) (qV Q)) ∧ (¬ x9 ≤ 0 → CV l h m_Ma_bestForBecks [.ref 55, .ref 17, .int v5] mi9 ml9 z9 (fun mi11 ml11 z11 => (vp_in v2 6) ∧ ((¬ (mi11 56 v2.toNatClampNeg) = v3 → Ev l (h + 1) m_Su_chanceOfStaying 31 ([.ref 75, .ref 17, .int v2, .int v3, .int (v4 + 0), .int (v5 + 1), .retAddr 0], [], st mi11 ml11 z11) (qV Q)) ∧ ((mi11 56 v2.toNatClampNeg) = v3 → Ev l (h + 1) m_Su_chanceOfStaying 31 ([.ref 75, .ref 17, .int v2, .int v3, .int (v4 + x9), .int (v5 + 1), .retAddr 0], [], st mi11 ml11 z11) (qV Q))))))))))))))) : Ev l (h + 1) m_Su_chanceOfStaying 31 ([.ref 75, .ref 17, .int v2, .int v3, .int v4, .int v5, .retAddr 0], [], st mi ml z) (qV Q) := by
  refine ev_iload rfl (a_dec_at dc_Su_chanceOfStaying 17 rfl) ?_
  refine ev_aload_n (i := 1) rfl rfl (a_dec_at dc_Su_chanceOfStaying 18 rfl) ?_
  refine m_getR (y := 18) fl_Su_35 rfl sh17 (mr_17_0 _) (by decide) (a_dec_at dc_Su_chanceOfStaying 19 rfl) ?_
  refine cV0I cs_Su_126 sh18 rfl (Nat.le_of_ble_eq_true rfl) (Nat.le_of_ble_eq_true rfl) (a_dec_at dc_Su_chanceOfStaying 20 rfl) ?_
  refine CI.mono (fun x1 mi1 ml1 z1 H => ?_) H
  refine ev_icmp_gt (tgt := 117) (a_dec_at dc_Su_chanceOfStaying 21 rfl) (by decide) (fun b2 => ?_) (fun b2 => ?_)
  · have H := H.1 b2
    refine ev_aload_n (i := 0) rfl rfl (a_dec_at dc_Su_chanceOfStaying 60 rfl) ?_
    refine ev_iload rfl (a_dec_at dc_Su_chanceOfStaying 61 rfl) ?_
    refine ev_aload_n (i := 1) rfl rfl (a_dec_at dc_Su_chanceOfStaying 62 rfl) ?_
    refine m_getR (y := 18) fl_Su_35 rfl sh17 (mr_17_0 _) (by decide) (a_dec_at dc_Su_chanceOfStaying 63 rfl) ?_
    refine cS1I cs_Su_137 rfl (Nat.le_of_ble_eq_true rfl) (Nat.le_of_ble_eq_true rfl) (a_dec_at dc_Su_chanceOfStaying 64 rfl) ?_
    refine CI.mono (fun x3 mi3 ml3 z3 H => ?_) H
    refine cV2V cs_Su_141 sh75 rfl (Nat.le_of_ble_eq_true rfl) (Nat.le_of_ble_eq_true rfl) (a_dec_at dc_Su_chanceOfStaying 65 rfl) ?_
    refine CV.mono (fun mi4 ml4 z4 H => ?_) H
    exact m_retV (a_dec_at dc_Su_chanceOfStaying 66 rfl) rfl H
  · have H := H.2 b2
    refine ev_iload_n (i := 3) rfl rfl (a_dec_at dc_Su_chanceOfStaying 22 rfl) ?_
    refine ev_iconst (v := (-1)) rfl (a_dec_at dc_Su_chanceOfStaying 23 rfl) ?_
    refine ev_icmp_eq (tgt := 117) (a_dec_at dc_Su_chanceOfStaying 24 rfl) (by decide) (fun b5 => ?_) (fun b5 => ?_)
    · have H := H.1 b5
      refine ev_aload_n (i := 0) rfl rfl (a_dec_at dc_Su_chanceOfStaying 60 rfl) ?_
      refine ev_iload rfl (a_dec_at dc_Su_chanceOfStaying 61 rfl) ?_
      refine ev_aload_n (i := 1) rfl rfl (a_dec_at dc_Su_chanceOfStaying 62 rfl) ?_
      refine m_getR (y := 18) fl_Su_35 rfl sh17 (mr_17_0 _) (by decide) (a_dec_at dc_Su_chanceOfStaying 63 rfl) ?_
      refine cS1I cs_Su_137 rfl (Nat.le_of_ble_eq_true rfl) (Nat.le_of_ble_eq_true rfl) (a_dec_at dc_Su_chanceOfStaying 64 rfl) ?_
      refine CI.mono (fun x6 mi6 ml6 z6 H => ?_) H
      refine cV2V cs_Su_141 sh75 rfl (Nat.le_of_ble_eq_true rfl) (Nat.le_of_ble_eq_true rfl) (a_dec_at dc_Su_chanceOfStaying 65 rfl) ?_
      refine CV.mono (fun mi7 ml7 z7 H => ?_) H
      exact m_retV (a_dec_at dc_Su_chanceOfStaying 66 rfl) rfl H
    · have H := H.2 b5
      refine ev_iload rfl (a_dec_at dc_Su_chanceOfStaying 25 rfl) ?_
      refine ev_iload_n (i := 2) rfl rfl (a_dec_at dc_Su_chanceOfStaying 26 rfl) ?_
      refine ev_ishr (a_dec_at dc_Su_chanceOfStaying 27 rfl) ?_
      refine ev_iconst (v := 1) rfl (a_dec_at dc_Su_chanceOfStaying 28 rfl) ?_
      refine ev_iand (a_dec_at dc_Su_chanceOfStaying 29 rfl) ?_
      refine ev_if_eq (tgt := 69) (a_dec_at dc_Su_chanceOfStaying 30 rfl) (by decide) (fun b8 => ?_) (fun b8 => ?_)
      · have H := H.1 b8
        refine ev_iconst (v := 0) rfl (a_dec_at dc_Su_chanceOfStaying 36 rfl) ?_
        refine ev_istore (by decide) rfl (a_dec_at dc_Su_chanceOfStaying 37 rfl) ?_
        refine ev_iload rfl (a_dec_at dc_Su_chanceOfStaying 38 rfl) ?_
        refine ev_if_le (tgt := 111) (a_dec_at dc_Su_chanceOfStaying 39 rfl) (by decide) (fun _ => ?_) (fun q => absurd (by decide) q)
        refine ev_iinc (v := 1) rfl rfl (by decide) rfl (a_dec_at dc_Su_chanceOfStaying 58 rfl) ?_
        refine ev_goto (tgt := 31) (a_dec_at dc_Su_chanceOfStaying 59 rfl) (by decide) ?_
        exact Ev.drop (L' := [.ref 75, .ref 17, .int v2, .int v3, .int v4, .int (v5 + 1), .retAddr 0]) (And.intro rfl (And.intro rfl (And.intro rfl (And.intro rfl (And.intro rfl (And.intro rfl trivial)))))) H
      · have H := H.2 b8
        refine ev_aload_n (i := 1) rfl rfl (a_dec_at dc_Su_chanceOfStaying 31 rfl) ?_
        refine m_getR (y := 18) fl_Su_35 rfl sh17 (mr_17_0 _) (by decide) (a_dec_at dc_Su_chanceOfStaying 32 rfl) ?_
        refine ev_iload rfl (a_dec_at dc_Su_chanceOfStaying 33 rfl) ?_
        refine cS2I cs_Su_133 rfl (Nat.le_of_ble_eq_true rfl) (Nat.le_of_ble_eq_true rfl) (a_dec_at dc_Su_chanceOfStaying 34 rfl) ?_
        refine CI.mono (fun x9 mi9 ml9 z9 H => ?_) H
        refine ev_goto (tgt := 70) (a_dec_at dc_Su_chanceOfStaying 35 rfl) (by decide) ?_
        refine ev_istore (by decide) rfl (a_dec_at dc_Su_chanceOfStaying 37 rfl) ?_
        refine ev_iload rfl (a_dec_at dc_Su_chanceOfStaying 38 rfl) ?_
        refine ev_if_le (tgt := 111) (a_dec_at dc_Su_chanceOfStaying 39 rfl) (by decide) (fun b10 => ?_) (fun b10 => ?_)
        · have H := H.1 b10
          refine ev_iinc (v := 1) rfl rfl (by decide) rfl (a_dec_at dc_Su_chanceOfStaying 58 rfl) ?_
          refine ev_goto (tgt := 31) (a_dec_at dc_Su_chanceOfStaying 59 rfl) (by decide) ?_
          exact Ev.drop (L' := [.ref 75, .ref 17, .int v2, .int v3, .int v4, .int (v5 + 1), .retAddr 0]) (And.intro rfl (And.intro rfl (And.intro rfl (And.intro rfl (And.intro rfl (And.intro rfl trivial)))))) H
        · have H := H.2 b10
          refine ev_aload_n (i := 0) rfl rfl (a_dec_at dc_Su_chanceOfStaying 40 rfl) ?_
          refine m_getR (y := 55) fl_Su_22 rfl sh75 (mr_75_1 _) (by decide) (a_dec_at dc_Su_chanceOfStaying 41 rfl) ?_
          refine ev_aload_n (i := 1) rfl rfl (a_dec_at dc_Su_chanceOfStaying 42 rfl) ?_
          refine ev_iload rfl (a_dec_at dc_Su_chanceOfStaying 43 rfl) ?_
          refine cV2V cs_Su_144 sh55 rfl (Nat.le_of_ble_eq_true rfl) (Nat.le_of_ble_eq_true rfl) (a_dec_at dc_Su_chanceOfStaying 44 rfl) ?_
          refine CV.mono (fun mi11 ml11 z11 H => ?_) H
          refine ev_iload rfl (a_dec_at dc_Su_chanceOfStaying 45 rfl) ?_
          refine ev_aload_n (i := 0) rfl rfl (a_dec_at dc_Su_chanceOfStaying 46 rfl) ?_
          refine m_getR (y := 55) fl_Su_22 rfl sh75 (mr_75_1 _) (by decide) (a_dec_at dc_Su_chanceOfStaying 47 rfl) ?_
          refine m_getR (y := 56) fl_Su_32 rfl sh55 (mr_55_0 _) (by decide) (a_dec_at dc_Su_chanceOfStaying 48 rfl) ?_
          refine ev_iload_n (i := 2) rfl rfl (a_dec_at dc_Su_chanceOfStaying 49 rfl) ?_
          obtain ⟨c12, H⟩ := H
          refine w_iald (k := v2.toNatClampNeg) sh56 c12 rfl (a_dec_at dc_Su_chanceOfStaying 50 rfl) ?_
          refine ev_iload_n (i := 3) rfl rfl (a_dec_at dc_Su_chanceOfStaying 51 rfl) ?_
          refine ev_icmp_ne (tgt := 107) (a_dec_at dc_Su_chanceOfStaying 52 rfl) (by decide) (fun b13 => ?_) (fun b13 => ?_)
          · have H := H.1 b13
            refine ev_iconst (v := 0) rfl (a_dec_at dc_Su_chanceOfStaying 55 rfl) ?_
            refine ev_iadd (a_dec_at dc_Su_chanceOfStaying 56 rfl) ?_
            refine ev_istore (by decide) rfl (a_dec_at dc_Su_chanceOfStaying 57 rfl) ?_
            refine ev_iinc (v := 1) rfl rfl (by decide) rfl (a_dec_at dc_Su_chanceOfStaying 58 rfl) ?_
            refine ev_goto (tgt := 31) (a_dec_at dc_Su_chanceOfStaying 59 rfl) (by decide) ?_
            exact Ev.drop (L' := [.ref 75, .ref 17, .int v2, .int v3, .int (v4 + 0), .int (v5 + 1), .retAddr 0]) (And.intro rfl (And.intro rfl (And.intro rfl (And.intro rfl (And.intro rfl (And.intro rfl trivial)))))) H
          · have H := H.2 b13
            refine ev_iload rfl (a_dec_at dc_Su_chanceOfStaying 53 rfl) ?_
            refine ev_goto (tgt := 108) (a_dec_at dc_Su_chanceOfStaying 54 rfl) (by decide) ?_
            refine ev_iadd (a_dec_at dc_Su_chanceOfStaying 56 rfl) ?_
            refine ev_istore (by decide) rfl (a_dec_at dc_Su_chanceOfStaying 57 rfl) ?_
            refine ev_iinc (v := 1) rfl rfl (by decide) rfl (a_dec_at dc_Su_chanceOfStaying 58 rfl) ?_
            refine ev_goto (tgt := 31) (a_dec_at dc_Su_chanceOfStaying 59 rfl) (by decide) ?_
            exact Ev.drop (L' := [.ref 75, .ref 17, .int v2, .int v3, .int (v4 + x9), .int (v5 + 1), .retAddr 0]) (And.intro rfl (And.intro rfl (And.intro rfl (And.intro rfl (And.intro rfl (And.intro rfl trivial)))))) H
set_option maxRecDepth 20000 in
theorem t_B_pair {l : Launch} {h : Nat} (mi : TMi) (ml : TMl) (z : Nat) (a1 : Int32) (a2 : Int32) {Q : Int32 → TMi → TMl → Nat → Prop} (H : Q ((a1 * 4) + a2) mi ml z) : CI l (h + 1) m_B_pair [.int a1, .int a2] mi ml z Q := by
  show Ev l (h + 1) m_B_pair 0 ([.int a1, .int a2], [], st mi ml z) (qI Q)
  refine ev_iload_n (i := 0) rfl rfl (a_dec_at dc_B_pair 0 rfl) ?_
  refine ev_iconst (v := 4) rfl (a_dec_at dc_B_pair 1 rfl) ?_
  refine ev_imul (a_dec_at dc_B_pair 2 rfl) ?_
  refine ev_iload_n (i := 1) rfl rfl (a_dec_at dc_B_pair 3 rfl) ?_
  refine ev_iadd (a_dec_at dc_B_pair 4 rfl) ?_
  exact m_retI (a_dec_at dc_B_pair 5 rfl) rfl rfl H
set_option maxRecDepth 20000 in
theorem t_B_feed {l : Launch} {h : Nat} (mi : TMi) (ml : TMl) (z : Nat) (a1 : Int32) (a2 : Int32) (a3 : Int32) (a4 : Int32) (a5 : Int32) {Q : Int32 → TMi → TMl → Nat → Prop} (H : (((mi 1 1) ≤ 880 → CV l h m_B_tapeInt [.ref 1, .int a1] mi ml z (fun mi2 ml2 z2 => CV l h m_B_tapeInt [.ref 1, .int a2] mi2 ml2 z2 (fun mi3 ml3 z3 => CV l h m_B_tapeInt [.ref 1, .int a3] mi3 ml3 z3 (fun mi4 ml4 z4 => CV l h m_B_tapeInt [.ref 1, .int a4] mi4 ml4 z4 (fun mi5 ml5 z5 => CV l h m_B_tapeInt [.ref 1, .int a5] mi5 ml5 z5 (fun mi6 ml6 z6 => Q (mi6 1 1) mi6 ml6 z6)))))) ∧ (¬ (mi 1 1) ≤ 880 → Q (-5) mi ml z))) : CI l (h + 1) m_B_feed [.ref 1, .int a1, .int a2, .int a3, .int a4, .int a5] mi ml z Q := by
  show Ev l (h + 1) m_B_feed 0 ([.ref 1, .int a1, .int a2, .int a3, .int a4, .int a5], [], st mi ml z) (qI Q)
  refine ev_aload_n (i := 0) rfl rfl (a_dec_at dc_B_feed 0 rfl) ?_
  refine m_getI fl_B_121 rfl sh1 (a_dec_at dc_B_feed 1 rfl) ?_
  refine ev_sipush (v := 880) rfl (a_dec_at dc_B_feed 2 rfl) ?_
  refine ev_icmp_le (tgt := 13) (a_dec_at dc_B_feed 3 rfl) (by decide) (fun b1 => ?_) (fun b1 => ?_)
  · have H := H.1 b1
    refine ev_aload_n (i := 0) rfl rfl (a_dec_at dc_B_feed 6 rfl) ?_
    refine ev_iload_n (i := 1) rfl rfl (a_dec_at dc_B_feed 7 rfl) ?_
    refine cV1V cs_B_124 sh1 rfl (Nat.le_of_ble_eq_true rfl) (Nat.le_of_ble_eq_true rfl) (a_dec_at dc_B_feed 8 rfl) ?_
    refine CV.mono (fun mi2 ml2 z2 H => ?_) H
    refine ev_aload_n (i := 0) rfl rfl (a_dec_at dc_B_feed 9 rfl) ?_
    refine ev_iload_n (i := 2) rfl rfl (a_dec_at dc_B_feed 10 rfl) ?_
    refine cV1V cs_B_124 sh1 rfl (Nat.le_of_ble_eq_true rfl) (Nat.le_of_ble_eq_true rfl) (a_dec_at dc_B_feed 11 rfl) ?_
    refine CV.mono (fun mi3 ml3 z3 H => ?_) H
    refine ev_aload_n (i := 0) rfl rfl (a_dec_at dc_B_feed 12 rfl) ?_
    refine ev_iload_n (i := 3) rfl rfl (a_dec_at dc_B_feed 13 rfl) ?_
    refine cV1V cs_B_124 sh1 rfl (Nat.le_of_ble_eq_true rfl) (Nat.le_of_ble_eq_true rfl) (a_dec_at dc_B_feed 14 rfl) ?_
    refine CV.mono (fun mi4 ml4 z4 H => ?_) H
    refine ev_aload_n (i := 0) rfl rfl (a_dec_at dc_B_feed 15 rfl) ?_
    refine ev_iload rfl (a_dec_at dc_B_feed 16 rfl) ?_
    refine cV1V cs_B_124 sh1 rfl (Nat.le_of_ble_eq_true rfl) (Nat.le_of_ble_eq_true rfl) (a_dec_at dc_B_feed 17 rfl) ?_
    refine CV.mono (fun mi5 ml5 z5 H => ?_) H
    refine ev_aload_n (i := 0) rfl rfl (a_dec_at dc_B_feed 18 rfl) ?_
    refine ev_iload rfl (a_dec_at dc_B_feed 19 rfl) ?_
    refine cV1V cs_B_124 sh1 rfl (Nat.le_of_ble_eq_true rfl) (Nat.le_of_ble_eq_true rfl) (a_dec_at dc_B_feed 20 rfl) ?_
    refine CV.mono (fun mi6 ml6 z6 H => ?_) H
    refine ev_aload_n (i := 0) rfl rfl (a_dec_at dc_B_feed 21 rfl) ?_
    refine m_getI fl_B_121 rfl sh1 (a_dec_at dc_B_feed 22 rfl) ?_
    exact m_retI (a_dec_at dc_B_feed 23 rfl) rfl rfl H
  · have H := H.2 b1
    refine ev_bipush (v := (-5)) rfl (a_dec_at dc_B_feed 4 rfl) ?_
    exact m_retI (a_dec_at dc_B_feed 5 rfl) rfl rfl H
set_option maxRecDepth 20000 in
theorem t_B_tapeInt {l : Launch} {h : Nat} (mi : TMi) (ml : TMl) (z : Nat) (a1 : Int32) {Q : TMi → TMl → Nat → Prop} (H : Ev l (h + 1) m_B_tapeInt 3 ([.ref 1, .int a1, .int 24], [], st mi ml z) (qV Q)) : CV l (h + 1) m_B_tapeInt [.ref 1, .int a1] mi ml z Q := by
  show Ev l (h + 1) m_B_tapeInt 0 ([.ref 1, .int a1, .retAddr 0], [], st mi ml z) (qV Q)
  refine ev_bipush (v := 24) rfl (a_dec_at dc_B_tapeInt 0 rfl) ?_
  refine ev_istore_n (i := 2) rfl (by decide) rfl (a_dec_at dc_B_tapeInt 1 rfl) ?_
  exact Ev.drop (L' := [.ref 1, .int a1, .int 24]) (And.intro rfl (And.intro rfl (And.intro rfl trivial))) H
set_option maxRecDepth 20000 in
theorem t_B_tapeInt_3 {l : Launch} {h : Nat} (mi : TMi) (ml : TMl) (z : Nat) (v1 : Int32) (v2 : Int32) {Q : TMi → TMl → Nat → Prop} (H : ((v2 < 0 → Q mi ml z) ∧ (¬ v2 < 0 → ((900 ≤ (mi 1 1) → Q mi ml z) ∧ (¬ 900 ≤ (mi 1 1) → (vp_in (mi 1 1) 900) ∧ Ev l (h + 1) m_B_tapeInt 3 ([.ref 1, .int v1, .int (v2 + (-8))], [], st (up (up mi 2 ((mi 1 1).toNatClampNeg) (vp_nar .byte ((v1 >>> (v2 &&& 31)).toInt8.toInt32))) 1 1 (((up mi 2 ((mi 1 1).toNatClampNeg) (vp_nar .byte ((v1 >>> (v2 &&& 31)).toInt8.toInt32))) 1 1) + 1)) ml z) (qV Q)))))) : Ev l (h + 1) m_B_tapeInt 3 ([.ref 1, .int v1, .int v2], [], st mi ml z) (qV Q) := by
  refine ev_iload_n (i := 2) rfl rfl (a_dec_at dc_B_tapeInt 2 rfl) ?_
  refine ev_if_lt (tgt := 46) (a_dec_at dc_B_tapeInt 3 rfl) (by decide) (fun b1 => ?_) (fun b1 => ?_)
  · have H := H.1 b1
    exact m_retV (a_dec_at dc_B_tapeInt 25 rfl) rfl H
  · have H := H.2 b1
    refine ev_aload_n (i := 0) rfl rfl (a_dec_at dc_B_tapeInt 4 rfl) ?_
    refine m_getI fl_B_121 rfl sh1 (a_dec_at dc_B_tapeInt 5 rfl) ?_
    refine ev_sipush (v := 900) rfl (a_dec_at dc_B_tapeInt 6 rfl) ?_
    refine ev_icmp_ge (tgt := 46) (a_dec_at dc_B_tapeInt 7 rfl) (by decide) (fun b2 => ?_) (fun b2 => ?_)
    · have H := H.1 b2
      exact m_retV (a_dec_at dc_B_tapeInt 25 rfl) rfl H
    · have H := H.2 b2
      refine ev_aload_n (i := 0) rfl rfl (a_dec_at dc_B_tapeInt 8 rfl) ?_
      refine m_getR (y := 2) fl_B_9 rfl sh1 (mr_1_0 _) (by decide) (a_dec_at dc_B_tapeInt 9 rfl) ?_
      refine ev_aload_n (i := 0) rfl rfl (a_dec_at dc_B_tapeInt 10 rfl) ?_
      refine m_getI fl_B_121 rfl sh1 (a_dec_at dc_B_tapeInt 11 rfl) ?_
      refine ev_iload_n (i := 1) rfl rfl (a_dec_at dc_B_tapeInt 12 rfl) ?_
      refine ev_iload_n (i := 2) rfl rfl (a_dec_at dc_B_tapeInt 13 rfl) ?_
      refine ev_ishr (a_dec_at dc_B_tapeInt 14 rfl) ?_
      refine ev_i2b (a_dec_at dc_B_tapeInt 15 rfl) ?_
      obtain ⟨c3, H⟩ := H
      refine w_bast (k := (mi 1 1).toNatClampNeg) sh2 c3 rfl (a_dec_at dc_B_tapeInt 16 rfl) ?_
      refine ev_aload_n (i := 0) rfl rfl (a_dec_at dc_B_tapeInt 17 rfl) ?_
      refine ev_dup rfl (a_dec_at dc_B_tapeInt 18 rfl) ?_
      refine m_getI fl_B_121 rfl sh1 (a_dec_at dc_B_tapeInt 19 rfl) ?_
      refine ev_iconst (v := 1) rfl (a_dec_at dc_B_tapeInt 20 rfl) ?_
      refine ev_iadd (a_dec_at dc_B_tapeInt 21 rfl) ?_
      refine m_putI fl_B_121 rfl (fun _ _ _ h => by cases h; exact Or.inl rfl) sh1 (a_dec_at dc_B_tapeInt 22 rfl) ?_
      refine ev_iinc (v := (-8)) rfl rfl (by decide) rfl (a_dec_at dc_B_tapeInt 23 rfl) ?_
      refine ev_goto (tgt := 3) (a_dec_at dc_B_tapeInt 24 rfl) (by decide) ?_
      exact Ev.drop (L' := [.ref 1, .int v1, .int (v2 + (-8))]) (And.intro rfl (And.intro rfl (And.intro rfl trivial))) H
set_option maxRecDepth 20000 in
theorem t_B_land {l : Launch} {h : Nat} (mi : TMi) (ml : TMl) (z : Nat) (a1 : Int32) {Q : Int32 → TMi → TMl → Nat → Prop} (H : ((a1 < 0 → Q (-3) mi ml z) ∧ (¬ a1 < 0 → ((a1 ≤ (mi 1 1) → CV l h m_To_open [.ref 12, .int a1] mi ml z (fun mi3 ml3 z3 => CV l h m_Re_readAll [.ref 13] mi3 ml3 z3 (fun mi4 ml4 z4 => ((((up (up (up mi4 1 1 0) 1 5 ((up mi4 1 1 0) 12 6)) 1 6 ((up (up mi4 1 1 0) 1 5 ((up mi4 1 1 0) 12 6)) 12 7)) 1 5) = 0 → CV l h m_La_copyFrom [.ref 18, .ref 3] (up (up (up mi4 1 1 0) 1 5 ((up mi4 1 1 0) 12 6)) 1 6 ((up (up mi4 1 1 0) 1 5 ((up mi4 1 1 0) 12 6)) 12 7)) ml4 z4 (fun mi6 ml6 z6 => CV l h m_Sc_begin [.ref 17] mi6 ml6 z6 (fun mi7 ml7 z7 => CV l h m_Pa_forget [.ref 42] mi7 ml7 z7 (fun mi8 ml8 z8 => Q (mi8 18 2) mi8 ml8 z8)))) ∧ (¬ ((up (up (up mi4 1 1 0) 1 5 ((up mi4 1 1 0) 12 6)) 1 6 ((up (up mi4 1 1 0) 1 5 ((up mi4 1 1 0) 12 6)) 12 7)) 1 5) = 0 → Q ((-30) - ((up (up (up mi4 1 1 0) 1 5 ((up mi4 1 1 0) 12 6)) 1 6 ((up (up mi4 1 1 0) 1 5 ((up mi4 1 1 0) 12 6)) 12 7)) 1 5)) (up (up (up mi4 1 1 0) 1 5 ((up mi4 1 1 0) 12 6)) 1 6 ((up (up mi4 1 1 0) 1 5 ((up mi4 1 1 0) 12 6)) 12 7)) ml4 z4))))) ∧ (¬ a1 ≤ (mi 1 1) → Q (-3) mi ml z))))) : CI l (h + 1) m_B_land [.ref 1, .int a1] mi ml z Q := by
  show Ev l (h + 1) m_B_land 0 ([.ref 1, .int a1], [], st mi ml z) (qI Q)
  refine ev_iload_n (i := 1) rfl rfl (a_dec_at dc_B_land 0 rfl) ?_
  refine ev_if_lt (tgt := 12) (a_dec_at dc_B_land 1 rfl) (by decide) (fun b1 => ?_) (fun b1 => ?_)
  · have H := H.1 b1
    refine ev_bipush (v := (-3)) rfl (a_dec_at dc_B_land 6 rfl) ?_
    exact m_retI (a_dec_at dc_B_land 7 rfl) rfl rfl H
  · have H := H.2 b1
    refine ev_iload_n (i := 1) rfl rfl (a_dec_at dc_B_land 2 rfl) ?_
    refine ev_aload_n (i := 0) rfl rfl (a_dec_at dc_B_land 3 rfl) ?_
    refine m_getI fl_B_121 rfl sh1 (a_dec_at dc_B_land 4 rfl) ?_
    refine ev_icmp_le (tgt := 15) (a_dec_at dc_B_land 5 rfl) (by decide) (fun b2 => ?_) (fun b2 => ?_)
    · have H := H.1 b2
      refine ev_aload_n (i := 0) rfl rfl (a_dec_at dc_B_land 8 rfl) ?_
      refine m_getR (y := 12) fl_B_25 rfl sh1 (mr_1_3 _) (by decide) (a_dec_at dc_B_land 9 rfl) ?_
      refine ev_iload_n (i := 1) rfl rfl (a_dec_at dc_B_land 10 rfl) ?_
      refine cV1V cs_B_128 sh12 rfl (Nat.le_of_ble_eq_true rfl) (Nat.le_of_ble_eq_true rfl) (a_dec_at dc_B_land 11 rfl) ?_
      refine CV.mono (fun mi3 ml3 z3 H => ?_) H
      refine ev_aload_n (i := 0) rfl rfl (a_dec_at dc_B_land 12 rfl) ?_
      refine m_getR (y := 13) fl_B_34 rfl sh1 (mr_1_4 _) (by decide) (a_dec_at dc_B_land 13 rfl) ?_
      refine cV0V cs_B_131 sh13 rfl (Nat.le_of_ble_eq_true rfl) (Nat.le_of_ble_eq_true rfl) (a_dec_at dc_B_land 14 rfl) ?_
      refine CV.mono (fun mi4 ml4 z4 H => ?_) H
      refine ev_aload_n (i := 0) rfl rfl (a_dec_at dc_B_land 15 rfl) ?_
      refine ev_iconst (v := 0) rfl (a_dec_at dc_B_land 16 rfl) ?_
      refine m_putI fl_B_121 rfl (fun _ _ _ h => by cases h; exact Or.inl rfl) sh1 (a_dec_at dc_B_land 17 rfl) ?_
      refine ev_aload_n (i := 0) rfl rfl (a_dec_at dc_B_land 18 rfl) ?_
      refine ev_aload_n (i := 0) rfl rfl (a_dec_at dc_B_land 19 rfl) ?_
      refine m_getR (y := 12) fl_B_25 rfl sh1 (mr_1_3 _) (by decide) (a_dec_at dc_B_land 20 rfl) ?_
      refine m_getI fl_B_134 rfl sh12 (a_dec_at dc_B_land 21 rfl) ?_
      refine m_putI fl_B_137 rfl (fun _ _ _ h => by cases h; exact Or.inl rfl) sh1 (a_dec_at dc_B_land 22 rfl) ?_
      refine ev_aload_n (i := 0) rfl rfl (a_dec_at dc_B_land 23 rfl) ?_
      refine ev_aload_n (i := 0) rfl rfl (a_dec_at dc_B_land 24 rfl) ?_
      refine m_getR (y := 12) fl_B_25 rfl sh1 (mr_1_3 _) (by decide) (a_dec_at dc_B_land 25 rfl) ?_
      refine m_getI fl_B_138 rfl sh12 (a_dec_at dc_B_land 26 rfl) ?_
      refine m_putI fl_B_38 rfl (fun _ _ _ h => by cases h; exact Or.inl rfl) sh1 (a_dec_at dc_B_land 27 rfl) ?_
      refine ev_aload_n (i := 0) rfl rfl (a_dec_at dc_B_land 28 rfl) ?_
      refine m_getI fl_B_137 rfl sh1 (a_dec_at dc_B_land 29 rfl) ?_
      refine ev_if_eq (tgt := 72) (a_dec_at dc_B_land 30 rfl) (by decide) (fun b5 => ?_) (fun b5 => ?_)
      · have H := H.1 b5
        refine ev_aload_n (i := 0) rfl rfl (a_dec_at dc_B_land 36 rfl) ?_
        refine m_getR (y := 17) fl_B_54 rfl sh1 (mr_1_8 _) (by decide) (a_dec_at dc_B_land 37 rfl) ?_
        refine m_getR (y := 18) fl_B_58 rfl sh17 (mr_17_0 _) (by decide) (a_dec_at dc_B_land 38 rfl) ?_
        refine ev_aload_n (i := 0) rfl rfl (a_dec_at dc_B_land 39 rfl) ?_
        refine m_getR (y := 3) fl_B_16 rfl sh1 (mr_1_2 _) (by decide) (a_dec_at dc_B_land 40 rfl) ?_
        refine cV1V cs_B_139 sh18 rfl (Nat.le_of_ble_eq_true rfl) (Nat.le_of_ble_eq_true rfl) (a_dec_at dc_B_land 41 rfl) ?_
        refine CV.mono (fun mi6 ml6 z6 H => ?_) H
        refine ev_aload_n (i := 0) rfl rfl (a_dec_at dc_B_land 42 rfl) ?_
        refine m_getR (y := 17) fl_B_54 rfl sh1 (mr_1_8 _) (by decide) (a_dec_at dc_B_land 43 rfl) ?_
        refine cV0V cs_B_118 sh17 rfl (Nat.le_of_ble_eq_true rfl) (Nat.le_of_ble_eq_true rfl) (a_dec_at dc_B_land 44 rfl) ?_
        refine CV.mono (fun mi7 ml7 z7 H => ?_) H
        refine ev_aload_n (i := 0) rfl rfl (a_dec_at dc_B_land 45 rfl) ?_
        refine m_getR (y := 42) fl_B_75 rfl sh1 (mr_1_12 _) (by decide) (a_dec_at dc_B_land 46 rfl) ?_
        refine cV0V cs_B_143 sh42 rfl (Nat.le_of_ble_eq_true rfl) (Nat.le_of_ble_eq_true rfl) (a_dec_at dc_B_land 47 rfl) ?_
        refine CV.mono (fun mi8 ml8 z8 H => ?_) H
        refine ev_aload_n (i := 0) rfl rfl (a_dec_at dc_B_land 48 rfl) ?_
        refine m_getR (y := 17) fl_B_54 rfl sh1 (mr_1_8 _) (by decide) (a_dec_at dc_B_land 49 rfl) ?_
        refine m_getR (y := 18) fl_B_58 rfl sh17 (mr_17_0 _) (by decide) (a_dec_at dc_B_land 50 rfl) ?_
        refine m_getI fl_B_146 rfl sh18 (a_dec_at dc_B_land 51 rfl) ?_
        exact m_retI (a_dec_at dc_B_land 52 rfl) rfl rfl H
      · have H := H.2 b5
        refine ev_bipush (v := (-30)) rfl (a_dec_at dc_B_land 31 rfl) ?_
        refine ev_aload_n (i := 0) rfl rfl (a_dec_at dc_B_land 32 rfl) ?_
        refine m_getI fl_B_137 rfl sh1 (a_dec_at dc_B_land 33 rfl) ?_
        refine ev_isub (a_dec_at dc_B_land 34 rfl) ?_
        exact m_retI (a_dec_at dc_B_land 35 rfl) rfl rfl H
    · have H := H.2 b2
      refine ev_bipush (v := (-3)) rfl (a_dec_at dc_B_land 6 rfl) ?_
      exact m_retI (a_dec_at dc_B_land 7 rfl) rfl rfl H
set_option maxRecDepth 20000 in
theorem t_B_fault {l : Launch} {h : Nat} (mi : TMi) (ml : TMl) (z : Nat) (a1 : Int32) {Q : Int32 → TMi → TMl → Nat → Prop} (H : ((a1 = 0 → Q (mi 1 5) mi ml z) ∧ ((a1 = 1 → Q (mi 1 6) mi ml z) ∧ (¬ a1 = 0 → ¬ a1 = 1 → Q (-1) mi ml z)))) : CI l (h + 1) m_B_fault [.ref 1, .int a1] mi ml z Q := by
  show Ev l (h + 1) m_B_fault 0 ([.ref 1, .int a1], [], st mi ml z) (qI Q)
  refine ev_iload_n (i := 1) rfl rfl (a_dec_at dc_B_fault 0 rfl) ?_
  by_cases e1 : a1 = 0
  · have H := H.1 e1
    refine ev_lookup (off := 27) (tgt := 28) (a_dec_at dc_B_fault 1 rfl) (by decide) (by rw [e1]; decide) (by decide) ?_
    refine ev_aload_n (i := 0) rfl rfl (a_dec_at dc_B_fault 2 rfl) ?_
    refine m_getI fl_B_137 rfl sh1 (a_dec_at dc_B_fault 3 rfl) ?_
    exact m_retI (a_dec_at dc_B_fault 4 rfl) rfl rfl H
  have H := H.2
  by_cases e2 : a1 = 1
  · have H := H.1 e2
    refine ev_lookup (off := 32) (tgt := 33) (a_dec_at dc_B_fault 1 rfl) (by decide) (by rw [e2]; decide) (by decide) ?_
    refine ev_aload_n (i := 0) rfl rfl (a_dec_at dc_B_fault 5 rfl) ?_
    refine m_getI fl_B_38 rfl sh1 (a_dec_at dc_B_fault 6 rfl) ?_
    exact m_retI (a_dec_at dc_B_fault 7 rfl) rfl rfl H
  have H := H.2
  refine ev_lookup (off := 37) (tgt := 38) (a_dec_at dc_B_fault 1 rfl) (by decide) (by refine (lv_osw (k := 0) e1 (by decide)).trans ?_; refine (lv_osw (k := 1) e2 (by decide)).trans ?_; rfl) (by decide) ?_
  have H := H e1 e2
  refine ev_iconst (v := (-1)) rfl (a_dec_at dc_B_fault 8 rfl) ?_
  exact m_retI (a_dec_at dc_B_fault 9 rfl) rfl rfl H
set_option maxRecDepth 20000 in
theorem t_B_beck {l : Launch} {h : Nat} (mi : TMi) (ml : TMl) (z : Nat) (a1 : Int32) (a2 : Int32) {Q : Int32 → TMi → TMl → Nat → Prop} (H : CI l h m_La_hasBeck [.ref 18, .int a1] mi ml z (fun x1 mi1 ml1 z1 => ((¬ x1 = 0 → ((a2 = 0 → CI l h m_Sc_whereOf [.ref 17, .int a1] mi1 ml1 z1 (fun x4 mi4 ml4 z4 => Q x4 mi4 ml4 z4)) ∧ ((a2 = 1 → CI l h m_Sc_flowOf [.ref 17, .int a1] mi1 ml1 z1 (fun x6 mi6 ml6 z6 => Q x6 mi6 ml6 z6)) ∧ ((a2 = 2 → (vp_in a1 6) ∧ Q (mi1 20 a1.toNatClampNeg) mi1 ml1 z1) ∧ ((a2 = 3 → (vp_in a1 6) ∧ Q (mi1 21 a1.toNatClampNeg) mi1 ml1 z1) ∧ ((a2 = 4 → (vp_in a1 6) ∧ Q (mi1 32 a1.toNatClampNeg) mi1 ml1 z1) ∧ (¬ a2 = 0 → ¬ a2 = 1 → ¬ a2 = 2 → ¬ a2 = 3 → ¬ a2 = 4 → Q (-2) mi1 ml1 z1))))))) ∧ (x1 = 0 → Q (-2) mi1 ml1 z1)))) : CI l (h + 1) m_B_beck [.ref 1, .int a1, .int a2] mi ml z Q := by
  show Ev l (h + 1) m_B_beck 0 ([.ref 1, .int a1, .int a2], [], st mi ml z) (qI Q)
  refine ev_aload_n (i := 0) rfl rfl (a_dec_at dc_B_beck 0 rfl) ?_
  refine m_getR (y := 17) fl_B_54 rfl sh1 (mr_1_8 _) (by decide) (a_dec_at dc_B_beck 1 rfl) ?_
  refine m_getR (y := 18) fl_B_58 rfl sh17 (mr_17_0 _) (by decide) (a_dec_at dc_B_beck 2 rfl) ?_
  refine ev_iload_n (i := 1) rfl rfl (a_dec_at dc_B_beck 3 rfl) ?_
  refine cV1I cs_B_149 sh18 rfl (Nat.le_of_ble_eq_true rfl) (Nat.le_of_ble_eq_true rfl) (a_dec_at dc_B_beck 4 rfl) ?_
  refine CI.mono (fun x1 mi1 ml1 z1 H => ?_) H
  refine ev_if_ne (tgt := 17) (a_dec_at dc_B_beck 5 rfl) (by decide) (fun b2 => ?_) (fun b2 => ?_)
  · have H := H.1 b2
    refine ev_iload_n (i := 2) rfl rfl (a_dec_at dc_B_beck 8 rfl) ?_
    by_cases e3 : a2 = 0
    · have H := H.1 e3
      refine w_tableIn (c := 0) (off := 34) (tgt := 52) (a_dec_at dc_B_beck 9 rfl) e3 (by decide) (by decide) (by decide) (by decide) ?_
      refine ev_aload_n (i := 0) rfl rfl (a_dec_at dc_B_beck 10 rfl) ?_
      refine m_getR (y := 17) fl_B_54 rfl sh1 (mr_1_8 _) (by decide) (a_dec_at dc_B_beck 11 rfl) ?_
      refine ev_iload_n (i := 1) rfl rfl (a_dec_at dc_B_beck 12 rfl) ?_
      refine cV1I cs_B_153 sh17 rfl (Nat.le_of_ble_eq_true rfl) (Nat.le_of_ble_eq_true rfl) (a_dec_at dc_B_beck 13 rfl) ?_
      refine CI.mono (fun x4 mi4 ml4 z4 H => ?_) H
      exact m_retI (a_dec_at dc_B_beck 14 rfl) rfl rfl H
    have H := H.2
    by_cases e5 : a2 = 1
    · have H := H.1 e5
      refine w_tableIn (c := 1) (off := 43) (tgt := 61) (a_dec_at dc_B_beck 9 rfl) e5 (by decide) (by decide) (by decide) (by decide) ?_
      refine ev_aload_n (i := 0) rfl rfl (a_dec_at dc_B_beck 15 rfl) ?_
      refine m_getR (y := 17) fl_B_54 rfl sh1 (mr_1_8 _) (by decide) (a_dec_at dc_B_beck 16 rfl) ?_
      refine ev_iload_n (i := 1) rfl rfl (a_dec_at dc_B_beck 17 rfl) ?_
      refine cV1I cs_B_157 sh17 rfl (Nat.le_of_ble_eq_true rfl) (Nat.le_of_ble_eq_true rfl) (a_dec_at dc_B_beck 18 rfl) ?_
      refine CI.mono (fun x6 mi6 ml6 z6 H => ?_) H
      exact m_retI (a_dec_at dc_B_beck 19 rfl) rfl rfl H
    have H := H.2
    by_cases e7 : a2 = 2
    · have H := H.1 e7
      refine w_tableIn (c := 2) (off := 52) (tgt := 70) (a_dec_at dc_B_beck 9 rfl) e7 (by decide) (by decide) (by decide) (by decide) ?_
      refine ev_aload_n (i := 0) rfl rfl (a_dec_at dc_B_beck 20 rfl) ?_
      refine m_getR (y := 17) fl_B_54 rfl sh1 (mr_1_8 _) (by decide) (a_dec_at dc_B_beck 21 rfl) ?_
      refine m_getR (y := 18) fl_B_58 rfl sh17 (mr_17_0 _) (by decide) (a_dec_at dc_B_beck 22 rfl) ?_
      refine m_getR (y := 20) fl_B_160 rfl sh18 (mr_18_4 _) (by decide) (a_dec_at dc_B_beck 23 rfl) ?_
      refine ev_iload_n (i := 1) rfl rfl (a_dec_at dc_B_beck 24 rfl) ?_
      obtain ⟨c8, H⟩ := H
      refine w_iald (k := a1.toNatClampNeg) sh20 c8 rfl (a_dec_at dc_B_beck 25 rfl) ?_
      exact m_retI (a_dec_at dc_B_beck 26 rfl) rfl rfl H
    have H := H.2
    by_cases e9 : a2 = 3
    · have H := H.1 e9
      refine w_tableIn (c := 3) (off := 65) (tgt := 83) (a_dec_at dc_B_beck 9 rfl) e9 (by decide) (by decide) (by decide) (by decide) ?_
      refine ev_aload_n (i := 0) rfl rfl (a_dec_at dc_B_beck 27 rfl) ?_
      refine m_getR (y := 17) fl_B_54 rfl sh1 (mr_1_8 _) (by decide) (a_dec_at dc_B_beck 28 rfl) ?_
      refine m_getR (y := 18) fl_B_58 rfl sh17 (mr_17_0 _) (by decide) (a_dec_at dc_B_beck 29 rfl) ?_
      refine m_getR (y := 21) fl_B_164 rfl sh18 (mr_18_5 _) (by decide) (a_dec_at dc_B_beck 30 rfl) ?_
      refine ev_iload_n (i := 1) rfl rfl (a_dec_at dc_B_beck 31 rfl) ?_
      obtain ⟨c10, H⟩ := H
      refine w_iald (k := a1.toNatClampNeg) sh21 c10 rfl (a_dec_at dc_B_beck 32 rfl) ?_
      exact m_retI (a_dec_at dc_B_beck 33 rfl) rfl rfl H
    have H := H.2
    by_cases e11 : a2 = 4
    · have H := H.1 e11
      refine w_tableIn (c := 4) (off := 78) (tgt := 96) (a_dec_at dc_B_beck 9 rfl) e11 (by decide) (by decide) (by decide) (by decide) ?_
      refine ev_aload_n (i := 0) rfl rfl (a_dec_at dc_B_beck 34 rfl) ?_
      refine m_getR (y := 17) fl_B_54 rfl sh1 (mr_1_8 _) (by decide) (a_dec_at dc_B_beck 35 rfl) ?_
      refine m_getR (y := 32) fl_B_167 rfl sh17 (mr_17_7 _) (by decide) (a_dec_at dc_B_beck 36 rfl) ?_
      refine ev_iload_n (i := 1) rfl rfl (a_dec_at dc_B_beck 37 rfl) ?_
      obtain ⟨c12, H⟩ := H
      refine w_iald (k := a1.toNatClampNeg) sh32 c12 rfl (a_dec_at dc_B_beck 38 rfl) ?_
      exact m_retI (a_dec_at dc_B_beck 39 rfl) rfl rfl H
    have H := H.2
    refine w_tableOut (tgt := 106) [0, 1, 2, 3, 4] (a_dec_at dc_B_beck 9 rfl) (by decide) (by intro c hc; simp only [List.mem_cons, List.not_mem_nil, or_false] at hc; rcases hc with rfl | rfl | rfl | rfl | rfl <;> assumption) (by decide) ?_
    have H := H e3 e5 e7 e9 e11
    refine ev_bipush (v := (-2)) rfl (a_dec_at dc_B_beck 40 rfl) ?_
    exact m_retI (a_dec_at dc_B_beck 41 rfl) rfl rfl H
  · have H := H.2 b2
    refine ev_bipush (v := (-2)) rfl (a_dec_at dc_B_beck 6 rfl) ?_
    exact m_retI (a_dec_at dc_B_beck 7 rfl) rfl rfl H
set_option maxRecDepth 20000 in
theorem t_B_river {l : Launch} {h : Nat} (mi : TMi) (ml : TMl) (z : Nat) (a1 : Int32) (a2 : Int32) {Q : Int32 → TMi → TMl → Nat → Prop} (H : CI l h m_La_hasRiver [.ref 18, .int a1] mi ml z (fun x1 mi1 ml1 z1 => ((¬ x1 = 0 → ((a2 = 0 → CI l h m_Sc_roomOf [.ref 17, .int a1] mi1 ml1 z1 (fun x4 mi4 ml4 z4 => Q x4 mi4 ml4 z4)) ∧ ((a2 = 1 → (vp_in a1 4) ∧ Q (mi1 24 a1.toNatClampNeg) mi1 ml1 z1) ∧ ((a2 = 2 → (vp_in a1 4) ∧ Q (mi1 25 a1.toNatClampNeg) mi1 ml1 z1) ∧ ((a2 = 3 → CI l h m_Sc_becksIn [.ref 17, .ref 27, .int a1] mi1 ml1 z1 (fun x10 mi10 ml10 z10 => Q x10 mi10 ml10 z10)) ∧ ((a2 = 4 → CI l h m_Sc_becksIn [.ref 17, .ref 27, .int a1] mi1 ml1 z1 (fun x12 mi12 ml12 z12 => CI l h m_Sc_flowOfSet [.ref 17, .int x12] mi12 ml12 z12 (fun x13 mi13 ml13 z13 => Q x13 mi13 ml13 z13))) ∧ ((a2 = 5 → CI l h m_Sc_becksIn [.ref 17, .ref 27, .int a1] mi1 ml1 z1 (fun x15 mi15 ml15 z15 => CI l h m_Sc_leastLiked [.ref 17, .int a1, .int x15] mi15 ml15 z15 (fun x16 mi16 ml16 z16 => Q x16 mi16 ml16 z16))) ∧ (¬ a2 = 0 → ¬ a2 = 1 → ¬ a2 = 2 → ¬ a2 = 3 → ¬ a2 = 4 → ¬ a2 = 5 → Q (-2) mi1 ml1 z1)))))))) ∧ (x1 = 0 → Q (-2) mi1 ml1 z1)))) : CI l (h + 1) m_B_river [.ref 1, .int a1, .int a2] mi ml z Q := by
  show Ev l (h + 1) m_B_river 0 ([.ref 1, .int a1, .int a2], [], st mi ml z) (qI Q)
  refine ev_aload_n (i := 0) rfl rfl (a_dec_at dc_B_river 0 rfl) ?_
  refine m_getR (y := 17) fl_B_54 rfl sh1 (mr_1_8 _) (by decide) (a_dec_at dc_B_river 1 rfl) ?_
  refine m_getR (y := 18) fl_B_58 rfl sh17 (mr_17_0 _) (by decide) (a_dec_at dc_B_river 2 rfl) ?_
  refine ev_iload_n (i := 1) rfl rfl (a_dec_at dc_B_river 3 rfl) ?_
  refine cV1I cs_B_170 sh18 rfl (Nat.le_of_ble_eq_true rfl) (Nat.le_of_ble_eq_true rfl) (a_dec_at dc_B_river 4 rfl) ?_
  refine CI.mono (fun x1 mi1 ml1 z1 H => ?_) H
  refine ev_if_ne (tgt := 17) (a_dec_at dc_B_river 5 rfl) (by decide) (fun b2 => ?_) (fun b2 => ?_)
  · have H := H.1 b2
    refine ev_iload_n (i := 2) rfl rfl (a_dec_at dc_B_river 8 rfl) ?_
    by_cases e3 : a2 = 0
    · have H := H.1 e3
      refine w_tableIn (c := 0) (off := 38) (tgt := 56) (a_dec_at dc_B_river 9 rfl) e3 (by decide) (by decide) (by decide) (by decide) ?_
      refine ev_aload_n (i := 0) rfl rfl (a_dec_at dc_B_river 10 rfl) ?_
      refine m_getR (y := 17) fl_B_54 rfl sh1 (mr_1_8 _) (by decide) (a_dec_at dc_B_river 11 rfl) ?_
      refine ev_iload_n (i := 1) rfl rfl (a_dec_at dc_B_river 12 rfl) ?_
      refine cV1I cs_B_173 sh17 rfl (Nat.le_of_ble_eq_true rfl) (Nat.le_of_ble_eq_true rfl) (a_dec_at dc_B_river 13 rfl) ?_
      refine CI.mono (fun x4 mi4 ml4 z4 H => ?_) H
      exact m_retI (a_dec_at dc_B_river 14 rfl) rfl rfl H
    have H := H.2
    by_cases e5 : a2 = 1
    · have H := H.1 e5
      refine w_tableIn (c := 1) (off := 47) (tgt := 65) (a_dec_at dc_B_river 9 rfl) e5 (by decide) (by decide) (by decide) (by decide) ?_
      refine ev_aload_n (i := 0) rfl rfl (a_dec_at dc_B_river 15 rfl) ?_
      refine m_getR (y := 17) fl_B_54 rfl sh1 (mr_1_8 _) (by decide) (a_dec_at dc_B_river 16 rfl) ?_
      refine m_getR (y := 18) fl_B_58 rfl sh17 (mr_17_0 _) (by decide) (a_dec_at dc_B_river 17 rfl) ?_
      refine m_getR (y := 24) fl_B_176 rfl sh18 (mr_18_8 _) (by decide) (a_dec_at dc_B_river 18 rfl) ?_
      refine ev_iload_n (i := 1) rfl rfl (a_dec_at dc_B_river 19 rfl) ?_
      obtain ⟨c6, H⟩ := H
      refine w_iald (k := a1.toNatClampNeg) sh24 c6 rfl (a_dec_at dc_B_river 20 rfl) ?_
      exact m_retI (a_dec_at dc_B_river 21 rfl) rfl rfl H
    have H := H.2
    by_cases e7 : a2 = 2
    · have H := H.1 e7
      refine w_tableIn (c := 2) (off := 60) (tgt := 78) (a_dec_at dc_B_river 9 rfl) e7 (by decide) (by decide) (by decide) (by decide) ?_
      refine ev_aload_n (i := 0) rfl rfl (a_dec_at dc_B_river 22 rfl) ?_
      refine m_getR (y := 17) fl_B_54 rfl sh1 (mr_1_8 _) (by decide) (a_dec_at dc_B_river 23 rfl) ?_
      refine m_getR (y := 18) fl_B_58 rfl sh17 (mr_17_0 _) (by decide) (a_dec_at dc_B_river 24 rfl) ?_
      refine m_getR (y := 25) fl_B_179 rfl sh18 (mr_18_9 _) (by decide) (a_dec_at dc_B_river 25 rfl) ?_
      refine ev_iload_n (i := 1) rfl rfl (a_dec_at dc_B_river 26 rfl) ?_
      obtain ⟨c8, H⟩ := H
      refine w_iald (k := a1.toNatClampNeg) sh25 c8 rfl (a_dec_at dc_B_river 27 rfl) ?_
      exact m_retI (a_dec_at dc_B_river 28 rfl) rfl rfl H
    have H := H.2
    by_cases e9 : a2 = 3
    · have H := H.1 e9
      refine w_tableIn (c := 3) (off := 73) (tgt := 91) (a_dec_at dc_B_river 9 rfl) e9 (by decide) (by decide) (by decide) (by decide) ?_
      refine ev_aload_n (i := 0) rfl rfl (a_dec_at dc_B_river 29 rfl) ?_
      refine m_getR (y := 17) fl_B_54 rfl sh1 (mr_1_8 _) (by decide) (a_dec_at dc_B_river 30 rfl) ?_
      refine ev_aload_n (i := 0) rfl rfl (a_dec_at dc_B_river 31 rfl) ?_
      refine m_getR (y := 17) fl_B_54 rfl sh1 (mr_1_8 _) (by decide) (a_dec_at dc_B_river 32 rfl) ?_
      refine m_getR (y := 27) fl_B_182 rfl sh17 (mr_17_2 _) (by decide) (a_dec_at dc_B_river 33 rfl) ?_
      refine ev_iload_n (i := 1) rfl rfl (a_dec_at dc_B_river 34 rfl) ?_
      refine cV2I cs_B_185 sh17 rfl (Nat.le_of_ble_eq_true rfl) (Nat.le_of_ble_eq_true rfl) (a_dec_at dc_B_river 35 rfl) ?_
      refine CI.mono (fun x10 mi10 ml10 z10 H => ?_) H
      exact m_retI (a_dec_at dc_B_river 36 rfl) rfl rfl H
    have H := H.2
    by_cases e11 : a2 = 4
    · have H := H.1 e11
      refine w_tableIn (c := 4) (off := 89) (tgt := 107) (a_dec_at dc_B_river 9 rfl) e11 (by decide) (by decide) (by decide) (by decide) ?_
      refine ev_aload_n (i := 0) rfl rfl (a_dec_at dc_B_river 37 rfl) ?_
      refine m_getR (y := 17) fl_B_54 rfl sh1 (mr_1_8 _) (by decide) (a_dec_at dc_B_river 38 rfl) ?_
      refine ev_aload_n (i := 0) rfl rfl (a_dec_at dc_B_river 39 rfl) ?_
      refine m_getR (y := 17) fl_B_54 rfl sh1 (mr_1_8 _) (by decide) (a_dec_at dc_B_river 40 rfl) ?_
      refine ev_aload_n (i := 0) rfl rfl (a_dec_at dc_B_river 41 rfl) ?_
      refine m_getR (y := 17) fl_B_54 rfl sh1 (mr_1_8 _) (by decide) (a_dec_at dc_B_river 42 rfl) ?_
      refine m_getR (y := 27) fl_B_182 rfl sh17 (mr_17_2 _) (by decide) (a_dec_at dc_B_river 43 rfl) ?_
      refine ev_iload_n (i := 1) rfl rfl (a_dec_at dc_B_river 44 rfl) ?_
      refine cV2I cs_B_185 sh17 rfl (Nat.le_of_ble_eq_true rfl) (Nat.le_of_ble_eq_true rfl) (a_dec_at dc_B_river 45 rfl) ?_
      refine CI.mono (fun x12 mi12 ml12 z12 H => ?_) H
      refine cV1I cs_B_189 sh17 rfl (Nat.le_of_ble_eq_true rfl) (Nat.le_of_ble_eq_true rfl) (a_dec_at dc_B_river 46 rfl) ?_
      refine CI.mono (fun x13 mi13 ml13 z13 H => ?_) H
      exact m_retI (a_dec_at dc_B_river 47 rfl) rfl rfl H
    have H := H.2
    by_cases e14 : a2 = 5
    · have H := H.1 e14
      refine w_tableIn (c := 5) (off := 112) (tgt := 130) (a_dec_at dc_B_river 9 rfl) e14 (by decide) (by decide) (by decide) (by decide) ?_
      refine ev_aload_n (i := 0) rfl rfl (a_dec_at dc_B_river 48 rfl) ?_
      refine m_getR (y := 17) fl_B_54 rfl sh1 (mr_1_8 _) (by decide) (a_dec_at dc_B_river 49 rfl) ?_
      refine ev_iload_n (i := 1) rfl rfl (a_dec_at dc_B_river 50 rfl) ?_
      refine ev_aload_n (i := 0) rfl rfl (a_dec_at dc_B_river 51 rfl) ?_
      refine m_getR (y := 17) fl_B_54 rfl sh1 (mr_1_8 _) (by decide) (a_dec_at dc_B_river 52 rfl) ?_
      refine ev_aload_n (i := 0) rfl rfl (a_dec_at dc_B_river 53 rfl) ?_
      refine m_getR (y := 17) fl_B_54 rfl sh1 (mr_1_8 _) (by decide) (a_dec_at dc_B_river 54 rfl) ?_
      refine m_getR (y := 27) fl_B_182 rfl sh17 (mr_17_2 _) (by decide) (a_dec_at dc_B_river 55 rfl) ?_
      refine ev_iload_n (i := 1) rfl rfl (a_dec_at dc_B_river 56 rfl) ?_
      refine cV2I cs_B_185 sh17 rfl (Nat.le_of_ble_eq_true rfl) (Nat.le_of_ble_eq_true rfl) (a_dec_at dc_B_river 57 rfl) ?_
      refine CI.mono (fun x15 mi15 ml15 z15 H => ?_) H
      refine cV2I cs_B_192 sh17 rfl (Nat.le_of_ble_eq_true rfl) (Nat.le_of_ble_eq_true rfl) (a_dec_at dc_B_river 58 rfl) ?_
      refine CI.mono (fun x16 mi16 ml16 z16 H => ?_) H
      exact m_retI (a_dec_at dc_B_river 59 rfl) rfl rfl H
    have H := H.2
    refine w_tableOut (tgt := 154) [0, 1, 2, 3, 4, 5] (a_dec_at dc_B_river 9 rfl) (by decide) (by intro c hc; simp only [List.mem_cons, List.not_mem_nil, or_false] at hc; rcases hc with rfl | rfl | rfl | rfl | rfl | rfl <;> assumption) (by decide) ?_
    have H := H e3 e5 e7 e9 e11 e14
    refine ev_bipush (v := (-2)) rfl (a_dec_at dc_B_river 60 rfl) ?_
    exact m_retI (a_dec_at dc_B_river 61 rfl) rfl rfl H
  · have H := H.2 b2
    refine ev_bipush (v := (-2)) rfl (a_dec_at dc_B_river 6 rfl) ?_
    exact m_retI (a_dec_at dc_B_river 7 rfl) rfl rfl H
set_option maxRecDepth 20000 in
theorem t_B_likes {l : Launch} {h : Nat} (mi : TMi) (ml : TMl) (z : Nat) (a1 : Int32) (a2 : Int32) {Q : Int32 → TMi → TMl → Nat → Prop} (H : CI l h m_La_hasBeck [.ref 18, .int a1] mi ml z (fun x1 mi1 ml1 z1 => ((x1 = 0 → Q (-99000002) mi1 ml1 z1) ∧ (¬ x1 = 0 → CI l h m_La_hasRiver [.ref 18, .int a2] mi1 ml1 z1 (fun x3 mi3 ml3 z3 => ((x3 = 0 → Q (-99000002) mi3 ml3 z3) ∧ (¬ x3 = 0 → CI l h m_B_pair [.int a1, .int a2] mi3 ml3 z3 (fun x5 mi5 ml5 z5 => (vp_in x5 24) ∧ Q (mi5 28 x5.toNatClampNeg) mi5 ml5 z5)))))))) : CI l (h + 1) m_B_likes [.ref 1, .int a1, .int a2] mi ml z Q := by
  show Ev l (h + 1) m_B_likes 0 ([.ref 1, .int a1, .int a2], [], st mi ml z) (qI Q)
  refine ev_aload_n (i := 0) rfl rfl (a_dec_at dc_B_likes 0 rfl) ?_
  refine m_getR (y := 17) fl_B_54 rfl sh1 (mr_1_8 _) (by decide) (a_dec_at dc_B_likes 1 rfl) ?_
  refine m_getR (y := 18) fl_B_58 rfl sh17 (mr_17_0 _) (by decide) (a_dec_at dc_B_likes 2 rfl) ?_
  refine ev_iload_n (i := 1) rfl rfl (a_dec_at dc_B_likes 3 rfl) ?_
  refine cV1I cs_B_149 sh18 rfl (Nat.le_of_ble_eq_true rfl) (Nat.le_of_ble_eq_true rfl) (a_dec_at dc_B_likes 4 rfl) ?_
  refine CI.mono (fun x1 mi1 ml1 z1 H => ?_) H
  refine ev_if_eq (tgt := 44) (a_dec_at dc_B_likes 5 rfl) (by decide) (fun b2 => ?_) (fun b2 => ?_)
  · have H := H.1 b2
    refine ev_ldc kc_B_202 (a_dec_at dc_B_likes 20 rfl) ?_
    exact m_retI (a_dec_at dc_B_likes 21 rfl) rfl rfl H
  · have H := H.2 b2
    refine ev_aload_n (i := 0) rfl rfl (a_dec_at dc_B_likes 6 rfl) ?_
    refine m_getR (y := 17) fl_B_54 rfl sh1 (mr_1_8 _) (by decide) (a_dec_at dc_B_likes 7 rfl) ?_
    refine m_getR (y := 18) fl_B_58 rfl sh17 (mr_17_0 _) (by decide) (a_dec_at dc_B_likes 8 rfl) ?_
    refine ev_iload_n (i := 2) rfl rfl (a_dec_at dc_B_likes 9 rfl) ?_
    refine cV1I cs_B_170 sh18 rfl (Nat.le_of_ble_eq_true rfl) (Nat.le_of_ble_eq_true rfl) (a_dec_at dc_B_likes 10 rfl) ?_
    refine CI.mono (fun x3 mi3 ml3 z3 H => ?_) H
    refine ev_if_eq (tgt := 44) (a_dec_at dc_B_likes 11 rfl) (by decide) (fun b4 => ?_) (fun b4 => ?_)
    · have H := H.1 b4
      refine ev_ldc kc_B_202 (a_dec_at dc_B_likes 20 rfl) ?_
      exact m_retI (a_dec_at dc_B_likes 21 rfl) rfl rfl H
    · have H := H.2 b4
      refine ev_aload_n (i := 0) rfl rfl (a_dec_at dc_B_likes 12 rfl) ?_
      refine m_getR (y := 17) fl_B_54 rfl sh1 (mr_1_8 _) (by decide) (a_dec_at dc_B_likes 13 rfl) ?_
      refine m_getR (y := 28) fl_B_196 rfl sh17 (mr_17_3 _) (by decide) (a_dec_at dc_B_likes 14 rfl) ?_
      refine ev_iload_n (i := 1) rfl rfl (a_dec_at dc_B_likes 15 rfl) ?_
      refine ev_iload_n (i := 2) rfl rfl (a_dec_at dc_B_likes 16 rfl) ?_
      refine cS2I cs_B_199 rfl (Nat.le_of_ble_eq_true rfl) (Nat.le_of_ble_eq_true rfl) (a_dec_at dc_B_likes 17 rfl) ?_
      refine CI.mono (fun x5 mi5 ml5 z5 H => ?_) H
      obtain ⟨c6, H⟩ := H
      refine w_iald (k := x5.toNatClampNeg) sh28 c6 rfl (a_dec_at dc_B_likes 18 rfl) ?_
      refine ev_goto (tgt := 46) (a_dec_at dc_B_likes 19 rfl) (by decide) ?_
      exact m_retI (a_dec_at dc_B_likes 21 rfl) rfl rfl H
set_option maxRecDepth 20000 in
theorem t_B_takes {l : Launch} {h : Nat} (mi : TMi) (ml : TMl) (z : Nat) (a1 : Int32) (a2 : Int32) {Q : Int32 → TMi → TMl → Nat → Prop} (H : CI l h m_La_hasBeck [.ref 18, .int a2] mi ml z (fun x1 mi1 ml1 z1 => ((x1 = 0 → Q (-99000002) mi1 ml1 z1) ∧ (¬ x1 = 0 → CI l h m_La_hasRiver [.ref 18, .int a1] mi1 ml1 z1 (fun x3 mi3 ml3 z3 => ((x3 = 0 → Q (-99000002) mi3 ml3 z3) ∧ (¬ x3 = 0 → CI l h m_B_pair [.int a2, .int a1] mi3 ml3 z3 (fun x5 mi5 ml5 z5 => (vp_in x5 24) ∧ Q (mi5 29 x5.toNatClampNeg) mi5 ml5 z5)))))))) : CI l (h + 1) m_B_takes [.ref 1, .int a1, .int a2] mi ml z Q := by
  show Ev l (h + 1) m_B_takes 0 ([.ref 1, .int a1, .int a2], [], st mi ml z) (qI Q)
  refine ev_aload_n (i := 0) rfl rfl (a_dec_at dc_B_takes 0 rfl) ?_
  refine m_getR (y := 17) fl_B_54 rfl sh1 (mr_1_8 _) (by decide) (a_dec_at dc_B_takes 1 rfl) ?_
  refine m_getR (y := 18) fl_B_58 rfl sh17 (mr_17_0 _) (by decide) (a_dec_at dc_B_takes 2 rfl) ?_
  refine ev_iload_n (i := 2) rfl rfl (a_dec_at dc_B_takes 3 rfl) ?_
  refine cV1I cs_B_149 sh18 rfl (Nat.le_of_ble_eq_true rfl) (Nat.le_of_ble_eq_true rfl) (a_dec_at dc_B_takes 4 rfl) ?_
  refine CI.mono (fun x1 mi1 ml1 z1 H => ?_) H
  refine ev_if_eq (tgt := 44) (a_dec_at dc_B_takes 5 rfl) (by decide) (fun b2 => ?_) (fun b2 => ?_)
  · have H := H.1 b2
    refine ev_ldc kc_B_202 (a_dec_at dc_B_takes 20 rfl) ?_
    exact m_retI (a_dec_at dc_B_takes 21 rfl) rfl rfl H
  · have H := H.2 b2
    refine ev_aload_n (i := 0) rfl rfl (a_dec_at dc_B_takes 6 rfl) ?_
    refine m_getR (y := 17) fl_B_54 rfl sh1 (mr_1_8 _) (by decide) (a_dec_at dc_B_takes 7 rfl) ?_
    refine m_getR (y := 18) fl_B_58 rfl sh17 (mr_17_0 _) (by decide) (a_dec_at dc_B_takes 8 rfl) ?_
    refine ev_iload_n (i := 1) rfl rfl (a_dec_at dc_B_takes 9 rfl) ?_
    refine cV1I cs_B_170 sh18 rfl (Nat.le_of_ble_eq_true rfl) (Nat.le_of_ble_eq_true rfl) (a_dec_at dc_B_takes 10 rfl) ?_
    refine CI.mono (fun x3 mi3 ml3 z3 H => ?_) H
    refine ev_if_eq (tgt := 44) (a_dec_at dc_B_takes 11 rfl) (by decide) (fun b4 => ?_) (fun b4 => ?_)
    · have H := H.1 b4
      refine ev_ldc kc_B_202 (a_dec_at dc_B_takes 20 rfl) ?_
      exact m_retI (a_dec_at dc_B_takes 21 rfl) rfl rfl H
    · have H := H.2 b4
      refine ev_aload_n (i := 0) rfl rfl (a_dec_at dc_B_takes 12 rfl) ?_
      refine m_getR (y := 17) fl_B_54 rfl sh1 (mr_1_8 _) (by decide) (a_dec_at dc_B_takes 13 rfl) ?_
      refine m_getR (y := 29) fl_B_203 rfl sh17 (mr_17_4 _) (by decide) (a_dec_at dc_B_takes 14 rfl) ?_
      refine ev_iload_n (i := 2) rfl rfl (a_dec_at dc_B_takes 15 rfl) ?_
      refine ev_iload_n (i := 1) rfl rfl (a_dec_at dc_B_takes 16 rfl) ?_
      refine cS2I cs_B_199 rfl (Nat.le_of_ble_eq_true rfl) (Nat.le_of_ble_eq_true rfl) (a_dec_at dc_B_takes 17 rfl) ?_
      refine CI.mono (fun x5 mi5 ml5 z5 H => ?_) H
      obtain ⟨c6, H⟩ := H
      refine w_iald (k := x5.toNatClampNeg) sh29 c6 rfl (a_dec_at dc_B_takes 18 rfl) ?_
      refine ev_goto (tgt := 46) (a_dec_at dc_B_takes 19 rfl) (by decide) ?_
      exact m_retI (a_dec_at dc_B_takes 21 rfl) rfl rfl H
set_option maxRecDepth 20000 in
theorem t_B_gifts {l : Launch} {h : Nat} (mi : TMi) (ml : TMl) (z : Nat) (a1 : Int32) (a2 : Int32) {Q : Int32 → TMi → TMl → Nat → Prop} (H : CI l h m_La_hasBeck [.ref 18, .int a2] mi ml z (fun x1 mi1 ml1 z1 => ((x1 = 0 → Q (-2) mi1 ml1 z1) ∧ (¬ x1 = 0 → CI l h m_La_hasRiver [.ref 18, .int a1] mi1 ml1 z1 (fun x3 mi3 ml3 z3 => ((x3 = 0 → Q (-2) mi3 ml3 z3) ∧ (¬ x3 = 0 → CI l h m_Sc_giftsOf [.ref 17, .int a2, .int a1] mi3 ml3 z3 (fun x5 mi5 ml5 z5 => Q x5 mi5 ml5 z5)))))))) : CI l (h + 1) m_B_gifts [.ref 1, .int a1, .int a2] mi ml z Q := by
  show Ev l (h + 1) m_B_gifts 0 ([.ref 1, .int a1, .int a2], [], st mi ml z) (qI Q)
  refine ev_aload_n (i := 0) rfl rfl (a_dec_at dc_B_gifts 0 rfl) ?_
  refine m_getR (y := 17) fl_B_54 rfl sh1 (mr_1_8 _) (by decide) (a_dec_at dc_B_gifts 1 rfl) ?_
  refine m_getR (y := 18) fl_B_58 rfl sh17 (mr_17_0 _) (by decide) (a_dec_at dc_B_gifts 2 rfl) ?_
  refine ev_iload_n (i := 2) rfl rfl (a_dec_at dc_B_gifts 3 rfl) ?_
  refine cV1I cs_B_149 sh18 rfl (Nat.le_of_ble_eq_true rfl) (Nat.le_of_ble_eq_true rfl) (a_dec_at dc_B_gifts 4 rfl) ?_
  refine CI.mono (fun x1 mi1 ml1 z1 H => ?_) H
  refine ev_if_eq (tgt := 40) (a_dec_at dc_B_gifts 5 rfl) (by decide) (fun b2 => ?_) (fun b2 => ?_)
  · have H := H.1 b2
    refine ev_bipush (v := (-2)) rfl (a_dec_at dc_B_gifts 18 rfl) ?_
    exact m_retI (a_dec_at dc_B_gifts 19 rfl) rfl rfl H
  · have H := H.2 b2
    refine ev_aload_n (i := 0) rfl rfl (a_dec_at dc_B_gifts 6 rfl) ?_
    refine m_getR (y := 17) fl_B_54 rfl sh1 (mr_1_8 _) (by decide) (a_dec_at dc_B_gifts 7 rfl) ?_
    refine m_getR (y := 18) fl_B_58 rfl sh17 (mr_17_0 _) (by decide) (a_dec_at dc_B_gifts 8 rfl) ?_
    refine ev_iload_n (i := 1) rfl rfl (a_dec_at dc_B_gifts 9 rfl) ?_
    refine cV1I cs_B_170 sh18 rfl (Nat.le_of_ble_eq_true rfl) (Nat.le_of_ble_eq_true rfl) (a_dec_at dc_B_gifts 10 rfl) ?_
    refine CI.mono (fun x3 mi3 ml3 z3 H => ?_) H
    refine ev_if_eq (tgt := 40) (a_dec_at dc_B_gifts 11 rfl) (by decide) (fun b4 => ?_) (fun b4 => ?_)
    · have H := H.1 b4
      refine ev_bipush (v := (-2)) rfl (a_dec_at dc_B_gifts 18 rfl) ?_
      exact m_retI (a_dec_at dc_B_gifts 19 rfl) rfl rfl H
    · have H := H.2 b4
      refine ev_aload_n (i := 0) rfl rfl (a_dec_at dc_B_gifts 12 rfl) ?_
      refine m_getR (y := 17) fl_B_54 rfl sh1 (mr_1_8 _) (by decide) (a_dec_at dc_B_gifts 13 rfl) ?_
      refine ev_iload_n (i := 2) rfl rfl (a_dec_at dc_B_gifts 14 rfl) ?_
      refine ev_iload_n (i := 1) rfl rfl (a_dec_at dc_B_gifts 15 rfl) ?_
      refine cV2I cs_B_206 sh17 rfl (Nat.le_of_ble_eq_true rfl) (Nat.le_of_ble_eq_true rfl) (a_dec_at dc_B_gifts 16 rfl) ?_
      refine CI.mono (fun x5 mi5 ml5 z5 H => ?_) H
      refine ev_goto (tgt := 42) (a_dec_at dc_B_gifts 17 rfl) (by decide) ?_
      exact m_retI (a_dec_at dc_B_gifts 19 rfl) rfl rfl H
set_option maxRecDepth 20000 in
theorem t_B_declare {l : Launch} {h : Nat} (mi : TMi) (ml : TMl) (z : Nat) (a1 : Int32) (a2 : Int32) {Q : Int32 → TMi → TMl → Nat → Prop} (H : CV l h m_Pa_look [.ref 42, .ref 27] mi ml z (fun mi1 ml1 z1 => CI l h m_Sc_goInto [.ref 17, .int a1, .int a2] mi1 ml1 z1 (fun x2 mi2 ml2 z2 => CI l h m_B_keptIfDone [.ref 1, .int x2] mi2 ml2 z2 (fun x3 mi3 ml3 z3 => Q x3 mi3 ml3 z3)))) : CI l (h + 1) m_B_declare [.ref 1, .int a1, .int a2] mi ml z Q := by
  show Ev l (h + 1) m_B_declare 0 ([.ref 1, .int a1, .int a2], [], st mi ml z) (qI Q)
  refine ev_aload_n (i := 0) rfl rfl (a_dec_at dc_B_declare 0 rfl) ?_
  refine m_getR (y := 42) fl_B_75 rfl sh1 (mr_1_12 _) (by decide) (a_dec_at dc_B_declare 1 rfl) ?_
  refine ev_aload_n (i := 0) rfl rfl (a_dec_at dc_B_declare 2 rfl) ?_
  refine m_getR (y := 17) fl_B_54 rfl sh1 (mr_1_8 _) (by decide) (a_dec_at dc_B_declare 3 rfl) ?_
  refine m_getR (y := 27) fl_B_182 rfl sh17 (mr_17_2 _) (by decide) (a_dec_at dc_B_declare 4 rfl) ?_
  refine cV1V cs_B_209 sh42 rfl (Nat.le_of_ble_eq_true rfl) (Nat.le_of_ble_eq_true rfl) (a_dec_at dc_B_declare 5 rfl) ?_
  refine CV.mono (fun mi1 ml1 z1 H => ?_) H
  refine ev_aload_n (i := 0) rfl rfl (a_dec_at dc_B_declare 6 rfl) ?_
  refine ev_aload_n (i := 0) rfl rfl (a_dec_at dc_B_declare 7 rfl) ?_
  refine m_getR (y := 17) fl_B_54 rfl sh1 (mr_1_8 _) (by decide) (a_dec_at dc_B_declare 8 rfl) ?_
  refine ev_iload_n (i := 1) rfl rfl (a_dec_at dc_B_declare 9 rfl) ?_
  refine ev_iload_n (i := 2) rfl rfl (a_dec_at dc_B_declare 10 rfl) ?_
  refine cV2I cs_B_213 sh17 rfl (Nat.le_of_ble_eq_true rfl) (Nat.le_of_ble_eq_true rfl) (a_dec_at dc_B_declare 11 rfl) ?_
  refine CI.mono (fun x2 mi2 ml2 z2 H => ?_) H
  refine cV1I cs_B_216 sh1 rfl (Nat.le_of_ble_eq_true rfl) (Nat.le_of_ble_eq_true rfl) (a_dec_at dc_B_declare 12 rfl) ?_
  refine CI.mono (fun x3 mi3 ml3 z3 H => ?_) H
  exact m_retI (a_dec_at dc_B_declare 13 rfl) rfl rfl H
set_option maxRecDepth 20000 in
theorem t_B_keptIfDone {l : Launch} {h : Nat} (mi : TMi) (ml : TMl) (z : Nat) (a1 : Int32) {Q : Int32 → TMi → TMl → Nat → Prop} (H : ((a1 < (-1) → Q a1 mi ml z) ∧ (¬ a1 < (-1) → CV l h m_Pa_keep [.ref 42] mi ml z (fun mi2 ml2 z2 => Q a1 mi2 ml2 z2)))) : CI l (h + 1) m_B_keptIfDone [.ref 1, .int a1] mi ml z Q := by
  show Ev l (h + 1) m_B_keptIfDone 0 ([.ref 1, .int a1], [], st mi ml z) (qI Q)
  refine ev_iload_n (i := 1) rfl rfl (a_dec_at dc_B_keptIfDone 0 rfl) ?_
  refine ev_iconst (v := (-1)) rfl (a_dec_at dc_B_keptIfDone 1 rfl) ?_
  refine ev_icmp_lt (tgt := 12) (a_dec_at dc_B_keptIfDone 2 rfl) (by decide) (fun b1 => ?_) (fun b1 => ?_)
  · have H := H.1 b1
    refine ev_iload_n (i := 1) rfl rfl (a_dec_at dc_B_keptIfDone 6 rfl) ?_
    exact m_retI (a_dec_at dc_B_keptIfDone 7 rfl) rfl rfl H
  · have H := H.2 b1
    refine ev_aload_n (i := 0) rfl rfl (a_dec_at dc_B_keptIfDone 3 rfl) ?_
    refine m_getR (y := 42) fl_B_75 rfl sh1 (mr_1_12 _) (by decide) (a_dec_at dc_B_keptIfDone 4 rfl) ?_
    refine cV0V cs_B_232 sh42 rfl (Nat.le_of_ble_eq_true rfl) (Nat.le_of_ble_eq_true rfl) (a_dec_at dc_B_keptIfDone 5 rfl) ?_
    refine CV.mono (fun mi2 ml2 z2 H => ?_) H
    refine ev_iload_n (i := 1) rfl rfl (a_dec_at dc_B_keptIfDone 6 rfl) ?_
    exact m_retI (a_dec_at dc_B_keptIfDone 7 rfl) rfl rfl H
set_option maxRecDepth 20000 in
theorem t_B_leave {l : Launch} {h : Nat} (mi : TMi) (ml : TMl) (z : Nat) (a1 : Int32) {Q : Int32 → TMi → TMl → Nat → Prop} (H : CV l h m_Pa_look [.ref 42, .ref 27] mi ml z (fun mi1 ml1 z1 => CI l h m_Sc_goOut [.ref 17, .int a1] mi1 ml1 z1 (fun x2 mi2 ml2 z2 => CI l h m_B_keptIfDone [.ref 1, .int x2] mi2 ml2 z2 (fun x3 mi3 ml3 z3 => Q x3 mi3 ml3 z3)))) : CI l (h + 1) m_B_leave [.ref 1, .int a1] mi ml z Q := by
  show Ev l (h + 1) m_B_leave 0 ([.ref 1, .int a1], [], st mi ml z) (qI Q)
  refine ev_aload_n (i := 0) rfl rfl (a_dec_at dc_B_leave 0 rfl) ?_
  refine m_getR (y := 42) fl_B_75 rfl sh1 (mr_1_12 _) (by decide) (a_dec_at dc_B_leave 1 rfl) ?_
  refine ev_aload_n (i := 0) rfl rfl (a_dec_at dc_B_leave 2 rfl) ?_
  refine m_getR (y := 17) fl_B_54 rfl sh1 (mr_1_8 _) (by decide) (a_dec_at dc_B_leave 3 rfl) ?_
  refine m_getR (y := 27) fl_B_182 rfl sh17 (mr_17_2 _) (by decide) (a_dec_at dc_B_leave 4 rfl) ?_
  refine cV1V cs_B_209 sh42 rfl (Nat.le_of_ble_eq_true rfl) (Nat.le_of_ble_eq_true rfl) (a_dec_at dc_B_leave 5 rfl) ?_
  refine CV.mono (fun mi1 ml1 z1 H => ?_) H
  refine ev_aload_n (i := 0) rfl rfl (a_dec_at dc_B_leave 6 rfl) ?_
  refine ev_aload_n (i := 0) rfl rfl (a_dec_at dc_B_leave 7 rfl) ?_
  refine m_getR (y := 17) fl_B_54 rfl sh1 (mr_1_8 _) (by decide) (a_dec_at dc_B_leave 8 rfl) ?_
  refine ev_iload_n (i := 1) rfl rfl (a_dec_at dc_B_leave 9 rfl) ?_
  refine cV1I cs_B_219 sh17 rfl (Nat.le_of_ble_eq_true rfl) (Nat.le_of_ble_eq_true rfl) (a_dec_at dc_B_leave 10 rfl) ?_
  refine CI.mono (fun x2 mi2 ml2 z2 H => ?_) H
  refine cV1I cs_B_216 sh1 rfl (Nat.le_of_ble_eq_true rfl) (Nat.le_of_ble_eq_true rfl) (a_dec_at dc_B_leave 11 rfl) ?_
  refine CI.mono (fun x3 mi3 ml3 z3 H => ?_) H
  exact m_retI (a_dec_at dc_B_leave 12 rfl) rfl rfl H
set_option maxRecDepth 20000 in
theorem t_B_send {l : Launch} {h : Nat} (mi : TMi) (ml : TMl) (z : Nat) (a1 : Int32) (a2 : Int32) (a3 : Int32) {Q : Int32 → TMi → TMl → Nat → Prop} (H : CV l h m_Pa_look [.ref 42, .ref 27] mi ml z (fun mi1 ml1 z1 => CI l h m_Sc_give [.ref 17, .int a1, .int a2, .int a3] mi1 ml1 z1 (fun x2 mi2 ml2 z2 => CI l h m_B_keptIfDone [.ref 1, .int x2] mi2 ml2 z2 (fun x3 mi3 ml3 z3 => Q x3 mi3 ml3 z3)))) : CI l (h + 1) m_B_send [.ref 1, .int a1, .int a2, .int a3] mi ml z Q := by
  show Ev l (h + 1) m_B_send 0 ([.ref 1, .int a1, .int a2, .int a3], [], st mi ml z) (qI Q)
  refine ev_aload_n (i := 0) rfl rfl (a_dec_at dc_B_send 0 rfl) ?_
  refine m_getR (y := 42) fl_B_75 rfl sh1 (mr_1_12 _) (by decide) (a_dec_at dc_B_send 1 rfl) ?_
  refine ev_aload_n (i := 0) rfl rfl (a_dec_at dc_B_send 2 rfl) ?_
  refine m_getR (y := 17) fl_B_54 rfl sh1 (mr_1_8 _) (by decide) (a_dec_at dc_B_send 3 rfl) ?_
  refine m_getR (y := 27) fl_B_182 rfl sh17 (mr_17_2 _) (by decide) (a_dec_at dc_B_send 4 rfl) ?_
  refine cV1V cs_B_209 sh42 rfl (Nat.le_of_ble_eq_true rfl) (Nat.le_of_ble_eq_true rfl) (a_dec_at dc_B_send 5 rfl) ?_
  refine CV.mono (fun mi1 ml1 z1 H => ?_) H
  refine ev_aload_n (i := 0) rfl rfl (a_dec_at dc_B_send 6 rfl) ?_
  refine ev_aload_n (i := 0) rfl rfl (a_dec_at dc_B_send 7 rfl) ?_
  refine m_getR (y := 17) fl_B_54 rfl sh1 (mr_1_8 _) (by decide) (a_dec_at dc_B_send 8 rfl) ?_
  refine ev_iload_n (i := 1) rfl rfl (a_dec_at dc_B_send 9 rfl) ?_
  refine ev_iload_n (i := 2) rfl rfl (a_dec_at dc_B_send 10 rfl) ?_
  refine ev_iload_n (i := 3) rfl rfl (a_dec_at dc_B_send 11 rfl) ?_
  refine cV3I cs_B_222 sh17 rfl (Nat.le_of_ble_eq_true rfl) (Nat.le_of_ble_eq_true rfl) (a_dec_at dc_B_send 12 rfl) ?_
  refine CI.mono (fun x2 mi2 ml2 z2 H => ?_) H
  refine cV1I cs_B_216 sh1 rfl (Nat.le_of_ble_eq_true rfl) (Nat.le_of_ble_eq_true rfl) (a_dec_at dc_B_send 13 rfl) ?_
  refine CI.mono (fun x3 mi3 ml3 z3 H => ?_) H
  exact m_retI (a_dec_at dc_B_send 14 rfl) rfl rfl H
set_option maxRecDepth 20000 in
theorem t_B_rain {l : Launch} {h : Nat} (mi : TMi) (ml : TMl) (z : Nat) (a1 : Int32) (a2 : Int32) {Q : Int32 → TMi → TMl → Nat → Prop} (H : CV l h m_Pa_look [.ref 42, .ref 27] mi ml z (fun mi1 ml1 z1 => CI l h m_Sc_pour [.ref 17, .int a1, .int a2] mi1 ml1 z1 (fun x2 mi2 ml2 z2 => CI l h m_B_keptIfDone [.ref 1, .int x2] mi2 ml2 z2 (fun x3 mi3 ml3 z3 => Q x3 mi3 ml3 z3)))) : CI l (h + 1) m_B_rain [.ref 1, .int a1, .int a2] mi ml z Q := by
  show Ev l (h + 1) m_B_rain 0 ([.ref 1, .int a1, .int a2], [], st mi ml z) (qI Q)
  refine ev_aload_n (i := 0) rfl rfl (a_dec_at dc_B_rain 0 rfl) ?_
  refine m_getR (y := 42) fl_B_75 rfl sh1 (mr_1_12 _) (by decide) (a_dec_at dc_B_rain 1 rfl) ?_
  refine ev_aload_n (i := 0) rfl rfl (a_dec_at dc_B_rain 2 rfl) ?_
  refine m_getR (y := 17) fl_B_54 rfl sh1 (mr_1_8 _) (by decide) (a_dec_at dc_B_rain 3 rfl) ?_
  refine m_getR (y := 27) fl_B_182 rfl sh17 (mr_17_2 _) (by decide) (a_dec_at dc_B_rain 4 rfl) ?_
  refine cV1V cs_B_209 sh42 rfl (Nat.le_of_ble_eq_true rfl) (Nat.le_of_ble_eq_true rfl) (a_dec_at dc_B_rain 5 rfl) ?_
  refine CV.mono (fun mi1 ml1 z1 H => ?_) H
  refine ev_aload_n (i := 0) rfl rfl (a_dec_at dc_B_rain 6 rfl) ?_
  refine ev_aload_n (i := 0) rfl rfl (a_dec_at dc_B_rain 7 rfl) ?_
  refine m_getR (y := 17) fl_B_54 rfl sh1 (mr_1_8 _) (by decide) (a_dec_at dc_B_rain 8 rfl) ?_
  refine ev_iload_n (i := 1) rfl rfl (a_dec_at dc_B_rain 9 rfl) ?_
  refine ev_iload_n (i := 2) rfl rfl (a_dec_at dc_B_rain 10 rfl) ?_
  refine cV2I cs_B_226 sh17 rfl (Nat.le_of_ble_eq_true rfl) (Nat.le_of_ble_eq_true rfl) (a_dec_at dc_B_rain 11 rfl) ?_
  refine CI.mono (fun x2 mi2 ml2 z2 H => ?_) H
  refine cV1I cs_B_216 sh1 rfl (Nat.le_of_ble_eq_true rfl) (Nat.le_of_ble_eq_true rfl) (a_dec_at dc_B_rain 12 rfl) ?_
  refine CI.mono (fun x3 mi3 ml3 z3 H => ?_) H
  exact m_retI (a_dec_at dc_B_rain 13 rfl) rfl rfl H
set_option maxRecDepth 20000 in
theorem t_B_room {l : Launch} {h : Nat} (mi : TMi) (ml : TMl) (z : Nat) (a1 : Int32) (a2 : Int32) {Q : Int32 → TMi → TMl → Nat → Prop} (H : CV l h m_Pa_look [.ref 42, .ref 27] mi ml z (fun mi1 ml1 z1 => CI l h m_Sc_widen [.ref 17, .int a1, .int a2] mi1 ml1 z1 (fun x2 mi2 ml2 z2 => CI l h m_B_keptIfDone [.ref 1, .int x2] mi2 ml2 z2 (fun x3 mi3 ml3 z3 => Q x3 mi3 ml3 z3)))) : CI l (h + 1) m_B_room [.ref 1, .int a1, .int a2] mi ml z Q := by
  show Ev l (h + 1) m_B_room 0 ([.ref 1, .int a1, .int a2], [], st mi ml z) (qI Q)
  refine ev_aload_n (i := 0) rfl rfl (a_dec_at dc_B_room 0 rfl) ?_
  refine m_getR (y := 42) fl_B_75 rfl sh1 (mr_1_12 _) (by decide) (a_dec_at dc_B_room 1 rfl) ?_
  refine ev_aload_n (i := 0) rfl rfl (a_dec_at dc_B_room 2 rfl) ?_
  refine m_getR (y := 17) fl_B_54 rfl sh1 (mr_1_8 _) (by decide) (a_dec_at dc_B_room 3 rfl) ?_
  refine m_getR (y := 27) fl_B_182 rfl sh17 (mr_17_2 _) (by decide) (a_dec_at dc_B_room 4 rfl) ?_
  refine cV1V cs_B_209 sh42 rfl (Nat.le_of_ble_eq_true rfl) (Nat.le_of_ble_eq_true rfl) (a_dec_at dc_B_room 5 rfl) ?_
  refine CV.mono (fun mi1 ml1 z1 H => ?_) H
  refine ev_aload_n (i := 0) rfl rfl (a_dec_at dc_B_room 6 rfl) ?_
  refine ev_aload_n (i := 0) rfl rfl (a_dec_at dc_B_room 7 rfl) ?_
  refine m_getR (y := 17) fl_B_54 rfl sh1 (mr_1_8 _) (by decide) (a_dec_at dc_B_room 8 rfl) ?_
  refine ev_iload_n (i := 1) rfl rfl (a_dec_at dc_B_room 9 rfl) ?_
  refine ev_iload_n (i := 2) rfl rfl (a_dec_at dc_B_room 10 rfl) ?_
  refine cV2I cs_B_229 sh17 rfl (Nat.le_of_ble_eq_true rfl) (Nat.le_of_ble_eq_true rfl) (a_dec_at dc_B_room 11 rfl) ?_
  refine CI.mono (fun x2 mi2 ml2 z2 H => ?_) H
  refine cV1I cs_B_216 sh1 rfl (Nat.le_of_ble_eq_true rfl) (Nat.le_of_ble_eq_true rfl) (a_dec_at dc_B_room 12 rfl) ?_
  refine CI.mono (fun x3 mi3 ml3 z3 H => ?_) H
  exact m_retI (a_dec_at dc_B_room 13 rfl) rfl rfl H
set_option maxRecDepth 20000 in
theorem t_B_undo {l : Launch} {h : Nat} (mi : TMi) (ml : TMl) (z : Nat) (a1 : Int32) {Q : Int32 → TMi → TMl → Nat → Prop} (H : ((a1 < 1 → Q (-3) mi ml z) ∧ (¬ a1 < 1 → ((a1 ≤ (mi 42 3) → CV l h m_Pa_bringBack [.ref 42, .int a1, .ref 27] mi ml z (fun mi3 ml3 z3 => CV l h m_Sc_measureAll [.ref 17] mi3 ml3 z3 (fun mi4 ml4 z4 => Q (mi4 42 3) mi4 ml4 z4))) ∧ (¬ a1 ≤ (mi 42 3) → Q (-3) mi ml z))))) : CI l (h + 1) m_B_undo [.ref 1, .int a1] mi ml z Q := by
  show Ev l (h + 1) m_B_undo 0 ([.ref 1, .int a1], [], st mi ml z) (qI Q)
  refine ev_iload_n (i := 1) rfl rfl (a_dec_at dc_B_undo 0 rfl) ?_
  refine ev_iconst (v := 1) rfl (a_dec_at dc_B_undo 1 rfl) ?_
  refine ev_icmp_lt (tgt := 16) (a_dec_at dc_B_undo 2 rfl) (by decide) (fun b1 => ?_) (fun b1 => ?_)
  · have H := H.1 b1
    refine ev_bipush (v := (-3)) rfl (a_dec_at dc_B_undo 8 rfl) ?_
    exact m_retI (a_dec_at dc_B_undo 9 rfl) rfl rfl H
  · have H := H.2 b1
    refine ev_iload_n (i := 1) rfl rfl (a_dec_at dc_B_undo 3 rfl) ?_
    refine ev_aload_n (i := 0) rfl rfl (a_dec_at dc_B_undo 4 rfl) ?_
    refine m_getR (y := 42) fl_B_75 rfl sh1 (mr_1_12 _) (by decide) (a_dec_at dc_B_undo 5 rfl) ?_
    refine m_getI fl_B_235 rfl sh42 (a_dec_at dc_B_undo 6 rfl) ?_
    refine ev_icmp_le (tgt := 19) (a_dec_at dc_B_undo 7 rfl) (by decide) (fun b2 => ?_) (fun b2 => ?_)
    · have H := H.1 b2
      refine ev_aload_n (i := 0) rfl rfl (a_dec_at dc_B_undo 10 rfl) ?_
      refine m_getR (y := 42) fl_B_75 rfl sh1 (mr_1_12 _) (by decide) (a_dec_at dc_B_undo 11 rfl) ?_
      refine ev_iload_n (i := 1) rfl rfl (a_dec_at dc_B_undo 12 rfl) ?_
      refine ev_aload_n (i := 0) rfl rfl (a_dec_at dc_B_undo 13 rfl) ?_
      refine m_getR (y := 17) fl_B_54 rfl sh1 (mr_1_8 _) (by decide) (a_dec_at dc_B_undo 14 rfl) ?_
      refine m_getR (y := 27) fl_B_182 rfl sh17 (mr_17_2 _) (by decide) (a_dec_at dc_B_undo 15 rfl) ?_
      refine cV2V cs_B_238 sh42 rfl (Nat.le_of_ble_eq_true rfl) (Nat.le_of_ble_eq_true rfl) (a_dec_at dc_B_undo 16 rfl) ?_
      refine CV.mono (fun mi3 ml3 z3 H => ?_) H
      refine ev_aload_n (i := 0) rfl rfl (a_dec_at dc_B_undo 17 rfl) ?_
      refine m_getR (y := 17) fl_B_54 rfl sh1 (mr_1_8 _) (by decide) (a_dec_at dc_B_undo 18 rfl) ?_
      refine cV0V cs_B_242 sh17 rfl (Nat.le_of_ble_eq_true rfl) (Nat.le_of_ble_eq_true rfl) (a_dec_at dc_B_undo 19 rfl) ?_
      refine CV.mono (fun mi4 ml4 z4 H => ?_) H
      refine ev_aload_n (i := 0) rfl rfl (a_dec_at dc_B_undo 20 rfl) ?_
      refine m_getR (y := 42) fl_B_75 rfl sh1 (mr_1_12 _) (by decide) (a_dec_at dc_B_undo 21 rfl) ?_
      refine m_getI fl_B_235 rfl sh42 (a_dec_at dc_B_undo 22 rfl) ?_
      exact m_retI (a_dec_at dc_B_undo 23 rfl) rfl rfl H
    · have H := H.2 b2
      refine ev_bipush (v := (-3)) rfl (a_dec_at dc_B_undo 8 rfl) ?_
      exact m_retI (a_dec_at dc_B_undo 9 rfl) rfl rfl H
set_option maxRecDepth 20000 in
theorem t_B_judge {l : Launch} {h : Nat} (mi : TMi) (ml : TMl) (z : Nat) (a1 : Int32) (a2 : Int32) {Q : Int32 → TMi → TMl → Nat → Prop} (H : CI l h m_B_isTray [.int a1] mi ml z (fun x1 mi1 ml1 z1 => ((x1 = 0 → Q (-2) mi1 ml1 z1) ∧ (¬ x1 = 0 → ((a2 < 0 → Q (-2) mi1 ml1 z1) ∧ (¬ a2 < 0 → ((a2 ≤ 3 → (vp_in a1 4) ∧ (0 < (MR z1 78 a1.toNatClampNeg) ∧ (MR z1 78 a1.toNatClampNeg) < 1000) ∧ (SH[(MR z1 78 a1.toNatClampNeg)]? = some (.inl 9)) ∧ CI l h m_Tr_missing [.ref (MR z1 78 a1.toNatClampNeg)] mi1 ml1 z1 (fun x8 mi8 ml8 z8 => ((x8 = 0 → CV l h m_Sc_copyFrom [.ref 33, .ref 17] mi8 ml8 z8 (fun mi10 ml10 z10 => (vp_in a1 4) ∧ (0 < (MR z10 78 a1.toNatClampNeg) ∧ (MR z10 78 a1.toNatClampNeg) < 1000) ∧ CI l h m_Sc_doAll [.ref 33, .ref (MR z10 78 a1.toNatClampNeg)] mi10 ml10 z10 (fun x13 mi13 ml13 z13 => (vp_in a1 4) ∧ (0 < (MR z13 78 a1.toNatClampNeg) ∧ (MR z13 78 a1.toNatClampNeg) < 1000) ∧ (SH[(MR z13 78 a1.toNatClampNeg)]? = some (.inl 9)) ∧ ((x13 < (mi13 (MR z13 78 a1.toNatClampNeg) 2) → ((a2 = 0 → Q x13 mi13 ml13 z13) ∧ ((a2 = 1 → (vp_in a1 4) ∧ (0 < (MR z13 78 a1.toNatClampNeg) ∧ (MR z13 78 a1.toNatClampNeg) < 1000) ∧ (SH[(MR z13 78 a1.toNatClampNeg)]? = some (.inl 9)) ∧ CLg l h m_Tr_at [.ref (MR z13 78 a1.toNatClampNeg), .int x13] mi13 ml13 z13 (fun x23 mi23 ml23 z23 => CI l h m_Sc_whyNot [.ref 33, .long x23] mi23 ml23 z23 (fun x24 mi24 ml24 z24 => Q x24 mi24 ml24 z24))) ∧ ((a2 = 2 → CI l h m_Sc_nowhere [.ref 33] mi13 ml13 z13 (fun x26 mi26 ml26 z26 => Q x26 mi26 ml26 z26)) ∧ (¬ a2 = 0 → ¬ a2 = 1 → ¬ a2 = 2 → CI l h m_Sc_flooded [.ref 33] mi13 ml13 z13 (fun x27 mi27 ml27 z27 => Q x27 mi27 ml27 z27)))))) ∧ (¬ x13 < (mi13 (MR z13 78 a1.toNatClampNeg) 2) → ((a2 = 0 → Q (-1) mi13 ml13 z13) ∧ ((a2 = 1 → Q 0 mi13 ml13 z13) ∧ ((a2 = 2 → CI l h m_Sc_nowhere [.ref 33] mi13 ml13 z13 (fun x31 mi31 ml31 z31 => Q x31 mi31 ml31 z31)) ∧ (¬ a2 = 0 → ¬ a2 = 1 → ¬ a2 = 2 → CI l h m_Sc_flooded [.ref 33] mi13 ml13 z13 (fun x32 mi32 ml32 z32 => Q x32 mi32 ml32 z32)))))))))) ∧ (¬ x8 = 0 → Q (-6) mi8 ml8 z8)))) ∧ (¬ a2 ≤ 3 → Q (-2) mi1 ml1 z1)))))))) : CI l (h + 1) m_B_judge [.ref 1, .int a1, .int a2] mi ml z Q := by
  show Ev l (h + 1) m_B_judge 0 ([.ref 1, .int a1, .int a2, .retAddr 0, .retAddr 0], [], st mi ml z) (qI Q)
  refine ev_iload_n (i := 1) rfl rfl (a_dec_at dc_B_judge 0 rfl) ?_
  refine cS1I cs_B_245 rfl (Nat.le_of_ble_eq_true rfl) (Nat.le_of_ble_eq_true rfl) (a_dec_at dc_B_judge 1 rfl) ?_
  refine CI.mono (fun x1 mi1 ml1 z1 H => ?_) H
  refine ev_if_eq (tgt := 16) (a_dec_at dc_B_judge 2 rfl) (by decide) (fun b2 => ?_) (fun b2 => ?_)
  · have H := H.1 b2
    refine ev_bipush (v := (-2)) rfl (a_dec_at dc_B_judge 8 rfl) ?_
    exact m_retI (a_dec_at dc_B_judge 9 rfl) rfl rfl H
  · have H := H.2 b2
    refine ev_iload_n (i := 2) rfl rfl (a_dec_at dc_B_judge 3 rfl) ?_
    refine ev_if_lt (tgt := 16) (a_dec_at dc_B_judge 4 rfl) (by decide) (fun b3 => ?_) (fun b3 => ?_)
    · have H := H.1 b3
      refine ev_bipush (v := (-2)) rfl (a_dec_at dc_B_judge 8 rfl) ?_
      exact m_retI (a_dec_at dc_B_judge 9 rfl) rfl rfl H
    · have H := H.2 b3
      refine ev_iload_n (i := 2) rfl rfl (a_dec_at dc_B_judge 5 rfl) ?_
      refine ev_iconst (v := 3) rfl (a_dec_at dc_B_judge 6 rfl) ?_
      refine ev_icmp_le (tgt := 19) (a_dec_at dc_B_judge 7 rfl) (by decide) (fun b4 => ?_) (fun b4 => ?_)
      · have H := H.1 b4
        refine ev_aload_n (i := 0) rfl rfl (a_dec_at dc_B_judge 10 rfl) ?_
        refine m_getR (y := 78) fl_B_113 rfl sh1 (mr_1_17 _) (by decide) (a_dec_at dc_B_judge 11 rfl) ?_
        refine ev_iload_n (i := 1) rfl rfl (a_dec_at dc_B_judge 12 rfl) ?_
        obtain ⟨c5, H⟩ := H
        obtain ⟨c6, H⟩ := H
        refine w_aald (k := a1.toNatClampNeg) (y := (MR z1 78 a1.toNatClampNeg)) (by decide) sh78 c5 rfl rfl c6 (a_dec_at dc_B_judge 13 rfl) ?_
        obtain ⟨c7, H⟩ := H
        refine cV0I cs_B_248 c7 rfl (Nat.le_of_ble_eq_true rfl) (Nat.le_of_ble_eq_true rfl) (a_dec_at dc_B_judge 14 rfl) ?_
        refine CI.mono (fun x8 mi8 ml8 z8 H => ?_) H
        refine ev_if_eq (tgt := 34) (a_dec_at dc_B_judge 15 rfl) (by decide) (fun b9 => ?_) (fun b9 => ?_)
        · have H := H.1 b9
          refine ev_aload_n (i := 0) rfl rfl (a_dec_at dc_B_judge 18 rfl) ?_
          refine m_getR (y := 33) fl_B_61 rfl sh1 (mr_1_9 _) (by decide) (a_dec_at dc_B_judge 19 rfl) ?_
          refine ev_aload_n (i := 0) rfl rfl (a_dec_at dc_B_judge 20 rfl) ?_
          refine m_getR (y := 17) fl_B_54 rfl sh1 (mr_1_8 _) (by decide) (a_dec_at dc_B_judge 21 rfl) ?_
          refine cV1V cs_B_252 sh33 rfl (Nat.le_of_ble_eq_true rfl) (Nat.le_of_ble_eq_true rfl) (a_dec_at dc_B_judge 22 rfl) ?_
          refine CV.mono (fun mi10 ml10 z10 H => ?_) H
          refine ev_aload_n (i := 0) rfl rfl (a_dec_at dc_B_judge 23 rfl) ?_
          refine m_getR (y := 33) fl_B_61 rfl sh1 (mr_1_9 _) (by decide) (a_dec_at dc_B_judge 24 rfl) ?_
          refine ev_aload_n (i := 0) rfl rfl (a_dec_at dc_B_judge 25 rfl) ?_
          refine m_getR (y := 78) fl_B_113 rfl sh1 (mr_1_17 _) (by decide) (a_dec_at dc_B_judge 26 rfl) ?_
          refine ev_iload_n (i := 1) rfl rfl (a_dec_at dc_B_judge 27 rfl) ?_
          obtain ⟨c11, H⟩ := H
          obtain ⟨c12, H⟩ := H
          refine w_aald (k := a1.toNatClampNeg) (y := (MR z10 78 a1.toNatClampNeg)) (by decide) sh78 c11 rfl rfl c12 (a_dec_at dc_B_judge 28 rfl) ?_
          refine cV1I cs_B_255 sh33 rfl (Nat.le_of_ble_eq_true rfl) (Nat.le_of_ble_eq_true rfl) (a_dec_at dc_B_judge 29 rfl) ?_
          refine CI.mono (fun x13 mi13 ml13 z13 H => ?_) H
          refine ev_istore_n (i := 3) rfl (by decide) rfl (a_dec_at dc_B_judge 30 rfl) ?_
          refine ev_iload_n (i := 3) rfl rfl (a_dec_at dc_B_judge 31 rfl) ?_
          refine ev_aload_n (i := 0) rfl rfl (a_dec_at dc_B_judge 32 rfl) ?_
          refine m_getR (y := 78) fl_B_113 rfl sh1 (mr_1_17 _) (by decide) (a_dec_at dc_B_judge 33 rfl) ?_
          refine ev_iload_n (i := 1) rfl rfl (a_dec_at dc_B_judge 34 rfl) ?_
          obtain ⟨c14, H⟩ := H
          obtain ⟨c15, H⟩ := H
          refine w_aald (k := a1.toNatClampNeg) (y := (MR z13 78 a1.toNatClampNeg)) (by decide) sh78 c14 rfl rfl c15 (a_dec_at dc_B_judge 35 rfl) ?_
          obtain ⟨c16, H⟩ := H
          refine m_getI fl_B_259 rfl c16 (a_dec_at dc_B_judge 36 rfl) ?_
          refine ev_icmp_lt (tgt := 76) (a_dec_at dc_B_judge 37 rfl) (by decide) (fun b17 => ?_) (fun b17 => ?_)
          · have H := H.1 b17
            refine ev_iconst (v := 0) rfl (a_dec_at dc_B_judge 40 rfl) ?_
            refine ev_istore (by decide) rfl (a_dec_at dc_B_judge 41 rfl) ?_
            refine ev_iload_n (i := 2) rfl rfl (a_dec_at dc_B_judge 42 rfl) ?_
            by_cases e18 : a2 = 0
            · have H := H.1 e18
              refine w_tableIn (c := 0) (off := 28) (tgt := 108) (a_dec_at dc_B_judge 43 rfl) e18 (by decide) (by decide) (by decide) (by decide) ?_
              refine ev_iload rfl (a_dec_at dc_B_judge 44 rfl) ?_
              refine ev_if_eq (tgt := 117) (a_dec_at dc_B_judge 45 rfl) (by decide) (fun _ => ?_) (fun q => absurd (by decide) q)
              refine ev_iload_n (i := 3) rfl rfl (a_dec_at dc_B_judge 48 rfl) ?_
              exact m_retI (a_dec_at dc_B_judge 49 rfl) rfl rfl H
            have H := H.2
            by_cases e19 : a2 = 1
            · have H := H.1 e19
              refine w_tableIn (c := 1) (off := 39) (tgt := 119) (a_dec_at dc_B_judge 43 rfl) e19 (by decide) (by decide) (by decide) (by decide) ?_
              refine ev_iload rfl (a_dec_at dc_B_judge 50 rfl) ?_
              refine ev_if_eq (tgt := 128) (a_dec_at dc_B_judge 51 rfl) (by decide) (fun _ => ?_) (fun q => absurd (by decide) q)
              refine ev_aload_n (i := 0) rfl rfl (a_dec_at dc_B_judge 54 rfl) ?_
              refine m_getR (y := 33) fl_B_61 rfl sh1 (mr_1_9 _) (by decide) (a_dec_at dc_B_judge 55 rfl) ?_
              refine ev_aload_n (i := 0) rfl rfl (a_dec_at dc_B_judge 56 rfl) ?_
              refine m_getR (y := 78) fl_B_113 rfl sh1 (mr_1_17 _) (by decide) (a_dec_at dc_B_judge 57 rfl) ?_
              refine ev_iload_n (i := 1) rfl rfl (a_dec_at dc_B_judge 58 rfl) ?_
              obtain ⟨c20, H⟩ := H
              obtain ⟨c21, H⟩ := H
              refine w_aald (k := a1.toNatClampNeg) (y := (MR z13 78 a1.toNatClampNeg)) (by decide) sh78 c20 rfl rfl c21 (a_dec_at dc_B_judge 59 rfl) ?_
              refine ev_iload_n (i := 3) rfl rfl (a_dec_at dc_B_judge 60 rfl) ?_
              obtain ⟨c22, H⟩ := H
              refine cV1L cs_B_260 c22 rfl (Nat.le_of_ble_eq_true rfl) (Nat.le_of_ble_eq_true rfl) (a_dec_at dc_B_judge 61 rfl) ?_
              refine CLg.mono (fun x23 mi23 ml23 z23 H => ?_) H
              refine cV1I cs_B_264 sh33 rfl (Nat.le_of_ble_eq_true rfl) (Nat.le_of_ble_eq_true rfl) (a_dec_at dc_B_judge 62 rfl) ?_
              refine CI.mono (fun x24 mi24 ml24 z24 H => ?_) H
              exact m_retI (a_dec_at dc_B_judge 63 rfl) rfl rfl H
            have H := H.2
            by_cases e25 : a2 = 2
            · have H := H.1 e25
              refine w_tableIn (c := 2) (off := 66) (tgt := 146) (a_dec_at dc_B_judge 43 rfl) e25 (by decide) (by decide) (by decide) (by decide) ?_
              refine ev_aload_n (i := 0) rfl rfl (a_dec_at dc_B_judge 64 rfl) ?_
              refine m_getR (y := 33) fl_B_61 rfl sh1 (mr_1_9 _) (by decide) (a_dec_at dc_B_judge 65 rfl) ?_
              refine cV0I cs_B_268 sh33 rfl (Nat.le_of_ble_eq_true rfl) (Nat.le_of_ble_eq_true rfl) (a_dec_at dc_B_judge 66 rfl) ?_
              refine CI.mono (fun x26 mi26 ml26 z26 H => ?_) H
              exact m_retI (a_dec_at dc_B_judge 67 rfl) rfl rfl H
            have H := H.2
            refine w_tableOut (tgt := 154) [0, 1, 2] (a_dec_at dc_B_judge 43 rfl) (by decide) (by intro c hc; simp only [List.mem_cons, List.not_mem_nil, or_false] at hc; rcases hc with rfl | rfl | rfl <;> assumption) (by decide) ?_
            have H := H e18 e19 e25
            refine ev_aload_n (i := 0) rfl rfl (a_dec_at dc_B_judge 68 rfl) ?_
            refine m_getR (y := 33) fl_B_61 rfl sh1 (mr_1_9 _) (by decide) (a_dec_at dc_B_judge 69 rfl) ?_
            refine cV0I cs_B_272 sh33 rfl (Nat.le_of_ble_eq_true rfl) (Nat.le_of_ble_eq_true rfl) (a_dec_at dc_B_judge 70 rfl) ?_
            refine CI.mono (fun x27 mi27 ml27 z27 H => ?_) H
            exact m_retI (a_dec_at dc_B_judge 71 rfl) rfl rfl H
          · have H := H.2 b17
            refine ev_iconst (v := 1) rfl (a_dec_at dc_B_judge 38 rfl) ?_
            refine ev_goto (tgt := 77) (a_dec_at dc_B_judge 39 rfl) (by decide) ?_
            refine ev_istore (by decide) rfl (a_dec_at dc_B_judge 41 rfl) ?_
            refine ev_iload_n (i := 2) rfl rfl (a_dec_at dc_B_judge 42 rfl) ?_
            by_cases e28 : a2 = 0
            · have H := H.1 e28
              refine w_tableIn (c := 0) (off := 28) (tgt := 108) (a_dec_at dc_B_judge 43 rfl) e28 (by decide) (by decide) (by decide) (by decide) ?_
              refine ev_iload rfl (a_dec_at dc_B_judge 44 rfl) ?_
              refine ev_if_eq (tgt := 117) (a_dec_at dc_B_judge 45 rfl) (by decide) (fun q => absurd q (by decide)) (fun _ => ?_)
              refine ev_iconst (v := (-1)) rfl (a_dec_at dc_B_judge 46 rfl) ?_
              refine ev_goto (tgt := 118) (a_dec_at dc_B_judge 47 rfl) (by decide) ?_
              exact m_retI (a_dec_at dc_B_judge 49 rfl) rfl rfl H
            have H := H.2
            by_cases e29 : a2 = 1
            · have H := H.1 e29
              refine w_tableIn (c := 1) (off := 39) (tgt := 119) (a_dec_at dc_B_judge 43 rfl) e29 (by decide) (by decide) (by decide) (by decide) ?_
              refine ev_iload rfl (a_dec_at dc_B_judge 50 rfl) ?_
              refine ev_if_eq (tgt := 128) (a_dec_at dc_B_judge 51 rfl) (by decide) (fun q => absurd q (by decide)) (fun _ => ?_)
              refine ev_iconst (v := 0) rfl (a_dec_at dc_B_judge 52 rfl) ?_
              refine ev_goto (tgt := 145) (a_dec_at dc_B_judge 53 rfl) (by decide) ?_
              exact m_retI (a_dec_at dc_B_judge 63 rfl) rfl rfl H
            have H := H.2
            by_cases e30 : a2 = 2
            · have H := H.1 e30
              refine w_tableIn (c := 2) (off := 66) (tgt := 146) (a_dec_at dc_B_judge 43 rfl) e30 (by decide) (by decide) (by decide) (by decide) ?_
              refine ev_aload_n (i := 0) rfl rfl (a_dec_at dc_B_judge 64 rfl) ?_
              refine m_getR (y := 33) fl_B_61 rfl sh1 (mr_1_9 _) (by decide) (a_dec_at dc_B_judge 65 rfl) ?_
              refine cV0I cs_B_268 sh33 rfl (Nat.le_of_ble_eq_true rfl) (Nat.le_of_ble_eq_true rfl) (a_dec_at dc_B_judge 66 rfl) ?_
              refine CI.mono (fun x31 mi31 ml31 z31 H => ?_) H
              exact m_retI (a_dec_at dc_B_judge 67 rfl) rfl rfl H
            have H := H.2
            refine w_tableOut (tgt := 154) [0, 1, 2] (a_dec_at dc_B_judge 43 rfl) (by decide) (by intro c hc; simp only [List.mem_cons, List.not_mem_nil, or_false] at hc; rcases hc with rfl | rfl | rfl <;> assumption) (by decide) ?_
            have H := H e28 e29 e30
            refine ev_aload_n (i := 0) rfl rfl (a_dec_at dc_B_judge 68 rfl) ?_
            refine m_getR (y := 33) fl_B_61 rfl sh1 (mr_1_9 _) (by decide) (a_dec_at dc_B_judge 69 rfl) ?_
            refine cV0I cs_B_272 sh33 rfl (Nat.le_of_ble_eq_true rfl) (Nat.le_of_ble_eq_true rfl) (a_dec_at dc_B_judge 70 rfl) ?_
            refine CI.mono (fun x32 mi32 ml32 z32 H => ?_) H
            exact m_retI (a_dec_at dc_B_judge 71 rfl) rfl rfl H
        · have H := H.2 b9
          refine ev_bipush (v := (-6)) rfl (a_dec_at dc_B_judge 16 rfl) ?_
          exact m_retI (a_dec_at dc_B_judge 17 rfl) rfl rfl H
      · have H := H.2 b4
        refine ev_bipush (v := (-2)) rfl (a_dec_at dc_B_judge 8 rfl) ?_
        exact m_retI (a_dec_at dc_B_judge 9 rfl) rfl rfl H
set_option maxRecDepth 20000 in
theorem t_B_isTray {l : Launch} {h : Nat} (mi : TMi) (ml : TMl) (z : Nat) (a1 : Int32) {Q : Int32 → TMi → TMl → Nat → Prop} (H : ((a1 < 0 → Q 0 mi ml z) ∧ (¬ a1 < 0 → ((4 ≤ a1 → Q 0 mi ml z) ∧ (¬ 4 ≤ a1 → Q 1 mi ml z))))) : CI l (h + 1) m_B_isTray [.int a1] mi ml z Q := by
  show Ev l (h + 1) m_B_isTray 0 ([.int a1], [], st mi ml z) (qI Q)
  refine ev_iload_n (i := 0) rfl rfl (a_dec_at dc_B_isTray 0 rfl) ?_
  refine ev_if_lt (tgt := 13) (a_dec_at dc_B_isTray 1 rfl) (by decide) (fun b1 => ?_) (fun b1 => ?_)
  · have H := H.1 b1
    refine ev_iconst (v := 0) rfl (a_dec_at dc_B_isTray 7 rfl) ?_
    exact m_retI (a_dec_at dc_B_isTray 8 rfl) rfl rfl H
  · have H := H.2 b1
    refine ev_iload_n (i := 0) rfl rfl (a_dec_at dc_B_isTray 2 rfl) ?_
    refine ev_iconst (v := 4) rfl (a_dec_at dc_B_isTray 3 rfl) ?_
    refine ev_icmp_ge (tgt := 13) (a_dec_at dc_B_isTray 4 rfl) (by decide) (fun b2 => ?_) (fun b2 => ?_)
    · have H := H.1 b2
      refine ev_iconst (v := 0) rfl (a_dec_at dc_B_isTray 7 rfl) ?_
      exact m_retI (a_dec_at dc_B_isTray 8 rfl) rfl rfl H
    · have H := H.2 b2
      refine ev_iconst (v := 1) rfl (a_dec_at dc_B_isTray 5 rfl) ?_
      refine ev_goto (tgt := 14) (a_dec_at dc_B_isTray 6 rfl) (by decide) ?_
      exact m_retI (a_dec_at dc_B_isTray 8 rfl) rfl rfl H
set_option maxRecDepth 20000 in
theorem t_B_perform {l : Launch} {h : Nat} (mi : TMi) (ml : TMl) (z : Nat) (a1 : Int32) {Q : Int32 → TMi → TMl → Nat → Prop} (H : CI l h m_B_isTray [.int a1] mi ml z (fun x1 mi1 ml1 z1 => ((¬ x1 = 0 → (vp_in a1 4) ∧ (0 < (MR z1 78 a1.toNatClampNeg) ∧ (MR z1 78 a1.toNatClampNeg) < 1000) ∧ (SH[(MR z1 78 a1.toNatClampNeg)]? = some (.inl 9)) ∧ CI l h m_Tr_missing [.ref (MR z1 78 a1.toNatClampNeg)] mi1 ml1 z1 (fun x6 mi6 ml6 z6 => ((x6 = 0 → CV l h m_Pa_look [.ref 42, .ref 27] mi6 ml6 z6 (fun mi8 ml8 z8 => (vp_in a1 4) ∧ (0 < (MR z8 78 a1.toNatClampNeg) ∧ (MR z8 78 a1.toNatClampNeg) < 1000) ∧ CI l h m_Sc_doAll [.ref 17, .ref (MR z8 78 a1.toNatClampNeg)] mi8 ml8 z8 (fun x11 mi11 ml11 z11 => CI l h m_B_keptIfSome [.ref 1, .int x11] mi11 ml11 z11 (fun x12 mi12 ml12 z12 => Q x12 mi12 ml12 z12)))) ∧ (¬ x6 = 0 → Q (-6) mi6 ml6 z6)))) ∧ (x1 = 0 → Q (-2) mi1 ml1 z1)))) : CI l (h + 1) m_B_perform [.ref 1, .int a1] mi ml z Q := by
  show Ev l (h + 1) m_B_perform 0 ([.ref 1, .int a1], [], st mi ml z) (qI Q)
  refine ev_iload_n (i := 1) rfl rfl (a_dec_at dc_B_perform 0 rfl) ?_
  refine cS1I cs_B_245 rfl (Nat.le_of_ble_eq_true rfl) (Nat.le_of_ble_eq_true rfl) (a_dec_at dc_B_perform 1 rfl) ?_
  refine CI.mono (fun x1 mi1 ml1 z1 H => ?_) H
  refine ev_if_ne (tgt := 10) (a_dec_at dc_B_perform 2 rfl) (by decide) (fun b2 => ?_) (fun b2 => ?_)
  · have H := H.1 b2
    refine ev_aload_n (i := 0) rfl rfl (a_dec_at dc_B_perform 5 rfl) ?_
    refine m_getR (y := 78) fl_B_113 rfl sh1 (mr_1_17 _) (by decide) (a_dec_at dc_B_perform 6 rfl) ?_
    refine ev_iload_n (i := 1) rfl rfl (a_dec_at dc_B_perform 7 rfl) ?_
    obtain ⟨c3, H⟩ := H
    obtain ⟨c4, H⟩ := H
    refine w_aald (k := a1.toNatClampNeg) (y := (MR z1 78 a1.toNatClampNeg)) (by decide) sh78 c3 rfl rfl c4 (a_dec_at dc_B_perform 8 rfl) ?_
    obtain ⟨c5, H⟩ := H
    refine cV0I cs_B_248 c5 rfl (Nat.le_of_ble_eq_true rfl) (Nat.le_of_ble_eq_true rfl) (a_dec_at dc_B_perform 9 rfl) ?_
    refine CI.mono (fun x6 mi6 ml6 z6 H => ?_) H
    refine ev_if_eq (tgt := 25) (a_dec_at dc_B_perform 10 rfl) (by decide) (fun b7 => ?_) (fun b7 => ?_)
    · have H := H.1 b7
      refine ev_aload_n (i := 0) rfl rfl (a_dec_at dc_B_perform 13 rfl) ?_
      refine m_getR (y := 42) fl_B_75 rfl sh1 (mr_1_12 _) (by decide) (a_dec_at dc_B_perform 14 rfl) ?_
      refine ev_aload_n (i := 0) rfl rfl (a_dec_at dc_B_perform 15 rfl) ?_
      refine m_getR (y := 17) fl_B_54 rfl sh1 (mr_1_8 _) (by decide) (a_dec_at dc_B_perform 16 rfl) ?_
      refine m_getR (y := 27) fl_B_182 rfl sh17 (mr_17_2 _) (by decide) (a_dec_at dc_B_perform 17 rfl) ?_
      refine cV1V cs_B_209 sh42 rfl (Nat.le_of_ble_eq_true rfl) (Nat.le_of_ble_eq_true rfl) (a_dec_at dc_B_perform 18 rfl) ?_
      refine CV.mono (fun mi8 ml8 z8 H => ?_) H
      refine ev_aload_n (i := 0) rfl rfl (a_dec_at dc_B_perform 19 rfl) ?_
      refine ev_aload_n (i := 0) rfl rfl (a_dec_at dc_B_perform 20 rfl) ?_
      refine m_getR (y := 17) fl_B_54 rfl sh1 (mr_1_8 _) (by decide) (a_dec_at dc_B_perform 21 rfl) ?_
      refine ev_aload_n (i := 0) rfl rfl (a_dec_at dc_B_perform 22 rfl) ?_
      refine m_getR (y := 78) fl_B_113 rfl sh1 (mr_1_17 _) (by decide) (a_dec_at dc_B_perform 23 rfl) ?_
      refine ev_iload_n (i := 1) rfl rfl (a_dec_at dc_B_perform 24 rfl) ?_
      obtain ⟨c9, H⟩ := H
      obtain ⟨c10, H⟩ := H
      refine w_aald (k := a1.toNatClampNeg) (y := (MR z8 78 a1.toNatClampNeg)) (by decide) sh78 c9 rfl rfl c10 (a_dec_at dc_B_perform 25 rfl) ?_
      refine cV1I cs_B_255 sh17 rfl (Nat.le_of_ble_eq_true rfl) (Nat.le_of_ble_eq_true rfl) (a_dec_at dc_B_perform 26 rfl) ?_
      refine CI.mono (fun x11 mi11 ml11 z11 H => ?_) H
      refine cV1I cs_B_275 sh1 rfl (Nat.le_of_ble_eq_true rfl) (Nat.le_of_ble_eq_true rfl) (a_dec_at dc_B_perform 27 rfl) ?_
      refine CI.mono (fun x12 mi12 ml12 z12 H => ?_) H
      exact m_retI (a_dec_at dc_B_perform 28 rfl) rfl rfl H
    · have H := H.2 b7
      refine ev_bipush (v := (-6)) rfl (a_dec_at dc_B_perform 11 rfl) ?_
      exact m_retI (a_dec_at dc_B_perform 12 rfl) rfl rfl H
  · have H := H.2 b2
    refine ev_bipush (v := (-2)) rfl (a_dec_at dc_B_perform 3 rfl) ?_
    exact m_retI (a_dec_at dc_B_perform 4 rfl) rfl rfl H
set_option maxRecDepth 20000 in
theorem t_B_keptIfSome {l : Launch} {h : Nat} (mi : TMi) (ml : TMl) (z : Nat) (a1 : Int32) {Q : Int32 → TMi → TMl → Nat → Prop} (H : ((a1 ≤ 0 → Q a1 mi ml z) ∧ (¬ a1 ≤ 0 → CV l h m_Pa_keep [.ref 42] mi ml z (fun mi2 ml2 z2 => Q a1 mi2 ml2 z2)))) : CI l (h + 1) m_B_keptIfSome [.ref 1, .int a1] mi ml z Q := by
  show Ev l (h + 1) m_B_keptIfSome 0 ([.ref 1, .int a1], [], st mi ml z) (qI Q)
  refine ev_iload_n (i := 1) rfl rfl (a_dec_at dc_B_keptIfSome 0 rfl) ?_
  refine ev_if_le (tgt := 11) (a_dec_at dc_B_keptIfSome 1 rfl) (by decide) (fun b1 => ?_) (fun b1 => ?_)
  · have H := H.1 b1
    refine ev_iload_n (i := 1) rfl rfl (a_dec_at dc_B_keptIfSome 5 rfl) ?_
    exact m_retI (a_dec_at dc_B_keptIfSome 6 rfl) rfl rfl H
  · have H := H.2 b1
    refine ev_aload_n (i := 0) rfl rfl (a_dec_at dc_B_keptIfSome 2 rfl) ?_
    refine m_getR (y := 42) fl_B_75 rfl sh1 (mr_1_12 _) (by decide) (a_dec_at dc_B_keptIfSome 3 rfl) ?_
    refine cV0V cs_B_232 sh42 rfl (Nat.le_of_ble_eq_true rfl) (Nat.le_of_ble_eq_true rfl) (a_dec_at dc_B_keptIfSome 4 rfl) ?_
    refine CV.mono (fun mi2 ml2 z2 H => ?_) H
    refine ev_iload_n (i := 1) rfl rfl (a_dec_at dc_B_keptIfSome 5 rfl) ?_
    exact m_retI (a_dec_at dc_B_keptIfSome 6 rfl) rfl rfl H
set_option maxRecDepth 20000 in
theorem t_B_year {l : Launch} {h : Nat} (mi : TMi) (ml : TMl) (z : Nat) (a1 : Int32) (a2 : Int32) {Q : Int32 → TMi → TMl → Nat → Prop} (H : ((a2 < 1 → Q (-3) mi ml z) ∧ (¬ a2 < 1 → ((a2 ≤ 40 → CV l h m_Pa_look [.ref 42, .ref 27] mi ml z (fun mi3 ml3 z3 => Ev l (h + 1) m_B_year 38 ([.ref 1, .retAddr 0, .int a2, .int 0, .int 0], [], st (up mi3 1 18 a1) ml3 z3) (qI Q))) ∧ (¬ a2 ≤ 40 → Q (-3) mi ml z))))) : CI l (h + 1) m_B_year [.ref 1, .int a1, .int a2] mi ml z Q := by
  show Ev l (h + 1) m_B_year 0 ([.ref 1, .int a1, .int a2, .retAddr 0, .retAddr 0], [], st mi ml z) (qI Q)
  refine ev_iload_n (i := 2) rfl rfl (a_dec_at dc_B_year 0 rfl) ?_
  refine ev_iconst (v := 1) rfl (a_dec_at dc_B_year 1 rfl) ?_
  refine ev_icmp_lt (tgt := 11) (a_dec_at dc_B_year 2 rfl) (by decide) (fun b1 => ?_) (fun b1 => ?_)
  · have H := H.1 b1
    refine ev_bipush (v := (-3)) rfl (a_dec_at dc_B_year 6 rfl) ?_
    exact m_retI (a_dec_at dc_B_year 7 rfl) rfl rfl H
  · have H := H.2 b1
    refine ev_iload_n (i := 2) rfl rfl (a_dec_at dc_B_year 3 rfl) ?_
    refine ev_bipush (v := 40) rfl (a_dec_at dc_B_year 4 rfl) ?_
    refine ev_icmp_le (tgt := 14) (a_dec_at dc_B_year 5 rfl) (by decide) (fun b2 => ?_) (fun b2 => ?_)
    · have H := H.1 b2
      refine ev_aload_n (i := 0) rfl rfl (a_dec_at dc_B_year 8 rfl) ?_
      refine m_getR (y := 42) fl_B_75 rfl sh1 (mr_1_12 _) (by decide) (a_dec_at dc_B_year 9 rfl) ?_
      refine ev_aload_n (i := 0) rfl rfl (a_dec_at dc_B_year 10 rfl) ?_
      refine m_getR (y := 17) fl_B_54 rfl sh1 (mr_1_8 _) (by decide) (a_dec_at dc_B_year 11 rfl) ?_
      refine m_getR (y := 27) fl_B_182 rfl sh17 (mr_17_2 _) (by decide) (a_dec_at dc_B_year 12 rfl) ?_
      refine cV1V cs_B_209 sh42 rfl (Nat.le_of_ble_eq_true rfl) (Nat.le_of_ble_eq_true rfl) (a_dec_at dc_B_year 13 rfl) ?_
      refine CV.mono (fun mi3 ml3 z3 H => ?_) H
      refine ev_aload_n (i := 0) rfl rfl (a_dec_at dc_B_year 14 rfl) ?_
      refine ev_iload_n (i := 1) rfl rfl (a_dec_at dc_B_year 15 rfl) ?_
      refine m_putI fl_B_278 rfl (fun _ _ _ h => by cases h; exact Or.inl rfl) sh1 (a_dec_at dc_B_year 16 rfl) ?_
      refine ev_iconst (v := 0) rfl (a_dec_at dc_B_year 17 rfl) ?_
      refine ev_istore_n (i := 3) rfl (by decide) rfl (a_dec_at dc_B_year 18 rfl) ?_
      refine ev_iconst (v := 0) rfl (a_dec_at dc_B_year 19 rfl) ?_
      refine ev_istore (by decide) rfl (a_dec_at dc_B_year 20 rfl) ?_
      exact Ev.drop (L' := [.ref 1, .retAddr 0, .int a2, .int 0, .int 0]) (And.intro rfl (And.intro rfl (And.intro rfl (And.intro rfl trivial)))) H
    · have H := H.2 b2
      refine ev_bipush (v := (-3)) rfl (a_dec_at dc_B_year 6 rfl) ?_
      exact m_retI (a_dec_at dc_B_year 7 rfl) rfl rfl H
set_option maxRecDepth 20000 in
theorem t_B_year_38 {l : Launch} {h : Nat} (mi : TMi) (ml : TMl) (z : Nat) (v2 : Int32) (v3 : Int32) (v4 : Int32) {Q : Int32 → TMi → TMl → Nat → Prop} (H : ((v2 ≤ v4 → CI l h m_B_keptIfSome [.ref 1, .int v3] mi ml z (fun x2 mi2 ml2 z2 => Q x2 mi2 ml2 z2)) ∧ (¬ v2 ≤ v4 → CI l h m_B_drawnDeed [.ref 1] mi ml z (fun x3 mi3 ml3 z3 => CI l h m_Sc_whyNot [.ref 17, .long x3.toInt64] mi3 ml3 z3 (fun x4 mi4 ml4 z4 => ((¬ x4 = 0 → Ev l (h + 1) m_B_year 38 ([.ref 1, .retAddr 0, .int v2, .int v3, .int (v4 + 1)], [], st mi4 ml4 z4) (qI Q)) ∧ (x4 = 0 → Ev l (h + 1) m_B_year 38 ([.ref 1, .retAddr 0, .int v2, .int (v3 + 1), .int (v4 + 1)], [], st mi4 ml4 z4) (qI Q)))))))) : Ev l (h + 1) m_B_year 38 ([.ref 1, .retAddr 0, .int v2, .int v3, .int v4], [], st mi ml z) (qI Q) := by
  refine ev_iload rfl (a_dec_at dc_B_year 21 rfl) ?_
  refine ev_iload_n (i := 2) rfl rfl (a_dec_at dc_B_year 22 rfl) ?_
  refine ev_icmp_ge (tgt := 68) (a_dec_at dc_B_year 23 rfl) (by decide) (fun b1 => ?_) (fun b1 => ?_)
  · have H := H.1 b1
    refine ev_aload_n (i := 0) rfl rfl (a_dec_at dc_B_year 34 rfl) ?_
    refine ev_iload_n (i := 3) rfl rfl (a_dec_at dc_B_year 35 rfl) ?_
    refine cV1I cs_B_275 sh1 rfl (Nat.le_of_ble_eq_true rfl) (Nat.le_of_ble_eq_true rfl) (a_dec_at dc_B_year 36 rfl) ?_
    refine CI.mono (fun x2 mi2 ml2 z2 H => ?_) H
    exact m_retI (a_dec_at dc_B_year 37 rfl) rfl rfl H
  · have H := H.2 b1
    refine ev_aload_n (i := 0) rfl rfl (a_dec_at dc_B_year 24 rfl) ?_
    refine m_getR (y := 17) fl_B_54 rfl sh1 (mr_1_8 _) (by decide) (a_dec_at dc_B_year 25 rfl) ?_
    refine ev_aload_n (i := 0) rfl rfl (a_dec_at dc_B_year 26 rfl) ?_
    refine cV0I cs_B_281 sh1 rfl (Nat.le_of_ble_eq_true rfl) (Nat.le_of_ble_eq_true rfl) (a_dec_at dc_B_year 27 rfl) ?_
    refine CI.mono (fun x3 mi3 ml3 z3 H => ?_) H
    refine ev_i2l (a_dec_at dc_B_year 28 rfl) ?_
    refine cV1I cs_B_264 sh17 rfl (Nat.le_of_ble_eq_true rfl) (Nat.le_of_ble_eq_true rfl) (a_dec_at dc_B_year 29 rfl) ?_
    refine CI.mono (fun x4 mi4 ml4 z4 H => ?_) H
    refine ev_if_ne (tgt := 62) (a_dec_at dc_B_year 30 rfl) (by decide) (fun b5 => ?_) (fun b5 => ?_)
    · have H := H.1 b5
      refine ev_iinc (v := 1) rfl rfl (by decide) rfl (a_dec_at dc_B_year 32 rfl) ?_
      refine ev_goto (tgt := 38) (a_dec_at dc_B_year 33 rfl) (by decide) ?_
      exact Ev.drop (L' := [.ref 1, .retAddr 0, .int v2, .int v3, .int (v4 + 1)]) (And.intro rfl (And.intro rfl (And.intro rfl (And.intro rfl trivial)))) H
    · have H := H.2 b5
      refine ev_iinc (v := 1) rfl rfl (by decide) rfl (a_dec_at dc_B_year 31 rfl) ?_
      refine ev_iinc (v := 1) rfl rfl (by decide) rfl (a_dec_at dc_B_year 32 rfl) ?_
      refine ev_goto (tgt := 38) (a_dec_at dc_B_year 33 rfl) (by decide) ?_
      exact Ev.drop (L' := [.ref 1, .retAddr 0, .int v2, .int (v3 + 1), .int (v4 + 1)]) (And.intro rfl (And.intro rfl (And.intro rfl (And.intro rfl trivial)))) H
set_option maxRecDepth 20000 in
theorem t_B_drawnDeed {l : Launch} {h : Nat} (mi : TMi) (ml : TMl) (z : Nat) {Q : Int32 → TMi → TMl → Nat → Prop} (H : CI l h m_B_drawn [.ref 1, .int 6] mi ml z (fun x1 mi1 ml1 z1 => ((2 < x1 → ((¬ x1 = 3 → ((¬ x1 = 4 → CI l h m_B_drawn [.ref 1, .int 6] mi1 ml1 z1 (fun x5 mi5 ml5 z5 => CI l h m_B_drawn [.ref 1, .int 10] mi5 ml5 z5 (fun x6 mi6 ml6 z6 => Q ((300 + (10 * x5)) + x6) mi6 ml6 z6))) ∧ (x1 = 4 → CI l h m_B_drawn [.ref 1, .int 4] mi1 ml1 z1 (fun x7 mi7 ml7 z7 => CI l h m_B_drawn [.ref 1, .int 6] mi7 ml7 z7 (fun x8 mi8 ml8 z8 => Q ((200 + (10 * x7)) + x8) mi8 ml8 z8))))) ∧ (x1 = 3 → CI l h m_B_drawn [.ref 1, .int 6] mi1 ml1 z1 (fun x9 mi9 ml9 z9 => Q (100 + x9) mi9 ml9 z9)))) ∧ (¬ 2 < x1 → CI l h m_B_drawn [.ref 1, .int 6] mi1 ml1 z1 (fun x10 mi10 ml10 z10 => CI l h m_B_drawn [.ref 1, .int 4] mi10 ml10 z10 (fun x11 mi11 ml11 z11 => Q ((10 * x10) + x11) mi11 ml11 z11)))))) : CI l (h + 1) m_B_drawnDeed [.ref 1] mi ml z Q := by
  show Ev l (h + 1) m_B_drawnDeed 0 ([.ref 1, .retAddr 0, .retAddr 0], [], st mi ml z) (qI Q)
  refine ev_aload_n (i := 0) rfl rfl (a_dec_at dc_B_drawnDeed 0 rfl) ?_
  refine ev_bipush (v := 6) rfl (a_dec_at dc_B_drawnDeed 1 rfl) ?_
  refine cV1I cs_B_284 sh1 rfl (Nat.le_of_ble_eq_true rfl) (Nat.le_of_ble_eq_true rfl) (a_dec_at dc_B_drawnDeed 2 rfl) ?_
  refine CI.mono (fun x1 mi1 ml1 z1 H => ?_) H
  refine ev_istore_n (i := 1) rfl (by decide) rfl (a_dec_at dc_B_drawnDeed 3 rfl) ?_
  refine ev_iload_n (i := 1) rfl rfl (a_dec_at dc_B_drawnDeed 4 rfl) ?_
  refine ev_iconst (v := 2) rfl (a_dec_at dc_B_drawnDeed 5 rfl) ?_
  refine ev_icmp_gt (tgt := 30) (a_dec_at dc_B_drawnDeed 6 rfl) (by decide) (fun b2 => ?_) (fun b2 => ?_)
  · have H := H.1 b2
    refine ev_iload_n (i := 1) rfl rfl (a_dec_at dc_B_drawnDeed 19 rfl) ?_
    refine ev_iconst (v := 3) rfl (a_dec_at dc_B_drawnDeed 20 rfl) ?_
    refine ev_icmp_ne (tgt := 45) (a_dec_at dc_B_drawnDeed 21 rfl) (by decide) (fun b3 => ?_) (fun b3 => ?_)
    · have H := H.1 b3
      refine ev_iload_n (i := 1) rfl rfl (a_dec_at dc_B_drawnDeed 28 rfl) ?_
      refine ev_iconst (v := 4) rfl (a_dec_at dc_B_drawnDeed 29 rfl) ?_
      refine ev_icmp_ne (tgt := 72) (a_dec_at dc_B_drawnDeed 30 rfl) (by decide) (fun b4 => ?_) (fun b4 => ?_)
      · have H := H.1 b4
        refine ev_aload_n (i := 0) rfl rfl (a_dec_at dc_B_drawnDeed 45 rfl) ?_
        refine ev_bipush (v := 6) rfl (a_dec_at dc_B_drawnDeed 46 rfl) ?_
        refine cV1I cs_B_284 sh1 rfl (Nat.le_of_ble_eq_true rfl) (Nat.le_of_ble_eq_true rfl) (a_dec_at dc_B_drawnDeed 47 rfl) ?_
        refine CI.mono (fun x5 mi5 ml5 z5 H => ?_) H
        refine ev_istore_n (i := 2) rfl (by decide) rfl (a_dec_at dc_B_drawnDeed 48 rfl) ?_
        refine ev_sipush (v := 300) rfl (a_dec_at dc_B_drawnDeed 49 rfl) ?_
        refine ev_bipush (v := 10) rfl (a_dec_at dc_B_drawnDeed 50 rfl) ?_
        refine ev_iload_n (i := 2) rfl rfl (a_dec_at dc_B_drawnDeed 51 rfl) ?_
        refine ev_imul (a_dec_at dc_B_drawnDeed 52 rfl) ?_
        refine ev_iadd (a_dec_at dc_B_drawnDeed 53 rfl) ?_
        refine ev_aload_n (i := 0) rfl rfl (a_dec_at dc_B_drawnDeed 54 rfl) ?_
        refine ev_bipush (v := 10) rfl (a_dec_at dc_B_drawnDeed 55 rfl) ?_
        refine cV1I cs_B_284 sh1 rfl (Nat.le_of_ble_eq_true rfl) (Nat.le_of_ble_eq_true rfl) (a_dec_at dc_B_drawnDeed 56 rfl) ?_
        refine CI.mono (fun x6 mi6 ml6 z6 H => ?_) H
        refine ev_iadd (a_dec_at dc_B_drawnDeed 57 rfl) ?_
        exact m_retI (a_dec_at dc_B_drawnDeed 58 rfl) rfl rfl H
      · have H := H.2 b4
        refine ev_aload_n (i := 0) rfl rfl (a_dec_at dc_B_drawnDeed 31 rfl) ?_
        refine ev_iconst (v := 4) rfl (a_dec_at dc_B_drawnDeed 32 rfl) ?_
        refine cV1I cs_B_284 sh1 rfl (Nat.le_of_ble_eq_true rfl) (Nat.le_of_ble_eq_true rfl) (a_dec_at dc_B_drawnDeed 33 rfl) ?_
        refine CI.mono (fun x7 mi7 ml7 z7 H => ?_) H
        refine ev_istore_n (i := 2) rfl (by decide) rfl (a_dec_at dc_B_drawnDeed 34 rfl) ?_
        refine ev_sipush (v := 200) rfl (a_dec_at dc_B_drawnDeed 35 rfl) ?_
        refine ev_bipush (v := 10) rfl (a_dec_at dc_B_drawnDeed 36 rfl) ?_
        refine ev_iload_n (i := 2) rfl rfl (a_dec_at dc_B_drawnDeed 37 rfl) ?_
        refine ev_imul (a_dec_at dc_B_drawnDeed 38 rfl) ?_
        refine ev_iadd (a_dec_at dc_B_drawnDeed 39 rfl) ?_
        refine ev_aload_n (i := 0) rfl rfl (a_dec_at dc_B_drawnDeed 40 rfl) ?_
        refine ev_bipush (v := 6) rfl (a_dec_at dc_B_drawnDeed 41 rfl) ?_
        refine cV1I cs_B_284 sh1 rfl (Nat.le_of_ble_eq_true rfl) (Nat.le_of_ble_eq_true rfl) (a_dec_at dc_B_drawnDeed 42 rfl) ?_
        refine CI.mono (fun x8 mi8 ml8 z8 H => ?_) H
        refine ev_iadd (a_dec_at dc_B_drawnDeed 43 rfl) ?_
        exact m_retI (a_dec_at dc_B_drawnDeed 44 rfl) rfl rfl H
    · have H := H.2 b3
      refine ev_bipush (v := 100) rfl (a_dec_at dc_B_drawnDeed 22 rfl) ?_
      refine ev_aload_n (i := 0) rfl rfl (a_dec_at dc_B_drawnDeed 23 rfl) ?_
      refine ev_bipush (v := 6) rfl (a_dec_at dc_B_drawnDeed 24 rfl) ?_
      refine cV1I cs_B_284 sh1 rfl (Nat.le_of_ble_eq_true rfl) (Nat.le_of_ble_eq_true rfl) (a_dec_at dc_B_drawnDeed 25 rfl) ?_
      refine CI.mono (fun x9 mi9 ml9 z9 H => ?_) H
      refine ev_iadd (a_dec_at dc_B_drawnDeed 26 rfl) ?_
      exact m_retI (a_dec_at dc_B_drawnDeed 27 rfl) rfl rfl H
  · have H := H.2 b2
    refine ev_aload_n (i := 0) rfl rfl (a_dec_at dc_B_drawnDeed 7 rfl) ?_
    refine ev_bipush (v := 6) rfl (a_dec_at dc_B_drawnDeed 8 rfl) ?_
    refine cV1I cs_B_284 sh1 rfl (Nat.le_of_ble_eq_true rfl) (Nat.le_of_ble_eq_true rfl) (a_dec_at dc_B_drawnDeed 9 rfl) ?_
    refine CI.mono (fun x10 mi10 ml10 z10 H => ?_) H
    refine ev_istore_n (i := 2) rfl (by decide) rfl (a_dec_at dc_B_drawnDeed 10 rfl) ?_
    refine ev_bipush (v := 10) rfl (a_dec_at dc_B_drawnDeed 11 rfl) ?_
    refine ev_iload_n (i := 2) rfl rfl (a_dec_at dc_B_drawnDeed 12 rfl) ?_
    refine ev_imul (a_dec_at dc_B_drawnDeed 13 rfl) ?_
    refine ev_aload_n (i := 0) rfl rfl (a_dec_at dc_B_drawnDeed 14 rfl) ?_
    refine ev_iconst (v := 4) rfl (a_dec_at dc_B_drawnDeed 15 rfl) ?_
    refine cV1I cs_B_284 sh1 rfl (Nat.le_of_ble_eq_true rfl) (Nat.le_of_ble_eq_true rfl) (a_dec_at dc_B_drawnDeed 16 rfl) ?_
    refine CI.mono (fun x11 mi11 ml11 z11 H => ?_) H
    refine ev_iadd (a_dec_at dc_B_drawnDeed 17 rfl) ?_
    exact m_retI (a_dec_at dc_B_drawnDeed 18 rfl) rfl rfl H
set_option maxRecDepth 20000 in
theorem t_B_drawn {l : Launch} {h : Nat} (mi : TMi) (ml : TMl) (z : Nat) (a1 : Int32) {Q : Int32 → TMi → TMl → Nat → Prop} (H : ((a1 ≤ 0 → Q 0 (up mi 1 18 ((1103515245 * (mi 1 18)) + 12345)) ml z) ∧ (¬ a1 ≤ 0 → (¬ a1 = 0) ∧ Q (a_rem (a_ushr ((up mi 1 18 ((1103515245 * (mi 1 18)) + 12345)) 1 18) 16) a1) (up mi 1 18 ((1103515245 * (mi 1 18)) + 12345)) ml z))) : CI l (h + 1) m_B_drawn [.ref 1, .int a1] mi ml z Q := by
  show Ev l (h + 1) m_B_drawn 0 ([.ref 1, .int a1], [], st mi ml z) (qI Q)
  refine ev_aload_n (i := 0) rfl rfl (a_dec_at dc_B_drawn 0 rfl) ?_
  refine ev_ldcw kc_B_287 (a_dec_at dc_B_drawn 1 rfl) ?_
  refine ev_aload_n (i := 0) rfl rfl (a_dec_at dc_B_drawn 2 rfl) ?_
  refine m_getI fl_B_278 rfl sh1 (a_dec_at dc_B_drawn 3 rfl) ?_
  refine ev_imul (a_dec_at dc_B_drawn 4 rfl) ?_
  refine ev_sipush (v := 12345) rfl (a_dec_at dc_B_drawn 5 rfl) ?_
  refine ev_iadd (a_dec_at dc_B_drawn 6 rfl) ?_
  refine m_putI fl_B_278 rfl (fun _ _ _ h => by cases h; exact Or.inl rfl) sh1 (a_dec_at dc_B_drawn 7 rfl) ?_
  refine ev_iload_n (i := 1) rfl rfl (a_dec_at dc_B_drawn 8 rfl) ?_
  refine ev_if_le (tgt := 32) (a_dec_at dc_B_drawn 9 rfl) (by decide) (fun b1 => ?_) (fun b1 => ?_)
  · have H := H.1 b1
    refine ev_iconst (v := 0) rfl (a_dec_at dc_B_drawn 17 rfl) ?_
    exact m_retI (a_dec_at dc_B_drawn 18 rfl) rfl rfl H
  · have H := H.2 b1
    refine ev_aload_n (i := 0) rfl rfl (a_dec_at dc_B_drawn 10 rfl) ?_
    refine m_getI fl_B_278 rfl sh1 (a_dec_at dc_B_drawn 11 rfl) ?_
    refine ev_bipush (v := 16) rfl (a_dec_at dc_B_drawn 12 rfl) ?_
    refine ev_iushr (a_dec_at dc_B_drawn 13 rfl) ?_
    refine ev_iload_n (i := 1) rfl rfl (a_dec_at dc_B_drawn 14 rfl) ?_
    obtain ⟨c2, H⟩ := H
    refine ev_irem c2 (a_dec_at dc_B_drawn 15 rfl) ?_
    refine ev_goto (tgt := 33) (a_dec_at dc_B_drawn 16 rfl) (by decide) ?_
    exact m_retI (a_dec_at dc_B_drawn 18 rfl) rfl rfl H
set_option maxRecDepth 20000 in
theorem t_B_holds {l : Launch} {h : Nat} (mi : TMi) (ml : TMl) (z : Nat) {Q : Int32 → TMi → TMl → Nat → Prop} (H : CI l h m_Sc_isHeld [.ref 17, .ref 27] mi ml z (fun x1 mi1 ml1 z1 => ((x1 = 0 → Q 0 mi1 ml1 z1) ∧ (¬ x1 = 0 → Q 1 mi1 ml1 z1)))) : CI l (h + 1) m_B_holds [.ref 1] mi ml z Q := by
  show Ev l (h + 1) m_B_holds 0 ([.ref 1], [], st mi ml z) (qI Q)
  refine ev_aload_n (i := 0) rfl rfl (a_dec_at dc_B_holds 0 rfl) ?_
  refine m_getR (y := 17) fl_B_54 rfl sh1 (mr_1_8 _) (by decide) (a_dec_at dc_B_holds 1 rfl) ?_
  refine ev_aload_n (i := 0) rfl rfl (a_dec_at dc_B_holds 2 rfl) ?_
  refine m_getR (y := 17) fl_B_54 rfl sh1 (mr_1_8 _) (by decide) (a_dec_at dc_B_holds 3 rfl) ?_
  refine m_getR (y := 27) fl_B_182 rfl sh17 (mr_17_2 _) (by decide) (a_dec_at dc_B_holds 4 rfl) ?_
  refine cV1I cs_B_288 sh17 rfl (Nat.le_of_ble_eq_true rfl) (Nat.le_of_ble_eq_true rfl) (a_dec_at dc_B_holds 5 rfl) ?_
  refine CI.mono (fun x1 mi1 ml1 z1 H => ?_) H
  refine ev_if_eq (tgt := 21) (a_dec_at dc_B_holds 6 rfl) (by decide) (fun b2 => ?_) (fun b2 => ?_)
  · have H := H.1 b2
    refine ev_iconst (v := 0) rfl (a_dec_at dc_B_holds 9 rfl) ?_
    exact m_retI (a_dec_at dc_B_holds 10 rfl) rfl rfl H
  · have H := H.2 b2
    refine ev_iconst (v := 1) rfl (a_dec_at dc_B_holds 7 rfl) ?_
    refine ev_goto (tgt := 22) (a_dec_at dc_B_holds 8 rfl) (by decide) ?_
    exact m_retI (a_dec_at dc_B_holds 10 rfl) rfl rfl H
set_option maxRecDepth 20000 in
theorem t_B_breaks {l : Launch} {h : Nat} (mi : TMi) (ml : TMl) (z : Nat) {Q : Int32 → TMi → TMl → Nat → Prop} (H : Ev l (h + 1) m_B_breaks 4 ([.ref 1, .int 0, .int 0], [], st mi ml z) (qI Q)) : CI l (h + 1) m_B_breaks [.ref 1] mi ml z Q := by
  show Ev l (h + 1) m_B_breaks 0 ([.ref 1, .retAddr 0, .retAddr 0], [], st mi ml z) (qI Q)
  refine ev_iconst (v := 0) rfl (a_dec_at dc_B_breaks 0 rfl) ?_
  refine ev_istore_n (i := 1) rfl (by decide) rfl (a_dec_at dc_B_breaks 1 rfl) ?_
  refine ev_iconst (v := 0) rfl (a_dec_at dc_B_breaks 2 rfl) ?_
  refine ev_istore_n (i := 2) rfl (by decide) rfl (a_dec_at dc_B_breaks 3 rfl) ?_
  exact Ev.drop (L' := [.ref 1, .int 0, .int 0]) (And.intro rfl (And.intro rfl (And.intro rfl trivial))) H
set_option maxRecDepth 20000 in
theorem t_B_breaks_4 {l : Launch} {h : Nat} (mi : TMi) (ml : TMl) (z : Nat) (v1 : Int32) (v2 : Int32) {Q : Int32 → TMi → TMl → Nat → Prop} (H : (((mi 18 0) ≤ v2 → Q v1 mi ml z) ∧ (¬ (mi 18 0) ≤ v2 → CI l h m_Sc_breakersOf [.ref 17, .ref 27, .int v2] mi ml z (fun x2 mi2 ml2 z2 => CI l h m_JI_bitCount [.int x2] mi2 ml2 z2 (fun x3 mi3 ml3 z3 => Ev l (h + 1) m_B_breaks 4 ([.ref 1, .int (v1 + x3), .int (v2 + 1)], [], st mi3 ml3 z3) (qI Q)))))) : Ev l (h + 1) m_B_breaks 4 ([.ref 1, .int v1, .int v2], [], st mi ml z) (qI Q) := by
  refine ev_iload_n (i := 2) rfl rfl (a_dec_at dc_B_breaks 4 rfl) ?_
  refine ev_aload_n (i := 0) rfl rfl (a_dec_at dc_B_breaks 5 rfl) ?_
  refine m_getR (y := 17) fl_B_54 rfl sh1 (mr_1_8 _) (by decide) (a_dec_at dc_B_breaks 6 rfl) ?_
  refine m_getR (y := 18) fl_B_58 rfl sh17 (mr_17_0 _) (by decide) (a_dec_at dc_B_breaks 7 rfl) ?_
  refine m_getI fl_B_292 rfl sh18 (a_dec_at dc_B_breaks 8 rfl) ?_
  refine ev_icmp_ge (tgt := 45) (a_dec_at dc_B_breaks 9 rfl) (by decide) (fun b1 => ?_) (fun b1 => ?_)
  · have H := H.1 b1
    refine ev_iload_n (i := 1) rfl rfl (a_dec_at dc_B_breaks 23 rfl) ?_
    exact m_retI (a_dec_at dc_B_breaks 24 rfl) rfl rfl H
  · have H := H.2 b1
    refine ev_iload_n (i := 1) rfl rfl (a_dec_at dc_B_breaks 10 rfl) ?_
    refine ev_aload_n (i := 0) rfl rfl (a_dec_at dc_B_breaks 11 rfl) ?_
    refine m_getR (y := 17) fl_B_54 rfl sh1 (mr_1_8 _) (by decide) (a_dec_at dc_B_breaks 12 rfl) ?_
    refine ev_aload_n (i := 0) rfl rfl (a_dec_at dc_B_breaks 13 rfl) ?_
    refine m_getR (y := 17) fl_B_54 rfl sh1 (mr_1_8 _) (by decide) (a_dec_at dc_B_breaks 14 rfl) ?_
    refine m_getR (y := 27) fl_B_182 rfl sh17 (mr_17_2 _) (by decide) (a_dec_at dc_B_breaks 15 rfl) ?_
    refine ev_iload_n (i := 2) rfl rfl (a_dec_at dc_B_breaks 16 rfl) ?_
    refine cV2I cs_B_295 sh17 rfl (Nat.le_of_ble_eq_true rfl) (Nat.le_of_ble_eq_true rfl) (a_dec_at dc_B_breaks 17 rfl) ?_
    refine CI.mono (fun x2 mi2 ml2 z2 H => ?_) H
    refine cS1I cs_B_298 rfl (Nat.le_of_ble_eq_true rfl) (Nat.le_of_ble_eq_true rfl) (a_dec_at dc_B_breaks 18 rfl) ?_
    refine CI.mono (fun x3 mi3 ml3 z3 H => ?_) H
    refine ev_iadd (a_dec_at dc_B_breaks 19 rfl) ?_
    refine ev_istore_n (i := 1) rfl (by decide) rfl (a_dec_at dc_B_breaks 20 rfl) ?_
    refine ev_iinc (v := 1) rfl rfl (by decide) rfl (a_dec_at dc_B_breaks 21 rfl) ?_
    refine ev_goto (tgt := 4) (a_dec_at dc_B_breaks 22 rfl) (by decide) ?_
    exact Ev.drop (L' := [.ref 1, .int (v1 + x3), .int (v2 + 1)]) (And.intro rfl (And.intro rfl (And.intro rfl trivial))) H
set_option maxRecDepth 20000 in
theorem t_B_breaking {l : Launch} {h : Nat} (mi : TMi) (ml : TMl) (z : Nat) {Q : Int32 → TMi → TMl → Nat → Prop} (H : Ev l (h + 1) m_B_breaking 2 ([.ref 1, .int 0, .retAddr 0], [], st mi ml z) (qI Q)) : CI l (h + 1) m_B_breaking [.ref 1] mi ml z Q := by
  show Ev l (h + 1) m_B_breaking 0 ([.ref 1, .retAddr 0, .retAddr 0], [], st mi ml z) (qI Q)
  refine ev_iconst (v := 0) rfl (a_dec_at dc_B_breaking 0 rfl) ?_
  refine ev_istore_n (i := 1) rfl (by decide) rfl (a_dec_at dc_B_breaking 1 rfl) ?_
  exact Ev.drop (L' := [.ref 1, .int 0, .retAddr 0]) (And.intro rfl (And.intro rfl trivial)) H
set_option maxRecDepth 20000 in
theorem t_B_breaking_2 {l : Launch} {h : Nat} (mi : TMi) (ml : TMl) (z : Nat) (v1 : Int32) {Q : Int32 → TMi → TMl → Nat → Prop} (H : (((mi 18 0) ≤ v1 → Q (-1) mi ml z) ∧ (¬ (mi 18 0) ≤ v1 → CI l h m_Sc_breakersOf [.ref 17, .ref 27, .int v1] mi ml z (fun x2 mi2 ml2 z2 => ((x2 = 0 → Ev l (h + 1) m_B_breaking 2 ([.ref 1, .int (v1 + 1), .retAddr 0], [], st mi2 ml2 z2) (qI Q)) ∧ (¬ x2 = 0 → CI l h m_JI_numberOfTrailingZeros [.int x2] mi2 ml2 z2 (fun x4 mi4 ml4 z4 => Q ((10 * v1) + x4) mi4 ml4 z4))))))) : Ev l (h + 1) m_B_breaking 2 ([.ref 1, .int v1, .retAddr 0], [], st mi ml z) (qI Q) := by
  refine ev_iload_n (i := 1) rfl rfl (a_dec_at dc_B_breaking 2 rfl) ?_
  refine ev_aload_n (i := 0) rfl rfl (a_dec_at dc_B_breaking 3 rfl) ?_
  refine m_getR (y := 17) fl_B_54 rfl sh1 (mr_1_8 _) (by decide) (a_dec_at dc_B_breaking 4 rfl) ?_
  refine m_getR (y := 18) fl_B_58 rfl sh17 (mr_17_0 _) (by decide) (a_dec_at dc_B_breaking 5 rfl) ?_
  refine m_getI fl_B_292 rfl sh18 (a_dec_at dc_B_breaking 6 rfl) ?_
  refine ev_icmp_ge (tgt := 52) (a_dec_at dc_B_breaking 7 rfl) (by decide) (fun b1 => ?_) (fun b1 => ?_)
  · have H := H.1 b1
    refine ev_iconst (v := (-1)) rfl (a_dec_at dc_B_breaking 27 rfl) ?_
    exact m_retI (a_dec_at dc_B_breaking 28 rfl) rfl rfl H
  · have H := H.2 b1
    refine ev_aload_n (i := 0) rfl rfl (a_dec_at dc_B_breaking 8 rfl) ?_
    refine m_getR (y := 17) fl_B_54 rfl sh1 (mr_1_8 _) (by decide) (a_dec_at dc_B_breaking 9 rfl) ?_
    refine ev_aload_n (i := 0) rfl rfl (a_dec_at dc_B_breaking 10 rfl) ?_
    refine m_getR (y := 17) fl_B_54 rfl sh1 (mr_1_8 _) (by decide) (a_dec_at dc_B_breaking 11 rfl) ?_
    refine m_getR (y := 27) fl_B_182 rfl sh17 (mr_17_2 _) (by decide) (a_dec_at dc_B_breaking 12 rfl) ?_
    refine ev_iload_n (i := 1) rfl rfl (a_dec_at dc_B_breaking 13 rfl) ?_
    refine cV2I cs_B_295 sh17 rfl (Nat.le_of_ble_eq_true rfl) (Nat.le_of_ble_eq_true rfl) (a_dec_at dc_B_breaking 14 rfl) ?_
    refine CI.mono (fun x2 mi2 ml2 z2 H => ?_) H
    refine ev_istore_n (i := 2) rfl (by decide) rfl (a_dec_at dc_B_breaking 15 rfl) ?_
    refine ev_iload_n (i := 2) rfl rfl (a_dec_at dc_B_breaking 16 rfl) ?_
    refine ev_if_eq (tgt := 46) (a_dec_at dc_B_breaking 17 rfl) (by decide) (fun b3 => ?_) (fun b3 => ?_)
    · have H := H.1 b3
      refine ev_iinc (v := 1) rfl rfl (by decide) rfl (a_dec_at dc_B_breaking 25 rfl) ?_
      refine ev_goto (tgt := 2) (a_dec_at dc_B_breaking 26 rfl) (by decide) ?_
      exact Ev.drop (L' := [.ref 1, .int (v1 + 1), .retAddr 0]) (And.intro rfl (And.intro rfl trivial)) H
    · have H := H.2 b3
      refine ev_bipush (v := 10) rfl (a_dec_at dc_B_breaking 18 rfl) ?_
      refine ev_iload_n (i := 1) rfl rfl (a_dec_at dc_B_breaking 19 rfl) ?_
      refine ev_imul (a_dec_at dc_B_breaking 20 rfl) ?_
      refine ev_iload_n (i := 2) rfl rfl (a_dec_at dc_B_breaking 21 rfl) ?_
      refine cS1I cs_B_303 rfl (Nat.le_of_ble_eq_true rfl) (Nat.le_of_ble_eq_true rfl) (a_dec_at dc_B_breaking 22 rfl) ?_
      refine CI.mono (fun x4 mi4 ml4 z4 H => ?_) H
      refine ev_iadd (a_dec_at dc_B_breaking 23 rfl) ?_
      exact m_retI (a_dec_at dc_B_breaking 24 rfl) rfl rfl H
set_option maxRecDepth 20000 in
theorem t_B_forBecks {l : Launch} {h : Nat} (mi : TMi) (ml : TMl) (z : Nat) (a1 : Int32) {Q : Int32 → TMi → TMl → Nat → Prop} (H : CI l h m_La_hasBeck [.ref 18, .int a1] mi ml z (fun x1 mi1 ml1 z1 => ((¬ x1 = 0 → CI l h m_La_allBecks [.ref 18] mi1 ml1 z1 (fun x3 mi3 ml3 z3 => CV l h m_Ma_bestForBecks [.ref 55, .ref 17, .int x3] mi3 ml3 z3 (fun mi4 ml4 z4 => (vp_in a1 6) ∧ Q (mi4 56 a1.toNatClampNeg) mi4 ml4 z4))) ∧ (x1 = 0 → Q (-2) mi1 ml1 z1)))) : CI l (h + 1) m_B_forBecks [.ref 1, .int a1] mi ml z Q := by
  show Ev l (h + 1) m_B_forBecks 0 ([.ref 1, .int a1], [], st mi ml z) (qI Q)
  refine ev_aload_n (i := 0) rfl rfl (a_dec_at dc_B_forBecks 0 rfl) ?_
  refine m_getR (y := 17) fl_B_54 rfl sh1 (mr_1_8 _) (by decide) (a_dec_at dc_B_forBecks 1 rfl) ?_
  refine m_getR (y := 18) fl_B_58 rfl sh17 (mr_17_0 _) (by decide) (a_dec_at dc_B_forBecks 2 rfl) ?_
  refine ev_iload_n (i := 1) rfl rfl (a_dec_at dc_B_forBecks 3 rfl) ?_
  refine cV1I cs_B_149 sh18 rfl (Nat.le_of_ble_eq_true rfl) (Nat.le_of_ble_eq_true rfl) (a_dec_at dc_B_forBecks 4 rfl) ?_
  refine CI.mono (fun x1 mi1 ml1 z1 H => ?_) H
  refine ev_if_ne (tgt := 17) (a_dec_at dc_B_forBecks 5 rfl) (by decide) (fun b2 => ?_) (fun b2 => ?_)
  · have H := H.1 b2
    refine ev_aload_n (i := 0) rfl rfl (a_dec_at dc_B_forBecks 8 rfl) ?_
    refine m_getR (y := 55) fl_B_82 rfl sh1 (mr_1_13 _) (by decide) (a_dec_at dc_B_forBecks 9 rfl) ?_
    refine ev_aload_n (i := 0) rfl rfl (a_dec_at dc_B_forBecks 10 rfl) ?_
    refine m_getR (y := 17) fl_B_54 rfl sh1 (mr_1_8 _) (by decide) (a_dec_at dc_B_forBecks 11 rfl) ?_
    refine ev_aload_n (i := 0) rfl rfl (a_dec_at dc_B_forBecks 12 rfl) ?_
    refine m_getR (y := 17) fl_B_54 rfl sh1 (mr_1_8 _) (by decide) (a_dec_at dc_B_forBecks 13 rfl) ?_
    refine m_getR (y := 18) fl_B_58 rfl sh17 (mr_17_0 _) (by decide) (a_dec_at dc_B_forBecks 14 rfl) ?_
    refine cV0I cs_B_306 sh18 rfl (Nat.le_of_ble_eq_true rfl) (Nat.le_of_ble_eq_true rfl) (a_dec_at dc_B_forBecks 15 rfl) ?_
    refine CI.mono (fun x3 mi3 ml3 z3 H => ?_) H
    refine cV2V cs_B_309 sh55 rfl (Nat.le_of_ble_eq_true rfl) (Nat.le_of_ble_eq_true rfl) (a_dec_at dc_B_forBecks 16 rfl) ?_
    refine CV.mono (fun mi4 ml4 z4 H => ?_) H
    refine ev_aload_n (i := 0) rfl rfl (a_dec_at dc_B_forBecks 17 rfl) ?_
    refine m_getR (y := 55) fl_B_82 rfl sh1 (mr_1_13 _) (by decide) (a_dec_at dc_B_forBecks 18 rfl) ?_
    refine m_getR (y := 56) fl_B_313 rfl sh55 (mr_55_0 _) (by decide) (a_dec_at dc_B_forBecks 19 rfl) ?_
    refine ev_iload_n (i := 1) rfl rfl (a_dec_at dc_B_forBecks 20 rfl) ?_
    obtain ⟨c5, H⟩ := H
    refine w_iald (k := a1.toNatClampNeg) sh56 c5 rfl (a_dec_at dc_B_forBecks 21 rfl) ?_
    exact m_retI (a_dec_at dc_B_forBecks 22 rfl) rfl rfl H
  · have H := H.2 b2
    refine ev_bipush (v := (-2)) rfl (a_dec_at dc_B_forBecks 6 rfl) ?_
    exact m_retI (a_dec_at dc_B_forBecks 7 rfl) rfl rfl H
set_option maxRecDepth 20000 in
theorem t_B_forRivers {l : Launch} {h : Nat} (mi : TMi) (ml : TMl) (z : Nat) (a1 : Int32) {Q : Int32 → TMi → TMl → Nat → Prop} (H : CI l h m_La_hasBeck [.ref 18, .int a1] mi ml z (fun x1 mi1 ml1 z1 => ((¬ x1 = 0 → CV l h m_Ma_bestForRivers [.ref 55, .ref 17] mi1 ml1 z1 (fun mi3 ml3 z3 => (vp_in a1 6) ∧ Q (mi3 56 a1.toNatClampNeg) mi3 ml3 z3)) ∧ (x1 = 0 → Q (-2) mi1 ml1 z1)))) : CI l (h + 1) m_B_forRivers [.ref 1, .int a1] mi ml z Q := by
  show Ev l (h + 1) m_B_forRivers 0 ([.ref 1, .int a1], [], st mi ml z) (qI Q)
  refine ev_aload_n (i := 0) rfl rfl (a_dec_at dc_B_forRivers 0 rfl) ?_
  refine m_getR (y := 17) fl_B_54 rfl sh1 (mr_1_8 _) (by decide) (a_dec_at dc_B_forRivers 1 rfl) ?_
  refine m_getR (y := 18) fl_B_58 rfl sh17 (mr_17_0 _) (by decide) (a_dec_at dc_B_forRivers 2 rfl) ?_
  refine ev_iload_n (i := 1) rfl rfl (a_dec_at dc_B_forRivers 3 rfl) ?_
  refine cV1I cs_B_149 sh18 rfl (Nat.le_of_ble_eq_true rfl) (Nat.le_of_ble_eq_true rfl) (a_dec_at dc_B_forRivers 4 rfl) ?_
  refine CI.mono (fun x1 mi1 ml1 z1 H => ?_) H
  refine ev_if_ne (tgt := 17) (a_dec_at dc_B_forRivers 5 rfl) (by decide) (fun b2 => ?_) (fun b2 => ?_)
  · have H := H.1 b2
    refine ev_aload_n (i := 0) rfl rfl (a_dec_at dc_B_forRivers 8 rfl) ?_
    refine m_getR (y := 55) fl_B_82 rfl sh1 (mr_1_13 _) (by decide) (a_dec_at dc_B_forRivers 9 rfl) ?_
    refine ev_aload_n (i := 0) rfl rfl (a_dec_at dc_B_forRivers 10 rfl) ?_
    refine m_getR (y := 17) fl_B_54 rfl sh1 (mr_1_8 _) (by decide) (a_dec_at dc_B_forRivers 11 rfl) ?_
    refine cV1V cs_B_316 sh55 rfl (Nat.le_of_ble_eq_true rfl) (Nat.le_of_ble_eq_true rfl) (a_dec_at dc_B_forRivers 12 rfl) ?_
    refine CV.mono (fun mi3 ml3 z3 H => ?_) H
    refine ev_aload_n (i := 0) rfl rfl (a_dec_at dc_B_forRivers 13 rfl) ?_
    refine m_getR (y := 55) fl_B_82 rfl sh1 (mr_1_13 _) (by decide) (a_dec_at dc_B_forRivers 14 rfl) ?_
    refine m_getR (y := 56) fl_B_313 rfl sh55 (mr_55_0 _) (by decide) (a_dec_at dc_B_forRivers 15 rfl) ?_
    refine ev_iload_n (i := 1) rfl rfl (a_dec_at dc_B_forRivers 16 rfl) ?_
    obtain ⟨c4, H⟩ := H
    refine w_iald (k := a1.toNatClampNeg) sh56 c4 rfl (a_dec_at dc_B_forRivers 17 rfl) ?_
    exact m_retI (a_dec_at dc_B_forRivers 18 rfl) rfl rfl H
  · have H := H.2 b2
    refine ev_bipush (v := (-2)) rfl (a_dec_at dc_B_forRivers 6 rfl) ?_
    exact m_retI (a_dec_at dc_B_forRivers 7 rfl) rfl rfl H
set_option maxRecDepth 20000 in
theorem t_B_choices {l : Launch} {h : Nat} (mi : TMi) (ml : TMl) (z : Nat) {Q : Int32 → TMi → TMl → Nat → Prop} (H : CV l h m_Sv_goThrough [.ref 60, .ref 17, .int (-1)] mi ml z (fun mi1 ml1 z1 => Q (mi1 60 9) mi1 ml1 z1)) : CI l (h + 1) m_B_choices [.ref 1] mi ml z Q := by
  show Ev l (h + 1) m_B_choices 0 ([.ref 1], [], st mi ml z) (qI Q)
  refine ev_aload_n (i := 0) rfl rfl (a_dec_at dc_B_choices 0 rfl) ?_
  refine m_getR (y := 60) fl_B_91 rfl sh1 (mr_1_14 _) (by decide) (a_dec_at dc_B_choices 1 rfl) ?_
  refine ev_aload_n (i := 0) rfl rfl (a_dec_at dc_B_choices 2 rfl) ?_
  refine m_getR (y := 17) fl_B_54 rfl sh1 (mr_1_8 _) (by decide) (a_dec_at dc_B_choices 3 rfl) ?_
  refine ev_iconst (v := (-1)) rfl (a_dec_at dc_B_choices 4 rfl) ?_
  refine cV2V cs_B_319 sh60 rfl (Nat.le_of_ble_eq_true rfl) (Nat.le_of_ble_eq_true rfl) (a_dec_at dc_B_choices 5 rfl) ?_
  refine CV.mono (fun mi1 ml1 z1 H => ?_) H
  refine ev_aload_n (i := 0) rfl rfl (a_dec_at dc_B_choices 6 rfl) ?_
  refine m_getR (y := 60) fl_B_91 rfl sh1 (mr_1_14 _) (by decide) (a_dec_at dc_B_choices 7 rfl) ?_
  refine m_getI fl_B_322 rfl sh60 (a_dec_at dc_B_choices 8 rfl) ?_
  exact m_retI (a_dec_at dc_B_choices 9 rfl) rfl rfl H
set_option maxRecDepth 20000 in
theorem t_B_choice {l : Launch} {h : Nat} (mi : TMi) (ml : TMl) (z : Nat) (a1 : Int32) {Q : Int32 → TMi → TMl → Nat → Prop} (H : ((0 ≤ a1 → CV l h m_Sv_goThrough [.ref 60, .ref 17, .int a1] mi ml z (fun mi2 ml2 z2 => Q (mi2 60 8) mi2 ml2 z2)) ∧ (¬ 0 ≤ a1 → Q (-3) mi ml z))) : CI l (h + 1) m_B_choice [.ref 1, .int a1] mi ml z Q := by
  show Ev l (h + 1) m_B_choice 0 ([.ref 1, .int a1], [], st mi ml z) (qI Q)
  refine ev_iload_n (i := 1) rfl rfl (a_dec_at dc_B_choice 0 rfl) ?_
  refine ev_if_ge (tgt := 7) (a_dec_at dc_B_choice 1 rfl) (by decide) (fun b1 => ?_) (fun b1 => ?_)
  · have H := H.1 b1
    refine ev_aload_n (i := 0) rfl rfl (a_dec_at dc_B_choice 4 rfl) ?_
    refine m_getR (y := 60) fl_B_91 rfl sh1 (mr_1_14 _) (by decide) (a_dec_at dc_B_choice 5 rfl) ?_
    refine ev_aload_n (i := 0) rfl rfl (a_dec_at dc_B_choice 6 rfl) ?_
    refine m_getR (y := 17) fl_B_54 rfl sh1 (mr_1_8 _) (by decide) (a_dec_at dc_B_choice 7 rfl) ?_
    refine ev_iload_n (i := 1) rfl rfl (a_dec_at dc_B_choice 8 rfl) ?_
    refine cV2V cs_B_319 sh60 rfl (Nat.le_of_ble_eq_true rfl) (Nat.le_of_ble_eq_true rfl) (a_dec_at dc_B_choice 9 rfl) ?_
    refine CV.mono (fun mi2 ml2 z2 H => ?_) H
    refine ev_aload_n (i := 0) rfl rfl (a_dec_at dc_B_choice 10 rfl) ?_
    refine m_getR (y := 60) fl_B_91 rfl sh1 (mr_1_14 _) (by decide) (a_dec_at dc_B_choice 11 rfl) ?_
    refine m_getI fl_B_325 rfl sh60 (a_dec_at dc_B_choice 12 rfl) ?_
    exact m_retI (a_dec_at dc_B_choice 13 rfl) rfl rfl H
  · have H := H.2 b1
    refine ev_bipush (v := (-3)) rfl (a_dec_at dc_B_choice 2 rfl) ?_
    exact m_retI (a_dec_at dc_B_choice 3 rfl) rfl rfl H
set_option maxRecDepth 20000 in
theorem t_B_can {l : Launch} {h : Nat} (mi : TMi) (ml : TMl) (z : Nat) (a1 : Int32) {Q : Int32 → TMi → TMl → Nat → Prop} (H : CI l h m_La_hasBeck [.ref 18, .int a1] mi ml z (fun x1 mi1 ml1 z1 => ((¬ x1 = 0 → CV l h m_Sv_goThrough [.ref 60, .ref 17, .int (-1)] mi1 ml1 z1 (fun mi3 ml3 z3 => (vp_in a1 6) ∧ Q (mi3 66 a1.toNatClampNeg) mi3 ml3 z3)) ∧ (x1 = 0 → Q (-2) mi1 ml1 z1)))) : CI l (h + 1) m_B_can [.ref 1, .int a1] mi ml z Q := by
  show Ev l (h + 1) m_B_can 0 ([.ref 1, .int a1], [], st mi ml z) (qI Q)
  refine ev_aload_n (i := 0) rfl rfl (a_dec_at dc_B_can 0 rfl) ?_
  refine m_getR (y := 17) fl_B_54 rfl sh1 (mr_1_8 _) (by decide) (a_dec_at dc_B_can 1 rfl) ?_
  refine m_getR (y := 18) fl_B_58 rfl sh17 (mr_17_0 _) (by decide) (a_dec_at dc_B_can 2 rfl) ?_
  refine ev_iload_n (i := 1) rfl rfl (a_dec_at dc_B_can 3 rfl) ?_
  refine cV1I cs_B_149 sh18 rfl (Nat.le_of_ble_eq_true rfl) (Nat.le_of_ble_eq_true rfl) (a_dec_at dc_B_can 4 rfl) ?_
  refine CI.mono (fun x1 mi1 ml1 z1 H => ?_) H
  refine ev_if_ne (tgt := 17) (a_dec_at dc_B_can 5 rfl) (by decide) (fun b2 => ?_) (fun b2 => ?_)
  · have H := H.1 b2
    refine ev_aload_n (i := 0) rfl rfl (a_dec_at dc_B_can 8 rfl) ?_
    refine m_getR (y := 60) fl_B_91 rfl sh1 (mr_1_14 _) (by decide) (a_dec_at dc_B_can 9 rfl) ?_
    refine ev_aload_n (i := 0) rfl rfl (a_dec_at dc_B_can 10 rfl) ?_
    refine m_getR (y := 17) fl_B_54 rfl sh1 (mr_1_8 _) (by decide) (a_dec_at dc_B_can 11 rfl) ?_
    refine ev_iconst (v := (-1)) rfl (a_dec_at dc_B_can 12 rfl) ?_
    refine cV2V cs_B_319 sh60 rfl (Nat.le_of_ble_eq_true rfl) (Nat.le_of_ble_eq_true rfl) (a_dec_at dc_B_can 13 rfl) ?_
    refine CV.mono (fun mi3 ml3 z3 H => ?_) H
    refine ev_aload_n (i := 0) rfl rfl (a_dec_at dc_B_can 14 rfl) ?_
    refine m_getR (y := 60) fl_B_91 rfl sh1 (mr_1_14 _) (by decide) (a_dec_at dc_B_can 15 rfl) ?_
    refine m_getR (y := 66) fl_B_328 rfl sh60 (mr_60_12 _) (by decide) (a_dec_at dc_B_can 16 rfl) ?_
    refine ev_iload_n (i := 1) rfl rfl (a_dec_at dc_B_can 17 rfl) ?_
    obtain ⟨c4, H⟩ := H
    refine w_iald (k := a1.toNatClampNeg) sh66 c4 rfl (a_dec_at dc_B_can 18 rfl) ?_
    exact m_retI (a_dec_at dc_B_can 19 rfl) rfl rfl H
  · have H := H.2 b2
    refine ev_bipush (v := (-2)) rfl (a_dec_at dc_B_can 6 rfl) ?_
    exact m_retI (a_dec_at dc_B_can 7 rfl) rfl rfl H
set_option maxRecDepth 20000 in
theorem t_B_sure {l : Launch} {h : Nat} (mi : TMi) (ml : TMl) (z : Nat) {Q : Int32 → TMi → TMl → Nat → Prop} (H : CV l h m_Sv_bound [.ref 60, .ref 17] mi ml z (fun mi1 ml1 z1 => Ev l (h + 1) m_B_sure 15 ([.ref 1, .int 0, .int 0], [], st mi1 ml1 z1) (qI Q))) : CI l (h + 1) m_B_sure [.ref 1] mi ml z Q := by
  show Ev l (h + 1) m_B_sure 0 ([.ref 1, .retAddr 0, .retAddr 0], [], st mi ml z) (qI Q)
  refine ev_aload_n (i := 0) rfl rfl (a_dec_at dc_B_sure 0 rfl) ?_
  refine m_getR (y := 60) fl_B_91 rfl sh1 (mr_1_14 _) (by decide) (a_dec_at dc_B_sure 1 rfl) ?_
  refine ev_aload_n (i := 0) rfl rfl (a_dec_at dc_B_sure 2 rfl) ?_
  refine m_getR (y := 17) fl_B_54 rfl sh1 (mr_1_8 _) (by decide) (a_dec_at dc_B_sure 3 rfl) ?_
  refine cV1V cs_B_331 sh60 rfl (Nat.le_of_ble_eq_true rfl) (Nat.le_of_ble_eq_true rfl) (a_dec_at dc_B_sure 4 rfl) ?_
  refine CV.mono (fun mi1 ml1 z1 H => ?_) H
  refine ev_iconst (v := 0) rfl (a_dec_at dc_B_sure 5 rfl) ?_
  refine ev_istore_n (i := 1) rfl (by decide) rfl (a_dec_at dc_B_sure 6 rfl) ?_
  refine ev_iconst (v := 0) rfl (a_dec_at dc_B_sure 7 rfl) ?_
  refine ev_istore_n (i := 2) rfl (by decide) rfl (a_dec_at dc_B_sure 8 rfl) ?_
  exact Ev.drop (L' := [.ref 1, .int 0, .int 0]) (And.intro rfl (And.intro rfl (And.intro rfl trivial))) H
set_option maxRecDepth 20000 in
theorem t_B_sure_15 {l : Launch} {h : Nat} (mi : TMi) (ml : TMl) (z : Nat) (v1 : Int32) (v2 : Int32) {Q : Int32 → TMi → TMl → Nat → Prop} (H : (((mi 18 0) ≤ v2 → Q v1 mi ml z) ∧ (¬ (mi 18 0) ≤ v2 → (vp_in v2 6) ∧ (vp_in v2 6) ∧ ((¬ (mi 61 v2.toNatClampNeg) = (mi 62 v2.toNatClampNeg) → Ev l (h + 1) m_B_sure 15 ([.ref 1, .int v1, .int (v2 + 1)], [], st mi ml z) (qI Q)) ∧ ((mi 61 v2.toNatClampNeg) = (mi 62 v2.toNatClampNeg) → Ev l (h + 1) m_B_sure 15 ([.ref 1, .int (v1 ||| ((1 : Int32) <<< (v2 &&& 31))), .int (v2 + 1)], [], st mi ml z) (qI Q)))))) : Ev l (h + 1) m_B_sure 15 ([.ref 1, .int v1, .int v2], [], st mi ml z) (qI Q) := by
  refine ev_iload_n (i := 2) rfl rfl (a_dec_at dc_B_sure 9 rfl) ?_
  refine ev_aload_n (i := 0) rfl rfl (a_dec_at dc_B_sure 10 rfl) ?_
  refine m_getR (y := 17) fl_B_54 rfl sh1 (mr_1_8 _) (by decide) (a_dec_at dc_B_sure 11 rfl) ?_
  refine m_getR (y := 18) fl_B_58 rfl sh17 (mr_17_0 _) (by decide) (a_dec_at dc_B_sure 12 rfl) ?_
  refine m_getI fl_B_292 rfl sh18 (a_dec_at dc_B_sure 13 rfl) ?_
  refine ev_icmp_ge (tgt := 62) (a_dec_at dc_B_sure 14 rfl) (by decide) (fun b1 => ?_) (fun b1 => ?_)
  · have H := H.1 b1
    refine ev_iload_n (i := 1) rfl rfl (a_dec_at dc_B_sure 34 rfl) ?_
    exact m_retI (a_dec_at dc_B_sure 35 rfl) rfl rfl H
  · have H := H.2 b1
    refine ev_aload_n (i := 0) rfl rfl (a_dec_at dc_B_sure 15 rfl) ?_
    refine m_getR (y := 60) fl_B_91 rfl sh1 (mr_1_14 _) (by decide) (a_dec_at dc_B_sure 16 rfl) ?_
    refine m_getR (y := 61) fl_B_334 rfl sh60 (mr_60_2 _) (by decide) (a_dec_at dc_B_sure 17 rfl) ?_
    refine ev_iload_n (i := 2) rfl rfl (a_dec_at dc_B_sure 18 rfl) ?_
    obtain ⟨c2, H⟩ := H
    refine w_iald (k := v2.toNatClampNeg) sh61 c2 rfl (a_dec_at dc_B_sure 19 rfl) ?_
    refine ev_aload_n (i := 0) rfl rfl (a_dec_at dc_B_sure 20 rfl) ?_
    refine m_getR (y := 60) fl_B_91 rfl sh1 (mr_1_14 _) (by decide) (a_dec_at dc_B_sure 21 rfl) ?_
    refine m_getR (y := 62) fl_B_337 rfl sh60 (mr_60_3 _) (by decide) (a_dec_at dc_B_sure 22 rfl) ?_
    refine ev_iload_n (i := 2) rfl rfl (a_dec_at dc_B_sure 23 rfl) ?_
    obtain ⟨c3, H⟩ := H
    refine w_iald (k := v2.toNatClampNeg) sh62 c3 rfl (a_dec_at dc_B_sure 24 rfl) ?_
    refine ev_icmp_ne (tgt := 56) (a_dec_at dc_B_sure 25 rfl) (by decide) (fun b4 => ?_) (fun b4 => ?_)
    · have H := H.1 b4
      refine ev_iinc (v := 1) rfl rfl (by decide) rfl (a_dec_at dc_B_sure 32 rfl) ?_
      refine ev_goto (tgt := 15) (a_dec_at dc_B_sure 33 rfl) (by decide) ?_
      exact Ev.drop (L' := [.ref 1, .int v1, .int (v2 + 1)]) (And.intro rfl (And.intro rfl (And.intro rfl trivial))) H
    · have H := H.2 b4
      refine ev_iload_n (i := 1) rfl rfl (a_dec_at dc_B_sure 26 rfl) ?_
      refine ev_iconst (v := 1) rfl (a_dec_at dc_B_sure 27 rfl) ?_
      refine ev_iload_n (i := 2) rfl rfl (a_dec_at dc_B_sure 28 rfl) ?_
      refine ev_ishl (a_dec_at dc_B_sure 29 rfl) ?_
      refine ev_ior (a_dec_at dc_B_sure 30 rfl) ?_
      refine ev_istore_n (i := 1) rfl (by decide) rfl (a_dec_at dc_B_sure 31 rfl) ?_
      refine ev_iinc (v := 1) rfl rfl (by decide) rfl (a_dec_at dc_B_sure 32 rfl) ?_
      refine ev_goto (tgt := 15) (a_dec_at dc_B_sure 33 rfl) (by decide) ?_
      exact Ev.drop (L' := [.ref 1, .int (v1 ||| ((1 : Int32) <<< (v2 &&& 31))), .int (v2 + 1)]) (And.intro rfl (And.intro rfl (And.intro rfl trivial))) H
set_option maxRecDepth 20000 in
theorem t_B_fairest {l : Launch} {h : Nat} (mi : TMi) (ml : TMl) (z : Nat) {Q : Int32 → TMi → TMl → Nat → Prop} (H : CV l h m_Sv_goThrough [.ref 60, .ref 17, .int (-1)] mi ml z (fun mi1 ml1 z1 => Q (mi1 60 10) mi1 ml1 z1)) : CI l (h + 1) m_B_fairest [.ref 1] mi ml z Q := by
  show Ev l (h + 1) m_B_fairest 0 ([.ref 1], [], st mi ml z) (qI Q)
  refine ev_aload_n (i := 0) rfl rfl (a_dec_at dc_B_fairest 0 rfl) ?_
  refine m_getR (y := 60) fl_B_91 rfl sh1 (mr_1_14 _) (by decide) (a_dec_at dc_B_fairest 1 rfl) ?_
  refine ev_aload_n (i := 0) rfl rfl (a_dec_at dc_B_fairest 2 rfl) ?_
  refine m_getR (y := 17) fl_B_54 rfl sh1 (mr_1_8 _) (by decide) (a_dec_at dc_B_fairest 3 rfl) ?_
  refine ev_iconst (v := (-1)) rfl (a_dec_at dc_B_fairest 4 rfl) ?_
  refine cV2V cs_B_319 sh60 rfl (Nat.le_of_ble_eq_true rfl) (Nat.le_of_ble_eq_true rfl) (a_dec_at dc_B_fairest 5 rfl) ?_
  refine CV.mono (fun mi1 ml1 z1 H => ?_) H
  refine ev_aload_n (i := 0) rfl rfl (a_dec_at dc_B_fairest 6 rfl) ?_
  refine m_getR (y := 60) fl_B_91 rfl sh1 (mr_1_14 _) (by decide) (a_dec_at dc_B_fairest 7 rfl) ?_
  refine m_getI fl_B_340 rfl sh60 (a_dec_at dc_B_fairest 8 rfl) ?_
  exact m_retI (a_dec_at dc_B_fairest 9 rfl) rfl rfl H
set_option maxRecDepth 20000 in
theorem t_B_fullest {l : Launch} {h : Nat} (mi : TMi) (ml : TMl) (z : Nat) {Q : Int32 → TMi → TMl → Nat → Prop} (H : CI l h m_Sv_fullestNumber [.ref 60, .ref 17] mi ml z (fun x1 mi1 ml1 z1 => Q x1 mi1 ml1 z1)) : CI l (h + 1) m_B_fullest [.ref 1] mi ml z Q := by
  show Ev l (h + 1) m_B_fullest 0 ([.ref 1], [], st mi ml z) (qI Q)
  refine ev_aload_n (i := 0) rfl rfl (a_dec_at dc_B_fullest 0 rfl) ?_
  refine m_getR (y := 60) fl_B_91 rfl sh1 (mr_1_14 _) (by decide) (a_dec_at dc_B_fullest 1 rfl) ?_
  refine ev_aload_n (i := 0) rfl rfl (a_dec_at dc_B_fullest 2 rfl) ?_
  refine m_getR (y := 17) fl_B_54 rfl sh1 (mr_1_8 _) (by decide) (a_dec_at dc_B_fullest 3 rfl) ?_
  refine cV1I cs_B_343 sh60 rfl (Nat.le_of_ble_eq_true rfl) (Nat.le_of_ble_eq_true rfl) (a_dec_at dc_B_fullest 4 rfl) ?_
  refine CI.mono (fun x1 mi1 ml1 z1 H => ?_) H
  exact m_retI (a_dec_at dc_B_fullest 5 rfl) rfl rfl H
set_option maxRecDepth 20000 in
theorem t_B_gains {l : Launch} {h : Nat} (mi : TMi) (ml : TMl) (z : Nat) (a1 : Int32) {Q : Int32 → TMi → TMl → Nat → Prop} (H : CI l h m_La_hasBeck [.ref 18, .int a1] mi ml z (fun x1 mi1 ml1 z1 => ((x1 = 0 → Q (-2) mi1 ml1 z1) ∧ (¬ x1 = 0 → CI l h m_Su_gainByLying [.ref 75, .ref 17, .int a1] mi1 ml1 z1 (fun x3 mi3 ml3 z3 => Q x3 mi3 ml3 z3))))) : CI l (h + 1) m_B_gains [.ref 1, .int a1] mi ml z Q := by
  show Ev l (h + 1) m_B_gains 0 ([.ref 1, .int a1], [], st mi ml z) (qI Q)
  refine ev_aload_n (i := 0) rfl rfl (a_dec_at dc_B_gains 0 rfl) ?_
  refine m_getR (y := 17) fl_B_54 rfl sh1 (mr_1_8 _) (by decide) (a_dec_at dc_B_gains 1 rfl) ?_
  refine m_getR (y := 18) fl_B_58 rfl sh17 (mr_17_0 _) (by decide) (a_dec_at dc_B_gains 2 rfl) ?_
  refine ev_iload_n (i := 1) rfl rfl (a_dec_at dc_B_gains 3 rfl) ?_
  refine cV1I cs_B_149 sh18 rfl (Nat.le_of_ble_eq_true rfl) (Nat.le_of_ble_eq_true rfl) (a_dec_at dc_B_gains 4 rfl) ?_
  refine CI.mono (fun x1 mi1 ml1 z1 H => ?_) H
  refine ev_if_eq (tgt := 29) (a_dec_at dc_B_gains 5 rfl) (by decide) (fun b2 => ?_) (fun b2 => ?_)
  · have H := H.1 b2
    refine ev_bipush (v := (-2)) rfl (a_dec_at dc_B_gains 13 rfl) ?_
    exact m_retI (a_dec_at dc_B_gains 14 rfl) rfl rfl H
  · have H := H.2 b2
    refine ev_aload_n (i := 0) rfl rfl (a_dec_at dc_B_gains 6 rfl) ?_
    refine m_getR (y := 75) fl_B_107 rfl sh1 (mr_1_16 _) (by decide) (a_dec_at dc_B_gains 7 rfl) ?_
    refine ev_aload_n (i := 0) rfl rfl (a_dec_at dc_B_gains 8 rfl) ?_
    refine m_getR (y := 17) fl_B_54 rfl sh1 (mr_1_8 _) (by decide) (a_dec_at dc_B_gains 9 rfl) ?_
    refine ev_iload_n (i := 1) rfl rfl (a_dec_at dc_B_gains 10 rfl) ?_
    refine cV2I cs_B_347 sh75 rfl (Nat.le_of_ble_eq_true rfl) (Nat.le_of_ble_eq_true rfl) (a_dec_at dc_B_gains 11 rfl) ?_
    refine CI.mono (fun x3 mi3 ml3 z3 H => ?_) H
    refine ev_goto (tgt := 31) (a_dec_at dc_B_gains 12 rfl) (by decide) ?_
    exact m_retI (a_dec_at dc_B_gains 14 rfl) rfl rfl H
set_option maxRecDepth 20000 in
theorem t_B_lie {l : Launch} {h : Nat} (mi : TMi) (ml : TMl) (z : Nat) (a1 : Int32) {Q : Int32 → TMi → TMl → Nat → Prop} (H : CI l h m_La_hasBeck [.ref 18, .int a1] mi ml z (fun x1 mi1 ml1 z1 => ((¬ x1 = 0 → CI l h m_Su_gainByLying [.ref 75, .ref 17, .int a1] mi1 ml1 z1 (fun x3 mi3 ml3 z3 => ((¬ x3 = (-1) → Q (x3 + 1) mi3 ml3 z3) ∧ (x3 = (-1) → Q (-1) mi3 ml3 z3)))) ∧ (x1 = 0 → Q (-2) mi1 ml1 z1)))) : CI l (h + 1) m_B_lie [.ref 1, .int a1] mi ml z Q := by
  show Ev l (h + 1) m_B_lie 0 ([.ref 1, .int a1, .retAddr 0], [], st mi ml z) (qI Q)
  refine ev_aload_n (i := 0) rfl rfl (a_dec_at dc_B_lie 0 rfl) ?_
  refine m_getR (y := 17) fl_B_54 rfl sh1 (mr_1_8 _) (by decide) (a_dec_at dc_B_lie 1 rfl) ?_
  refine m_getR (y := 18) fl_B_58 rfl sh17 (mr_17_0 _) (by decide) (a_dec_at dc_B_lie 2 rfl) ?_
  refine ev_iload_n (i := 1) rfl rfl (a_dec_at dc_B_lie 3 rfl) ?_
  refine cV1I cs_B_149 sh18 rfl (Nat.le_of_ble_eq_true rfl) (Nat.le_of_ble_eq_true rfl) (a_dec_at dc_B_lie 4 rfl) ?_
  refine CI.mono (fun x1 mi1 ml1 z1 H => ?_) H
  refine ev_if_ne (tgt := 17) (a_dec_at dc_B_lie 5 rfl) (by decide) (fun b2 => ?_) (fun b2 => ?_)
  · have H := H.1 b2
    refine ev_aload_n (i := 0) rfl rfl (a_dec_at dc_B_lie 8 rfl) ?_
    refine m_getR (y := 75) fl_B_107 rfl sh1 (mr_1_16 _) (by decide) (a_dec_at dc_B_lie 9 rfl) ?_
    refine ev_aload_n (i := 0) rfl rfl (a_dec_at dc_B_lie 10 rfl) ?_
    refine m_getR (y := 17) fl_B_54 rfl sh1 (mr_1_8 _) (by decide) (a_dec_at dc_B_lie 11 rfl) ?_
    refine ev_iload_n (i := 1) rfl rfl (a_dec_at dc_B_lie 12 rfl) ?_
    refine cV2I cs_B_347 sh75 rfl (Nat.le_of_ble_eq_true rfl) (Nat.le_of_ble_eq_true rfl) (a_dec_at dc_B_lie 13 rfl) ?_
    refine CI.mono (fun x3 mi3 ml3 z3 H => ?_) H
    refine ev_istore_n (i := 2) rfl (by decide) rfl (a_dec_at dc_B_lie 14 rfl) ?_
    refine ev_iload_n (i := 2) rfl rfl (a_dec_at dc_B_lie 15 rfl) ?_
    refine ev_iconst (v := (-1)) rfl (a_dec_at dc_B_lie 16 rfl) ?_
    refine ev_icmp_ne (tgt := 39) (a_dec_at dc_B_lie 17 rfl) (by decide) (fun b4 => ?_) (fun b4 => ?_)
    · have H := H.1 b4
      refine ev_iload_n (i := 2) rfl rfl (a_dec_at dc_B_lie 20 rfl) ?_
      refine ev_iconst (v := 1) rfl (a_dec_at dc_B_lie 21 rfl) ?_
      refine ev_iadd (a_dec_at dc_B_lie 22 rfl) ?_
      exact m_retI (a_dec_at dc_B_lie 23 rfl) rfl rfl H
    · have H := H.2 b4
      refine ev_iconst (v := (-1)) rfl (a_dec_at dc_B_lie 18 rfl) ?_
      refine ev_goto (tgt := 42) (a_dec_at dc_B_lie 19 rfl) (by decide) ?_
      exact m_retI (a_dec_at dc_B_lie 23 rfl) rfl rfl H
  · have H := H.2 b2
    refine ev_bipush (v := (-2)) rfl (a_dec_at dc_B_lie 6 rfl) ?_
    exact m_retI (a_dec_at dc_B_lie 7 rfl) rfl rfl H
set_option maxRecDepth 20000 in
theorem t_B_liars {l : Launch} {h : Nat} (mi : TMi) (ml : TMl) (z : Nat) {Q : Int32 → TMi → TMl → Nat → Prop} (H : Ev l (h + 1) m_B_liars 4 ([.ref 1, .int 0, .int 0], [], st mi ml z) (qI Q)) : CI l (h + 1) m_B_liars [.ref 1] mi ml z Q := by
  show Ev l (h + 1) m_B_liars 0 ([.ref 1, .retAddr 0, .retAddr 0], [], st mi ml z) (qI Q)
  refine ev_iconst (v := 0) rfl (a_dec_at dc_B_liars 0 rfl) ?_
  refine ev_istore_n (i := 1) rfl (by decide) rfl (a_dec_at dc_B_liars 1 rfl) ?_
  refine ev_iconst (v := 0) rfl (a_dec_at dc_B_liars 2 rfl) ?_
  refine ev_istore_n (i := 2) rfl (by decide) rfl (a_dec_at dc_B_liars 3 rfl) ?_
  exact Ev.drop (L' := [.ref 1, .int 0, .int 0]) (And.intro rfl (And.intro rfl (And.intro rfl trivial))) H
set_option maxRecDepth 20000 in
theorem t_B_liars_4 {l : Launch} {h : Nat} (mi : TMi) (ml : TMl) (z : Nat) (v1 : Int32) (v2 : Int32) {Q : Int32 → TMi → TMl → Nat → Prop} (H : (((mi 18 0) ≤ v2 → Q v1 mi ml z) ∧ (¬ (mi 18 0) ≤ v2 → CI l h m_Su_gainByLying [.ref 75, .ref 17, .int v2] mi ml z (fun x2 mi2 ml2 z2 => ((x2 = (-1) → Ev l (h + 1) m_B_liars 4 ([.ref 1, .int v1, .int (v2 + 1)], [], st mi2 ml2 z2) (qI Q)) ∧ (¬ x2 = (-1) → Ev l (h + 1) m_B_liars 4 ([.ref 1, .int (v1 ||| ((1 : Int32) <<< (v2 &&& 31))), .int (v2 + 1)], [], st mi2 ml2 z2) (qI Q))))))) : Ev l (h + 1) m_B_liars 4 ([.ref 1, .int v1, .int v2], [], st mi ml z) (qI Q) := by
  refine ev_iload_n (i := 2) rfl rfl (a_dec_at dc_B_liars 4 rfl) ?_
  refine ev_aload_n (i := 0) rfl rfl (a_dec_at dc_B_liars 5 rfl) ?_
  refine m_getR (y := 17) fl_B_54 rfl sh1 (mr_1_8 _) (by decide) (a_dec_at dc_B_liars 6 rfl) ?_
  refine m_getR (y := 18) fl_B_58 rfl sh17 (mr_17_0 _) (by decide) (a_dec_at dc_B_liars 7 rfl) ?_
  refine m_getI fl_B_292 rfl sh18 (a_dec_at dc_B_liars 8 rfl) ?_
  refine ev_icmp_ge (tgt := 46) (a_dec_at dc_B_liars 9 rfl) (by decide) (fun b1 => ?_) (fun b1 => ?_)
  · have H := H.1 b1
    refine ev_iload_n (i := 1) rfl rfl (a_dec_at dc_B_liars 26 rfl) ?_
    exact m_retI (a_dec_at dc_B_liars 27 rfl) rfl rfl H
  · have H := H.2 b1
    refine ev_aload_n (i := 0) rfl rfl (a_dec_at dc_B_liars 10 rfl) ?_
    refine m_getR (y := 75) fl_B_107 rfl sh1 (mr_1_16 _) (by decide) (a_dec_at dc_B_liars 11 rfl) ?_
    refine ev_aload_n (i := 0) rfl rfl (a_dec_at dc_B_liars 12 rfl) ?_
    refine m_getR (y := 17) fl_B_54 rfl sh1 (mr_1_8 _) (by decide) (a_dec_at dc_B_liars 13 rfl) ?_
    refine ev_iload_n (i := 2) rfl rfl (a_dec_at dc_B_liars 14 rfl) ?_
    refine cV2I cs_B_347 sh75 rfl (Nat.le_of_ble_eq_true rfl) (Nat.le_of_ble_eq_true rfl) (a_dec_at dc_B_liars 15 rfl) ?_
    refine CI.mono (fun x2 mi2 ml2 z2 H => ?_) H
    refine ev_iconst (v := (-1)) rfl (a_dec_at dc_B_liars 16 rfl) ?_
    refine ev_icmp_eq (tgt := 40) (a_dec_at dc_B_liars 17 rfl) (by decide) (fun b3 => ?_) (fun b3 => ?_)
    · have H := H.1 b3
      refine ev_iinc (v := 1) rfl rfl (by decide) rfl (a_dec_at dc_B_liars 24 rfl) ?_
      refine ev_goto (tgt := 4) (a_dec_at dc_B_liars 25 rfl) (by decide) ?_
      exact Ev.drop (L' := [.ref 1, .int v1, .int (v2 + 1)]) (And.intro rfl (And.intro rfl (And.intro rfl trivial))) H
    · have H := H.2 b3
      refine ev_iload_n (i := 1) rfl rfl (a_dec_at dc_B_liars 18 rfl) ?_
      refine ev_iconst (v := 1) rfl (a_dec_at dc_B_liars 19 rfl) ?_
      refine ev_iload_n (i := 2) rfl rfl (a_dec_at dc_B_liars 20 rfl) ?_
      refine ev_ishl (a_dec_at dc_B_liars 21 rfl) ?_
      refine ev_ior (a_dec_at dc_B_liars 22 rfl) ?_
      refine ev_istore_n (i := 1) rfl (by decide) rfl (a_dec_at dc_B_liars 23 rfl) ?_
      refine ev_iinc (v := 1) rfl rfl (by decide) rfl (a_dec_at dc_B_liars 24 rfl) ?_
      refine ev_goto (tgt := 4) (a_dec_at dc_B_liars 25 rfl) (by decide) ?_
      exact Ev.drop (L' := [.ref 1, .int (v1 ||| ((1 : Int32) <<< (v2 &&& 31))), .int (v2 + 1)]) (And.intro rfl (And.intro rfl (And.intro rfl trivial))) H
set_option maxRecDepth 20000 in
theorem t_B_woos {l : Launch} {h : Nat} (mi : TMi) (ml : TMl) (z : Nat) (a1 : Int32) (a2 : Int32) (a3 : Int32) {Q : Int32 → TMi → TMl → Nat → Prop} (H : ((a3 = 0 → CI l h m_La_hasRiver [.ref 18, .int a1] mi ml z (fun x2 mi2 ml2 z2 => ((x2 = 0 → Q (-2) mi2 ml2 z2) ∧ (¬ x2 = 0 → ((a2 < 0 → Q (-3) mi2 ml2 z2) ∧ (¬ a2 < 0 → ((a2 ≤ 99 → CI l h m_Wo_least [.ref 68, .ref 17, .int a1, .int a2] mi2 ml2 z2 (fun x6 mi6 ml6 z6 => ((x6 = (-1) → Q x6 mi6 ml6 z6) ∧ (¬ x6 = (-1) → ((¬ a3 = 0 → (vp_in (a3 - 10) 6) ∧ Q (mi6 74 ((a3 - 10).toNatClampNeg)) mi6 ml6 z6) ∧ (a3 = 0 → Q x6 mi6 ml6 z6)))))) ∧ (¬ a2 ≤ 99 → Q (-3) mi2 ml2 z2)))))))) ∧ (¬ a3 = 0 → ((a3 < 10 → CI l h m_La_hasRiver [.ref 18, .int a1] mi ml z (fun x11 mi11 ml11 z11 => ((x11 = 0 → Q (-2) mi11 ml11 z11) ∧ (¬ x11 = 0 → Q (-2) mi11 ml11 z11)))) ∧ (¬ a3 < 10 → CI l h m_La_hasBeck [.ref 18, .int (a3 - 10)] mi ml z (fun x13 mi13 ml13 z13 => ((x13 = 0 → CI l h m_La_hasRiver [.ref 18, .int a1] mi13 ml13 z13 (fun x15 mi15 ml15 z15 => ((x15 = 0 → Q (-2) mi15 ml15 z15) ∧ (¬ x15 = 0 → Q (-2) mi15 ml15 z15)))) ∧ (¬ x13 = 0 → CI l h m_La_hasRiver [.ref 18, .int a1] mi13 ml13 z13 (fun x17 mi17 ml17 z17 => ((x17 = 0 → Q (-2) mi17 ml17 z17) ∧ (¬ x17 = 0 → ((a2 < 0 → Q (-3) mi17 ml17 z17) ∧ (¬ a2 < 0 → ((a2 ≤ 99 → CI l h m_Wo_least [.ref 68, .ref 17, .int a1, .int a2] mi17 ml17 z17 (fun x21 mi21 ml21 z21 => ((x21 = (-1) → Q x21 mi21 ml21 z21) ∧ (¬ x21 = (-1) → ((¬ a3 = 0 → (vp_in (a3 - 10) 6) ∧ Q (mi21 74 ((a3 - 10).toNatClampNeg)) mi21 ml21 z21) ∧ (a3 = 0 → Q x21 mi21 ml21 z21)))))) ∧ (¬ a2 ≤ 99 → Q (-3) mi17 ml17 z17))))))))))))))) : CI l (h + 1) m_B_woos [.ref 1, .int a1, .int a2, .int a3] mi ml z Q := by
  show Ev l (h + 1) m_B_woos 0 ([.ref 1, .int a1, .int a2, .int a3, .retAddr 0, .retAddr 0], [], st mi ml z) (qI Q)
  refine ev_iload_n (i := 3) rfl rfl (a_dec_at dc_B_woos 0 rfl) ?_
  refine ev_if_eq (tgt := 27) (a_dec_at dc_B_woos 1 rfl) (by decide) (fun b1 => ?_) (fun b1 => ?_)
  · have H := H.1 b1
    refine ev_iconst (v := 1) rfl (a_dec_at dc_B_woos 13 rfl) ?_
    refine ev_goto (tgt := 32) (a_dec_at dc_B_woos 14 rfl) (by decide) ?_
    refine ev_istore (by decide) rfl (a_dec_at dc_B_woos 16 rfl) ?_
    refine ev_aload_n (i := 0) rfl rfl (a_dec_at dc_B_woos 17 rfl) ?_
    refine m_getR (y := 17) fl_B_54 rfl sh1 (mr_1_8 _) (by decide) (a_dec_at dc_B_woos 18 rfl) ?_
    refine m_getR (y := 18) fl_B_58 rfl sh17 (mr_17_0 _) (by decide) (a_dec_at dc_B_woos 19 rfl) ?_
    refine ev_iload_n (i := 1) rfl rfl (a_dec_at dc_B_woos 20 rfl) ?_
    refine cV1I cs_B_170 sh18 rfl (Nat.le_of_ble_eq_true rfl) (Nat.le_of_ble_eq_true rfl) (a_dec_at dc_B_woos 21 rfl) ?_
    refine CI.mono (fun x2 mi2 ml2 z2 H => ?_) H
    refine ev_if_eq (tgt := 53) (a_dec_at dc_B_woos 22 rfl) (by decide) (fun b3 => ?_) (fun b3 => ?_)
    · have H := H.1 b3
      refine ev_bipush (v := (-2)) rfl (a_dec_at dc_B_woos 25 rfl) ?_
      exact m_retI (a_dec_at dc_B_woos 26 rfl) rfl rfl H
    · have H := H.2 b3
      refine ev_iload rfl (a_dec_at dc_B_woos 23 rfl) ?_
      refine ev_if_ne (tgt := 56) (a_dec_at dc_B_woos 24 rfl) (by decide) (fun _ => ?_) (fun q => absurd q (by decide))
      refine ev_iload_n (i := 2) rfl rfl (a_dec_at dc_B_woos 27 rfl) ?_
      refine ev_if_lt (tgt := 66) (a_dec_at dc_B_woos 28 rfl) (by decide) (fun b4 => ?_) (fun b4 => ?_)
      · have H := H.1 b4
        refine ev_bipush (v := (-3)) rfl (a_dec_at dc_B_woos 32 rfl) ?_
        exact m_retI (a_dec_at dc_B_woos 33 rfl) rfl rfl H
      · have H := H.2 b4
        refine ev_iload_n (i := 2) rfl rfl (a_dec_at dc_B_woos 29 rfl) ?_
        refine ev_bipush (v := 99) rfl (a_dec_at dc_B_woos 30 rfl) ?_
        refine ev_icmp_le (tgt := 69) (a_dec_at dc_B_woos 31 rfl) (by decide) (fun b5 => ?_) (fun b5 => ?_)
        · have H := H.1 b5
          refine ev_aload_n (i := 0) rfl rfl (a_dec_at dc_B_woos 34 rfl) ?_
          refine m_getR (y := 68) fl_B_100 rfl sh1 (mr_1_15 _) (by decide) (a_dec_at dc_B_woos 35 rfl) ?_
          refine ev_aload_n (i := 0) rfl rfl (a_dec_at dc_B_woos 36 rfl) ?_
          refine m_getR (y := 17) fl_B_54 rfl sh1 (mr_1_8 _) (by decide) (a_dec_at dc_B_woos 37 rfl) ?_
          refine ev_iload_n (i := 1) rfl rfl (a_dec_at dc_B_woos 38 rfl) ?_
          refine ev_iload_n (i := 2) rfl rfl (a_dec_at dc_B_woos 39 rfl) ?_
          refine cV3I cs_B_351 sh68 rfl (Nat.le_of_ble_eq_true rfl) (Nat.le_of_ble_eq_true rfl) (a_dec_at dc_B_woos 40 rfl) ?_
          refine CI.mono (fun x6 mi6 ml6 z6 H => ?_) H
          refine ev_istore (by decide) rfl (a_dec_at dc_B_woos 41 rfl) ?_
          refine ev_iload rfl (a_dec_at dc_B_woos 42 rfl) ?_
          refine ev_iconst (v := (-1)) rfl (a_dec_at dc_B_woos 43 rfl) ?_
          refine ev_icmp_eq (tgt := 94) (a_dec_at dc_B_woos 44 rfl) (by decide) (fun b7 => ?_) (fun b7 => ?_)
          · have H := H.1 b7
            refine ev_iload rfl (a_dec_at dc_B_woos 47 rfl) ?_
            refine ev_goto (tgt := 111) (a_dec_at dc_B_woos 48 rfl) (by decide) ?_
            exact m_retI (a_dec_at dc_B_woos 56 rfl) rfl rfl H
          · have H := H.2 b7
            refine ev_iload_n (i := 3) rfl rfl (a_dec_at dc_B_woos 45 rfl) ?_
            refine ev_if_ne (tgt := 99) (a_dec_at dc_B_woos 46 rfl) (by decide) (fun b8 => ?_) (fun b8 => ?_)
            · have H := H.1 b8
              refine ev_aload_n (i := 0) rfl rfl (a_dec_at dc_B_woos 49 rfl) ?_
              refine m_getR (y := 68) fl_B_100 rfl sh1 (mr_1_15 _) (by decide) (a_dec_at dc_B_woos 50 rfl) ?_
              refine m_getR (y := 74) fl_B_355 rfl sh68 (mr_68_10 _) (by decide) (a_dec_at dc_B_woos 51 rfl) ?_
              refine ev_iload_n (i := 3) rfl rfl (a_dec_at dc_B_woos 52 rfl) ?_
              refine ev_bipush (v := 10) rfl (a_dec_at dc_B_woos 53 rfl) ?_
              refine ev_isub (a_dec_at dc_B_woos 54 rfl) ?_
              obtain ⟨c9, H⟩ := H
              refine w_iald (k := (a3 - 10).toNatClampNeg) sh74 c9 rfl (a_dec_at dc_B_woos 55 rfl) ?_
              exact m_retI (a_dec_at dc_B_woos 56 rfl) rfl rfl H
            · have H := H.2 b8
              refine ev_iload rfl (a_dec_at dc_B_woos 47 rfl) ?_
              refine ev_goto (tgt := 111) (a_dec_at dc_B_woos 48 rfl) (by decide) ?_
              exact m_retI (a_dec_at dc_B_woos 56 rfl) rfl rfl H
        · have H := H.2 b5
          refine ev_bipush (v := (-3)) rfl (a_dec_at dc_B_woos 32 rfl) ?_
          exact m_retI (a_dec_at dc_B_woos 33 rfl) rfl rfl H
  · have H := H.2 b1
    refine ev_iload_n (i := 3) rfl rfl (a_dec_at dc_B_woos 2 rfl) ?_
    refine ev_bipush (v := 10) rfl (a_dec_at dc_B_woos 3 rfl) ?_
    refine ev_icmp_lt (tgt := 31) (a_dec_at dc_B_woos 4 rfl) (by decide) (fun b10 => ?_) (fun b10 => ?_)
    · have H := H.1 b10
      refine ev_iconst (v := 0) rfl (a_dec_at dc_B_woos 15 rfl) ?_
      refine ev_istore (by decide) rfl (a_dec_at dc_B_woos 16 rfl) ?_
      refine ev_aload_n (i := 0) rfl rfl (a_dec_at dc_B_woos 17 rfl) ?_
      refine m_getR (y := 17) fl_B_54 rfl sh1 (mr_1_8 _) (by decide) (a_dec_at dc_B_woos 18 rfl) ?_
      refine m_getR (y := 18) fl_B_58 rfl sh17 (mr_17_0 _) (by decide) (a_dec_at dc_B_woos 19 rfl) ?_
      refine ev_iload_n (i := 1) rfl rfl (a_dec_at dc_B_woos 20 rfl) ?_
      refine cV1I cs_B_170 sh18 rfl (Nat.le_of_ble_eq_true rfl) (Nat.le_of_ble_eq_true rfl) (a_dec_at dc_B_woos 21 rfl) ?_
      refine CI.mono (fun x11 mi11 ml11 z11 H => ?_) H
      refine ev_if_eq (tgt := 53) (a_dec_at dc_B_woos 22 rfl) (by decide) (fun b12 => ?_) (fun b12 => ?_)
      · have H := H.1 b12
        refine ev_bipush (v := (-2)) rfl (a_dec_at dc_B_woos 25 rfl) ?_
        exact m_retI (a_dec_at dc_B_woos 26 rfl) rfl rfl H
      · have H := H.2 b12
        refine ev_iload rfl (a_dec_at dc_B_woos 23 rfl) ?_
        refine ev_if_ne (tgt := 56) (a_dec_at dc_B_woos 24 rfl) (by decide) (fun q => absurd rfl q) (fun _ => ?_)
        refine ev_bipush (v := (-2)) rfl (a_dec_at dc_B_woos 25 rfl) ?_
        exact m_retI (a_dec_at dc_B_woos 26 rfl) rfl rfl H
    · have H := H.2 b10
      refine ev_aload_n (i := 0) rfl rfl (a_dec_at dc_B_woos 5 rfl) ?_
      refine m_getR (y := 17) fl_B_54 rfl sh1 (mr_1_8 _) (by decide) (a_dec_at dc_B_woos 6 rfl) ?_
      refine m_getR (y := 18) fl_B_58 rfl sh17 (mr_17_0 _) (by decide) (a_dec_at dc_B_woos 7 rfl) ?_
      refine ev_iload_n (i := 3) rfl rfl (a_dec_at dc_B_woos 8 rfl) ?_
      refine ev_bipush (v := 10) rfl (a_dec_at dc_B_woos 9 rfl) ?_
      refine ev_isub (a_dec_at dc_B_woos 10 rfl) ?_
      refine cV1I cs_B_149 sh18 rfl (Nat.le_of_ble_eq_true rfl) (Nat.le_of_ble_eq_true rfl) (a_dec_at dc_B_woos 11 rfl) ?_
      refine CI.mono (fun x13 mi13 ml13 z13 H => ?_) H
      refine ev_if_eq (tgt := 31) (a_dec_at dc_B_woos 12 rfl) (by decide) (fun b14 => ?_) (fun b14 => ?_)
      · have H := H.1 b14
        refine ev_iconst (v := 0) rfl (a_dec_at dc_B_woos 15 rfl) ?_
        refine ev_istore (by decide) rfl (a_dec_at dc_B_woos 16 rfl) ?_
        refine ev_aload_n (i := 0) rfl rfl (a_dec_at dc_B_woos 17 rfl) ?_
        refine m_getR (y := 17) fl_B_54 rfl sh1 (mr_1_8 _) (by decide) (a_dec_at dc_B_woos 18 rfl) ?_
        refine m_getR (y := 18) fl_B_58 rfl sh17 (mr_17_0 _) (by decide) (a_dec_at dc_B_woos 19 rfl) ?_
        refine ev_iload_n (i := 1) rfl rfl (a_dec_at dc_B_woos 20 rfl) ?_
        refine cV1I cs_B_170 sh18 rfl (Nat.le_of_ble_eq_true rfl) (Nat.le_of_ble_eq_true rfl) (a_dec_at dc_B_woos 21 rfl) ?_
        refine CI.mono (fun x15 mi15 ml15 z15 H => ?_) H
        refine ev_if_eq (tgt := 53) (a_dec_at dc_B_woos 22 rfl) (by decide) (fun b16 => ?_) (fun b16 => ?_)
        · have H := H.1 b16
          refine ev_bipush (v := (-2)) rfl (a_dec_at dc_B_woos 25 rfl) ?_
          exact m_retI (a_dec_at dc_B_woos 26 rfl) rfl rfl H
        · have H := H.2 b16
          refine ev_iload rfl (a_dec_at dc_B_woos 23 rfl) ?_
          refine ev_if_ne (tgt := 56) (a_dec_at dc_B_woos 24 rfl) (by decide) (fun q => absurd rfl q) (fun _ => ?_)
          refine ev_bipush (v := (-2)) rfl (a_dec_at dc_B_woos 25 rfl) ?_
          exact m_retI (a_dec_at dc_B_woos 26 rfl) rfl rfl H
      · have H := H.2 b14
        refine ev_iconst (v := 1) rfl (a_dec_at dc_B_woos 13 rfl) ?_
        refine ev_goto (tgt := 32) (a_dec_at dc_B_woos 14 rfl) (by decide) ?_
        refine ev_istore (by decide) rfl (a_dec_at dc_B_woos 16 rfl) ?_
        refine ev_aload_n (i := 0) rfl rfl (a_dec_at dc_B_woos 17 rfl) ?_
        refine m_getR (y := 17) fl_B_54 rfl sh1 (mr_1_8 _) (by decide) (a_dec_at dc_B_woos 18 rfl) ?_
        refine m_getR (y := 18) fl_B_58 rfl sh17 (mr_17_0 _) (by decide) (a_dec_at dc_B_woos 19 rfl) ?_
        refine ev_iload_n (i := 1) rfl rfl (a_dec_at dc_B_woos 20 rfl) ?_
        refine cV1I cs_B_170 sh18 rfl (Nat.le_of_ble_eq_true rfl) (Nat.le_of_ble_eq_true rfl) (a_dec_at dc_B_woos 21 rfl) ?_
        refine CI.mono (fun x17 mi17 ml17 z17 H => ?_) H
        refine ev_if_eq (tgt := 53) (a_dec_at dc_B_woos 22 rfl) (by decide) (fun b18 => ?_) (fun b18 => ?_)
        · have H := H.1 b18
          refine ev_bipush (v := (-2)) rfl (a_dec_at dc_B_woos 25 rfl) ?_
          exact m_retI (a_dec_at dc_B_woos 26 rfl) rfl rfl H
        · have H := H.2 b18
          refine ev_iload rfl (a_dec_at dc_B_woos 23 rfl) ?_
          refine ev_if_ne (tgt := 56) (a_dec_at dc_B_woos 24 rfl) (by decide) (fun _ => ?_) (fun q => absurd q (by decide))
          refine ev_iload_n (i := 2) rfl rfl (a_dec_at dc_B_woos 27 rfl) ?_
          refine ev_if_lt (tgt := 66) (a_dec_at dc_B_woos 28 rfl) (by decide) (fun b19 => ?_) (fun b19 => ?_)
          · have H := H.1 b19
            refine ev_bipush (v := (-3)) rfl (a_dec_at dc_B_woos 32 rfl) ?_
            exact m_retI (a_dec_at dc_B_woos 33 rfl) rfl rfl H
          · have H := H.2 b19
            refine ev_iload_n (i := 2) rfl rfl (a_dec_at dc_B_woos 29 rfl) ?_
            refine ev_bipush (v := 99) rfl (a_dec_at dc_B_woos 30 rfl) ?_
            refine ev_icmp_le (tgt := 69) (a_dec_at dc_B_woos 31 rfl) (by decide) (fun b20 => ?_) (fun b20 => ?_)
            · have H := H.1 b20
              refine ev_aload_n (i := 0) rfl rfl (a_dec_at dc_B_woos 34 rfl) ?_
              refine m_getR (y := 68) fl_B_100 rfl sh1 (mr_1_15 _) (by decide) (a_dec_at dc_B_woos 35 rfl) ?_
              refine ev_aload_n (i := 0) rfl rfl (a_dec_at dc_B_woos 36 rfl) ?_
              refine m_getR (y := 17) fl_B_54 rfl sh1 (mr_1_8 _) (by decide) (a_dec_at dc_B_woos 37 rfl) ?_
              refine ev_iload_n (i := 1) rfl rfl (a_dec_at dc_B_woos 38 rfl) ?_
              refine ev_iload_n (i := 2) rfl rfl (a_dec_at dc_B_woos 39 rfl) ?_
              refine cV3I cs_B_351 sh68 rfl (Nat.le_of_ble_eq_true rfl) (Nat.le_of_ble_eq_true rfl) (a_dec_at dc_B_woos 40 rfl) ?_
              refine CI.mono (fun x21 mi21 ml21 z21 H => ?_) H
              refine ev_istore (by decide) rfl (a_dec_at dc_B_woos 41 rfl) ?_
              refine ev_iload rfl (a_dec_at dc_B_woos 42 rfl) ?_
              refine ev_iconst (v := (-1)) rfl (a_dec_at dc_B_woos 43 rfl) ?_
              refine ev_icmp_eq (tgt := 94) (a_dec_at dc_B_woos 44 rfl) (by decide) (fun b22 => ?_) (fun b22 => ?_)
              · have H := H.1 b22
                refine ev_iload rfl (a_dec_at dc_B_woos 47 rfl) ?_
                refine ev_goto (tgt := 111) (a_dec_at dc_B_woos 48 rfl) (by decide) ?_
                exact m_retI (a_dec_at dc_B_woos 56 rfl) rfl rfl H
              · have H := H.2 b22
                refine ev_iload_n (i := 3) rfl rfl (a_dec_at dc_B_woos 45 rfl) ?_
                refine ev_if_ne (tgt := 99) (a_dec_at dc_B_woos 46 rfl) (by decide) (fun b23 => ?_) (fun b23 => ?_)
                · have H := H.1 b23
                  refine ev_aload_n (i := 0) rfl rfl (a_dec_at dc_B_woos 49 rfl) ?_
                  refine m_getR (y := 68) fl_B_100 rfl sh1 (mr_1_15 _) (by decide) (a_dec_at dc_B_woos 50 rfl) ?_
                  refine m_getR (y := 74) fl_B_355 rfl sh68 (mr_68_10 _) (by decide) (a_dec_at dc_B_woos 51 rfl) ?_
                  refine ev_iload_n (i := 3) rfl rfl (a_dec_at dc_B_woos 52 rfl) ?_
                  refine ev_bipush (v := 10) rfl (a_dec_at dc_B_woos 53 rfl) ?_
                  refine ev_isub (a_dec_at dc_B_woos 54 rfl) ?_
                  obtain ⟨c24, H⟩ := H
                  refine w_iald (k := (a3 - 10).toNatClampNeg) sh74 c24 rfl (a_dec_at dc_B_woos 55 rfl) ?_
                  exact m_retI (a_dec_at dc_B_woos 56 rfl) rfl rfl H
                · have H := H.2 b23
                  refine ev_iload rfl (a_dec_at dc_B_woos 47 rfl) ?_
                  refine ev_goto (tgt := 111) (a_dec_at dc_B_woos 48 rfl) (by decide) ?_
                  exact m_retI (a_dec_at dc_B_woos 56 rfl) rfl rfl H
            · have H := H.2 b20
              refine ev_bipush (v := (-3)) rfl (a_dec_at dc_B_woos 32 rfl) ?_
              exact m_retI (a_dec_at dc_B_woos 33 rfl) rfl rfl H
set_option maxRecDepth 20000 in
theorem t_B_floods {l : Launch} {h : Nat} (mi : TMi) (ml : TMl) (z : Nat) {Q : Int32 → TMi → TMl → Nat → Prop} (H : CI l h m_Sc_flooded [.ref 17] mi ml z (fun x1 mi1 ml1 z1 => Q x1 mi1 ml1 z1)) : CI l (h + 1) m_B_floods [.ref 1] mi ml z Q := by
  show Ev l (h + 1) m_B_floods 0 ([.ref 1], [], st mi ml z) (qI Q)
  refine ev_aload_n (i := 0) rfl rfl (a_dec_at dc_B_floods 0 rfl) ?_
  refine m_getR (y := 17) fl_B_54 rfl sh1 (mr_1_8 _) (by decide) (a_dec_at dc_B_floods 1 rfl) ?_
  refine cV0I cs_B_272 sh17 rfl (Nat.le_of_ble_eq_true rfl) (Nat.le_of_ble_eq_true rfl) (a_dec_at dc_B_floods 2 rfl) ?_
  refine CI.mono (fun x1 mi1 ml1 z1 H => ?_) H
  exact m_retI (a_dec_at dc_B_floods 3 rfl) rfl rfl H
set_option maxRecDepth 20000 in
theorem t_B_turnOff {l : Launch} {h : Nat} (mi : TMi) (ml : TMl) (z : Nat) (a1 : Int32) {Q : Int32 → TMi → TMl → Nat → Prop} (H : ((a1 = 0 → CI l h m_Sc_fewestToTurnOff [.ref 17] mi ml z (fun x2 mi2 ml2 z2 => ((¬ a1 = 0 → Q x2 mi2 ml2 z2) ∧ (a1 = 0 → CI l h m_JI_bitCount [.int x2] mi2 ml2 z2 (fun x4 mi4 ml4 z4 => Q x4 mi4 ml4 z4))))) ∧ (¬ a1 = 0 → ((a1 = 1 → CI l h m_Sc_fewestToTurnOff [.ref 17] mi ml z (fun x6 mi6 ml6 z6 => ((¬ a1 = 0 → Q x6 mi6 ml6 z6) ∧ (a1 = 0 → CI l h m_JI_bitCount [.int x6] mi6 ml6 z6 (fun x8 mi8 ml8 z8 => Q x8 mi8 ml8 z8))))) ∧ (¬ a1 = 1 → Q (-2) mi ml z))))) : CI l (h + 1) m_B_turnOff [.ref 1, .int a1] mi ml z Q := by
  show Ev l (h + 1) m_B_turnOff 0 ([.ref 1, .int a1, .retAddr 0], [], st mi ml z) (qI Q)
  refine ev_iload_n (i := 1) rfl rfl (a_dec_at dc_B_turnOff 0 rfl) ?_
  refine ev_if_eq (tgt := 12) (a_dec_at dc_B_turnOff 1 rfl) (by decide) (fun b1 => ?_) (fun b1 => ?_)
  · have H := H.1 b1
    refine ev_aload_n (i := 0) rfl rfl (a_dec_at dc_B_turnOff 7 rfl) ?_
    refine m_getR (y := 17) fl_B_54 rfl sh1 (mr_1_8 _) (by decide) (a_dec_at dc_B_turnOff 8 rfl) ?_
    refine cV0I cs_B_358 sh17 rfl (Nat.le_of_ble_eq_true rfl) (Nat.le_of_ble_eq_true rfl) (a_dec_at dc_B_turnOff 9 rfl) ?_
    refine CI.mono (fun x2 mi2 ml2 z2 H => ?_) H
    refine ev_istore_n (i := 2) rfl (by decide) rfl (a_dec_at dc_B_turnOff 10 rfl) ?_
    refine ev_iload_n (i := 1) rfl rfl (a_dec_at dc_B_turnOff 11 rfl) ?_
    refine ev_if_ne (tgt := 31) (a_dec_at dc_B_turnOff 12 rfl) (by decide) (fun b3 => ?_) (fun b3 => ?_)
    · have H := H.1 b3
      refine ev_iload_n (i := 2) rfl rfl (a_dec_at dc_B_turnOff 16 rfl) ?_
      exact m_retI (a_dec_at dc_B_turnOff 17 rfl) rfl rfl H
    · have H := H.2 b3
      refine ev_iload_n (i := 2) rfl rfl (a_dec_at dc_B_turnOff 13 rfl) ?_
      refine cS1I cs_B_298 rfl (Nat.le_of_ble_eq_true rfl) (Nat.le_of_ble_eq_true rfl) (a_dec_at dc_B_turnOff 14 rfl) ?_
      refine CI.mono (fun x4 mi4 ml4 z4 H => ?_) H
      refine ev_goto (tgt := 32) (a_dec_at dc_B_turnOff 15 rfl) (by decide) ?_
      exact m_retI (a_dec_at dc_B_turnOff 17 rfl) rfl rfl H
  · have H := H.2 b1
    refine ev_iload_n (i := 1) rfl rfl (a_dec_at dc_B_turnOff 2 rfl) ?_
    refine ev_iconst (v := 1) rfl (a_dec_at dc_B_turnOff 3 rfl) ?_
    refine ev_icmp_eq (tgt := 12) (a_dec_at dc_B_turnOff 4 rfl) (by decide) (fun b5 => ?_) (fun b5 => ?_)
    · have H := H.1 b5
      refine ev_aload_n (i := 0) rfl rfl (a_dec_at dc_B_turnOff 7 rfl) ?_
      refine m_getR (y := 17) fl_B_54 rfl sh1 (mr_1_8 _) (by decide) (a_dec_at dc_B_turnOff 8 rfl) ?_
      refine cV0I cs_B_358 sh17 rfl (Nat.le_of_ble_eq_true rfl) (Nat.le_of_ble_eq_true rfl) (a_dec_at dc_B_turnOff 9 rfl) ?_
      refine CI.mono (fun x6 mi6 ml6 z6 H => ?_) H
      refine ev_istore_n (i := 2) rfl (by decide) rfl (a_dec_at dc_B_turnOff 10 rfl) ?_
      refine ev_iload_n (i := 1) rfl rfl (a_dec_at dc_B_turnOff 11 rfl) ?_
      refine ev_if_ne (tgt := 31) (a_dec_at dc_B_turnOff 12 rfl) (by decide) (fun b7 => ?_) (fun b7 => ?_)
      · have H := H.1 b7
        refine ev_iload_n (i := 2) rfl rfl (a_dec_at dc_B_turnOff 16 rfl) ?_
        exact m_retI (a_dec_at dc_B_turnOff 17 rfl) rfl rfl H
      · have H := H.2 b7
        refine ev_iload_n (i := 2) rfl rfl (a_dec_at dc_B_turnOff 13 rfl) ?_
        refine cS1I cs_B_298 rfl (Nat.le_of_ble_eq_true rfl) (Nat.le_of_ble_eq_true rfl) (a_dec_at dc_B_turnOff 14 rfl) ?_
        refine CI.mono (fun x8 mi8 ml8 z8 H => ?_) H
        refine ev_goto (tgt := 32) (a_dec_at dc_B_turnOff 15 rfl) (by decide) ?_
        exact m_retI (a_dec_at dc_B_turnOff 17 rfl) rfl rfl H
    · have H := H.2 b5
      refine ev_bipush (v := (-2)) rfl (a_dec_at dc_B_turnOff 5 rfl) ?_
      exact m_retI (a_dec_at dc_B_turnOff 6 rfl) rfl rfl H
set_option maxRecDepth 20000 in
theorem t_B_bearing {l : Launch} {h : Nat} (mi : TMi) (ml : TMl) (z : Nat) (a1 : Int32) {Q : Int32 → TMi → TMl → Nat → Prop} (H : CI l h m_La_hasRiver [.ref 18, .int a1] mi ml z (fun x1 mi1 ml1 z1 => ((¬ x1 = 0 → CV l h m_Sv_goThrough [.ref 60, .ref 17, .int (-1)] mi1 ml1 z1 (fun mi3 ml3 z3 => (vp_in a1 4) ∧ Q (mi3 67 a1.toNatClampNeg) mi3 ml3 z3)) ∧ (x1 = 0 → Q (-2) mi1 ml1 z1)))) : CI l (h + 1) m_B_bearing [.ref 1, .int a1] mi ml z Q := by
  show Ev l (h + 1) m_B_bearing 0 ([.ref 1, .int a1], [], st mi ml z) (qI Q)
  refine ev_aload_n (i := 0) rfl rfl (a_dec_at dc_B_bearing 0 rfl) ?_
  refine m_getR (y := 17) fl_B_54 rfl sh1 (mr_1_8 _) (by decide) (a_dec_at dc_B_bearing 1 rfl) ?_
  refine m_getR (y := 18) fl_B_58 rfl sh17 (mr_17_0 _) (by decide) (a_dec_at dc_B_bearing 2 rfl) ?_
  refine ev_iload_n (i := 1) rfl rfl (a_dec_at dc_B_bearing 3 rfl) ?_
  refine cV1I cs_B_170 sh18 rfl (Nat.le_of_ble_eq_true rfl) (Nat.le_of_ble_eq_true rfl) (a_dec_at dc_B_bearing 4 rfl) ?_
  refine CI.mono (fun x1 mi1 ml1 z1 H => ?_) H
  refine ev_if_ne (tgt := 17) (a_dec_at dc_B_bearing 5 rfl) (by decide) (fun b2 => ?_) (fun b2 => ?_)
  · have H := H.1 b2
    refine ev_aload_n (i := 0) rfl rfl (a_dec_at dc_B_bearing 8 rfl) ?_
    refine m_getR (y := 60) fl_B_91 rfl sh1 (mr_1_14 _) (by decide) (a_dec_at dc_B_bearing 9 rfl) ?_
    refine ev_aload_n (i := 0) rfl rfl (a_dec_at dc_B_bearing 10 rfl) ?_
    refine m_getR (y := 17) fl_B_54 rfl sh1 (mr_1_8 _) (by decide) (a_dec_at dc_B_bearing 11 rfl) ?_
    refine ev_iconst (v := (-1)) rfl (a_dec_at dc_B_bearing 12 rfl) ?_
    refine cV2V cs_B_319 sh60 rfl (Nat.le_of_ble_eq_true rfl) (Nat.le_of_ble_eq_true rfl) (a_dec_at dc_B_bearing 13 rfl) ?_
    refine CV.mono (fun mi3 ml3 z3 H => ?_) H
    refine ev_aload_n (i := 0) rfl rfl (a_dec_at dc_B_bearing 14 rfl) ?_
    refine m_getR (y := 60) fl_B_91 rfl sh1 (mr_1_14 _) (by decide) (a_dec_at dc_B_bearing 15 rfl) ?_
    refine m_getR (y := 67) fl_B_361 rfl sh60 (mr_60_13 _) (by decide) (a_dec_at dc_B_bearing 16 rfl) ?_
    refine ev_iload_n (i := 1) rfl rfl (a_dec_at dc_B_bearing 17 rfl) ?_
    obtain ⟨c4, H⟩ := H
    refine w_iald (k := a1.toNatClampNeg) sh67 c4 rfl (a_dec_at dc_B_bearing 18 rfl) ?_
    exact m_retI (a_dec_at dc_B_bearing 19 rfl) rfl rfl H
  · have H := H.2 b2
    refine ev_bipush (v := (-2)) rfl (a_dec_at dc_B_bearing 6 rfl) ?_
    exact m_retI (a_dec_at dc_B_bearing 7 rfl) rfl rfl H
set_option maxRecDepth 20000 in
theorem t_B_marks {l : Launch} {h : Nat} (mi : TMi) (ml : TMl) (z : Nat) (a1 : Int32) (a2 : Int32) {Q : Int32 → TMi → TMl → Nat → Prop} (H : CI l h m_B_refusedAnswers [.ref 1, .int a1, .int a2] mi ml z (fun x1 mi1 ml1 z1 => ((x1 = 0 → CI l h m_Su_marksThatHold [.ref 75, .ref 17, .int a2] mi1 ml1 z1 (fun x3 mi3 ml3 z3 => Q x3 mi3 ml3 z3)) ∧ (¬ x1 = 0 → Q x1 mi1 ml1 z1)))) : CI l (h + 1) m_B_marks [.ref 1, .int a1, .int a2] mi ml z Q := by
  show Ev l (h + 1) m_B_marks 0 ([.ref 1, .int a1, .int a2, .retAddr 0], [], st mi ml z) (qI Q)
  refine ev_aload_n (i := 0) rfl rfl (a_dec_at dc_B_marks 0 rfl) ?_
  refine ev_iload_n (i := 1) rfl rfl (a_dec_at dc_B_marks 1 rfl) ?_
  refine ev_iload_n (i := 2) rfl rfl (a_dec_at dc_B_marks 2 rfl) ?_
  refine cV2I cs_B_364 sh1 rfl (Nat.le_of_ble_eq_true rfl) (Nat.le_of_ble_eq_true rfl) (a_dec_at dc_B_marks 3 rfl) ?_
  refine CI.mono (fun x1 mi1 ml1 z1 H => ?_) H
  refine ev_istore_n (i := 3) rfl (by decide) rfl (a_dec_at dc_B_marks 4 rfl) ?_
  refine ev_iload_n (i := 3) rfl rfl (a_dec_at dc_B_marks 5 rfl) ?_
  refine ev_if_eq (tgt := 13) (a_dec_at dc_B_marks 6 rfl) (by decide) (fun b2 => ?_) (fun b2 => ?_)
  · have H := H.1 b2
    refine ev_aload_n (i := 0) rfl rfl (a_dec_at dc_B_marks 9 rfl) ?_
    refine m_getR (y := 75) fl_B_107 rfl sh1 (mr_1_16 _) (by decide) (a_dec_at dc_B_marks 10 rfl) ?_
    refine ev_aload_n (i := 0) rfl rfl (a_dec_at dc_B_marks 11 rfl) ?_
    refine m_getR (y := 17) fl_B_54 rfl sh1 (mr_1_8 _) (by decide) (a_dec_at dc_B_marks 12 rfl) ?_
    refine ev_iload_n (i := 2) rfl rfl (a_dec_at dc_B_marks 13 rfl) ?_
    refine cV2I cs_B_367 sh75 rfl (Nat.le_of_ble_eq_true rfl) (Nat.le_of_ble_eq_true rfl) (a_dec_at dc_B_marks 14 rfl) ?_
    refine CI.mono (fun x3 mi3 ml3 z3 H => ?_) H
    exact m_retI (a_dec_at dc_B_marks 15 rfl) rfl rfl H
  · have H := H.2 b2
    refine ev_iload_n (i := 3) rfl rfl (a_dec_at dc_B_marks 7 rfl) ?_
    exact m_retI (a_dec_at dc_B_marks 8 rfl) rfl rfl H
set_option maxRecDepth 20000 in
theorem t_B_refusedAnswers {l : Launch} {h : Nat} (mi : TMi) (ml : TMl) (z : Nat) (a1 : Int32) (a2 : Int32) {Q : Int32 → TMi → TMl → Nat → Prop} (H : CI l h m_B_isTray [.int a1] mi ml z (fun x1 mi1 ml1 z1 => ((x1 = 0 → Q (-2) mi1 ml1 z1) ∧ (¬ x1 = 0 → CI l h m_La_hasBeck [.ref 18, .int a2] mi1 ml1 z1 (fun x3 mi3 ml3 z3 => ((¬ x3 = 0 → (vp_in a1 4) ∧ (0 < (MR z3 78 a1.toNatClampNeg) ∧ (MR z3 78 a1.toNatClampNeg) < 1000) ∧ (SH[(MR z3 78 a1.toNatClampNeg)]? = some (.inl 9)) ∧ CI l h m_Tr_missing [.ref (MR z3 78 a1.toNatClampNeg)] mi3 ml3 z3 (fun x8 mi8 ml8 z8 => ((x8 = 0 → (vp_in a1 4) ∧ (0 < (MR z8 78 a1.toNatClampNeg) ∧ (MR z8 78 a1.toNatClampNeg) < 1000) ∧ (SH[(MR z8 78 a1.toNatClampNeg)]? = some (.inl 9)) ∧ (((mi8 (MR z8 78 a1.toNatClampNeg) 2) = (mi8 18 0) → (vp_in a1 4) ∧ (0 < (MR z8 78 a1.toNatClampNeg) ∧ (MR z8 78 a1.toNatClampNeg) < 1000) ∧ CI l h m_Su_hear [.ref 75, .ref 17, .ref (MR z8 78 a1.toNatClampNeg)] mi8 ml8 z8 (fun x16 mi16 ml16 z16 => ((x16 = 0 → Q (-3) mi16 ml16 z16) ∧ (¬ x16 = 0 → Q 0 mi16 ml16 z16)))) ∧ (¬ (mi8 (MR z8 78 a1.toNatClampNeg) 2) = (mi8 18 0) → Q (-4) mi8 ml8 z8))) ∧ (¬ x8 = 0 → Q (-6) mi8 ml8 z8)))) ∧ (x3 = 0 → Q (-2) mi3 ml3 z3))))))) : CI l (h + 1) m_B_refusedAnswers [.ref 1, .int a1, .int a2] mi ml z Q := by
  show Ev l (h + 1) m_B_refusedAnswers 0 ([.ref 1, .int a1, .int a2], [], st mi ml z) (qI Q)
  refine ev_iload_n (i := 1) rfl rfl (a_dec_at dc_B_refusedAnswers 0 rfl) ?_
  refine cS1I cs_B_245 rfl (Nat.le_of_ble_eq_true rfl) (Nat.le_of_ble_eq_true rfl) (a_dec_at dc_B_refusedAnswers 1 rfl) ?_
  refine CI.mono (fun x1 mi1 ml1 z1 H => ?_) H
  refine ev_if_eq (tgt := 21) (a_dec_at dc_B_refusedAnswers 2 rfl) (by decide) (fun b2 => ?_) (fun b2 => ?_)
  · have H := H.1 b2
    refine ev_bipush (v := (-2)) rfl (a_dec_at dc_B_refusedAnswers 9 rfl) ?_
    exact m_retI (a_dec_at dc_B_refusedAnswers 10 rfl) rfl rfl H
  · have H := H.2 b2
    refine ev_aload_n (i := 0) rfl rfl (a_dec_at dc_B_refusedAnswers 3 rfl) ?_
    refine m_getR (y := 17) fl_B_54 rfl sh1 (mr_1_8 _) (by decide) (a_dec_at dc_B_refusedAnswers 4 rfl) ?_
    refine m_getR (y := 18) fl_B_58 rfl sh17 (mr_17_0 _) (by decide) (a_dec_at dc_B_refusedAnswers 5 rfl) ?_
    refine ev_iload_n (i := 2) rfl rfl (a_dec_at dc_B_refusedAnswers 6 rfl) ?_
    refine cV1I cs_B_149 sh18 rfl (Nat.le_of_ble_eq_true rfl) (Nat.le_of_ble_eq_true rfl) (a_dec_at dc_B_refusedAnswers 7 rfl) ?_
    refine CI.mono (fun x3 mi3 ml3 z3 H => ?_) H
    refine ev_if_ne (tgt := 24) (a_dec_at dc_B_refusedAnswers 8 rfl) (by decide) (fun b4 => ?_) (fun b4 => ?_)
    · have H := H.1 b4
      refine ev_aload_n (i := 0) rfl rfl (a_dec_at dc_B_refusedAnswers 11 rfl) ?_
      refine m_getR (y := 78) fl_B_113 rfl sh1 (mr_1_17 _) (by decide) (a_dec_at dc_B_refusedAnswers 12 rfl) ?_
      refine ev_iload_n (i := 1) rfl rfl (a_dec_at dc_B_refusedAnswers 13 rfl) ?_
      obtain ⟨c5, H⟩ := H
      obtain ⟨c6, H⟩ := H
      refine w_aald (k := a1.toNatClampNeg) (y := (MR z3 78 a1.toNatClampNeg)) (by decide) sh78 c5 rfl rfl c6 (a_dec_at dc_B_refusedAnswers 14 rfl) ?_
      obtain ⟨c7, H⟩ := H
      refine cV0I cs_B_248 c7 rfl (Nat.le_of_ble_eq_true rfl) (Nat.le_of_ble_eq_true rfl) (a_dec_at dc_B_refusedAnswers 15 rfl) ?_
      refine CI.mono (fun x8 mi8 ml8 z8 H => ?_) H
      refine ev_if_eq (tgt := 39) (a_dec_at dc_B_refusedAnswers 16 rfl) (by decide) (fun b9 => ?_) (fun b9 => ?_)
      · have H := H.1 b9
        refine ev_aload_n (i := 0) rfl rfl (a_dec_at dc_B_refusedAnswers 19 rfl) ?_
        refine m_getR (y := 78) fl_B_113 rfl sh1 (mr_1_17 _) (by decide) (a_dec_at dc_B_refusedAnswers 20 rfl) ?_
        refine ev_iload_n (i := 1) rfl rfl (a_dec_at dc_B_refusedAnswers 21 rfl) ?_
        obtain ⟨c10, H⟩ := H
        obtain ⟨c11, H⟩ := H
        refine w_aald (k := a1.toNatClampNeg) (y := (MR z8 78 a1.toNatClampNeg)) (by decide) sh78 c10 rfl rfl c11 (a_dec_at dc_B_refusedAnswers 22 rfl) ?_
        obtain ⟨c12, H⟩ := H
        refine m_getI fl_B_259 rfl c12 (a_dec_at dc_B_refusedAnswers 23 rfl) ?_
        refine ev_aload_n (i := 0) rfl rfl (a_dec_at dc_B_refusedAnswers 24 rfl) ?_
        refine m_getR (y := 17) fl_B_54 rfl sh1 (mr_1_8 _) (by decide) (a_dec_at dc_B_refusedAnswers 25 rfl) ?_
        refine m_getR (y := 18) fl_B_58 rfl sh17 (mr_17_0 _) (by decide) (a_dec_at dc_B_refusedAnswers 26 rfl) ?_
        refine m_getI fl_B_292 rfl sh18 (a_dec_at dc_B_refusedAnswers 27 rfl) ?_
        refine ev_icmp_eq (tgt := 64) (a_dec_at dc_B_refusedAnswers 28 rfl) (by decide) (fun b13 => ?_) (fun b13 => ?_)
        · have H := H.1 b13
          refine ev_aload_n (i := 0) rfl rfl (a_dec_at dc_B_refusedAnswers 31 rfl) ?_
          refine m_getR (y := 75) fl_B_107 rfl sh1 (mr_1_16 _) (by decide) (a_dec_at dc_B_refusedAnswers 32 rfl) ?_
          refine ev_aload_n (i := 0) rfl rfl (a_dec_at dc_B_refusedAnswers 33 rfl) ?_
          refine m_getR (y := 17) fl_B_54 rfl sh1 (mr_1_8 _) (by decide) (a_dec_at dc_B_refusedAnswers 34 rfl) ?_
          refine ev_aload_n (i := 0) rfl rfl (a_dec_at dc_B_refusedAnswers 35 rfl) ?_
          refine m_getR (y := 78) fl_B_113 rfl sh1 (mr_1_17 _) (by decide) (a_dec_at dc_B_refusedAnswers 36 rfl) ?_
          refine ev_iload_n (i := 1) rfl rfl (a_dec_at dc_B_refusedAnswers 37 rfl) ?_
          obtain ⟨c14, H⟩ := H
          obtain ⟨c15, H⟩ := H
          refine w_aald (k := a1.toNatClampNeg) (y := (MR z8 78 a1.toNatClampNeg)) (by decide) sh78 c14 rfl rfl c15 (a_dec_at dc_B_refusedAnswers 38 rfl) ?_
          refine cV2I cs_B_376 sh75 rfl (Nat.le_of_ble_eq_true rfl) (Nat.le_of_ble_eq_true rfl) (a_dec_at dc_B_refusedAnswers 39 rfl) ?_
          refine CI.mono (fun x16 mi16 ml16 z16 H => ?_) H
          refine ev_if_eq (tgt := 88) (a_dec_at dc_B_refusedAnswers 40 rfl) (by decide) (fun b17 => ?_) (fun b17 => ?_)
          · have H := H.1 b17
            refine ev_bipush (v := (-3)) rfl (a_dec_at dc_B_refusedAnswers 43 rfl) ?_
            exact m_retI (a_dec_at dc_B_refusedAnswers 44 rfl) rfl rfl H
          · have H := H.2 b17
            refine ev_iconst (v := 0) rfl (a_dec_at dc_B_refusedAnswers 41 rfl) ?_
            refine ev_goto (tgt := 90) (a_dec_at dc_B_refusedAnswers 42 rfl) (by decide) ?_
            exact m_retI (a_dec_at dc_B_refusedAnswers 44 rfl) rfl rfl H
        · have H := H.2 b13
          refine ev_bipush (v := (-4)) rfl (a_dec_at dc_B_refusedAnswers 29 rfl) ?_
          exact m_retI (a_dec_at dc_B_refusedAnswers 30 rfl) rfl rfl H
      · have H := H.2 b9
        refine ev_bipush (v := (-6)) rfl (a_dec_at dc_B_refusedAnswers 17 rfl) ?_
        exact m_retI (a_dec_at dc_B_refusedAnswers 18 rfl) rfl rfl H
    · have H := H.2 b4
      refine ev_bipush (v := (-2)) rfl (a_dec_at dc_B_refusedAnswers 9 rfl) ?_
      exact m_retI (a_dec_at dc_B_refusedAnswers 10 rfl) rfl rfl H
set_option maxRecDepth 20000 in
theorem t_B_ask {l : Launch} {h : Nat} (mi : TMi) (ml : TMl) (z : Nat) (a1 : Int32) (a2 : Int32) {Q : Int32 → TMi → TMl → Nat → Prop} (H : CI l h m_B_refusedAnswers [.ref 1, .int a1, .int a2] mi ml z (fun x1 mi1 ml1 z1 => ((x1 = 0 → CI l h m_Su_marksThatHold [.ref 75, .ref 17, .int a2] mi1 ml1 z1 (fun x3 mi3 ml3 z3 => CI l h m_Su_bestQuestion [.ref 75, .int (mi3 18 1)] mi3 ml3 z3 (fun x4 mi4 ml4 z4 => Q x4 mi4 ml4 z4))) ∧ (¬ x1 = 0 → Q x1 mi1 ml1 z1)))) : CI l (h + 1) m_B_ask [.ref 1, .int a1, .int a2] mi ml z Q := by
  show Ev l (h + 1) m_B_ask 0 ([.ref 1, .int a1, .int a2, .retAddr 0], [], st mi ml z) (qI Q)
  refine ev_aload_n (i := 0) rfl rfl (a_dec_at dc_B_ask 0 rfl) ?_
  refine ev_iload_n (i := 1) rfl rfl (a_dec_at dc_B_ask 1 rfl) ?_
  refine ev_iload_n (i := 2) rfl rfl (a_dec_at dc_B_ask 2 rfl) ?_
  refine cV2I cs_B_364 sh1 rfl (Nat.le_of_ble_eq_true rfl) (Nat.le_of_ble_eq_true rfl) (a_dec_at dc_B_ask 3 rfl) ?_
  refine CI.mono (fun x1 mi1 ml1 z1 H => ?_) H
  refine ev_istore_n (i := 3) rfl (by decide) rfl (a_dec_at dc_B_ask 4 rfl) ?_
  refine ev_iload_n (i := 3) rfl rfl (a_dec_at dc_B_ask 5 rfl) ?_
  refine ev_if_eq (tgt := 13) (a_dec_at dc_B_ask 6 rfl) (by decide) (fun b2 => ?_) (fun b2 => ?_)
  · have H := H.1 b2
    refine ev_aload_n (i := 0) rfl rfl (a_dec_at dc_B_ask 9 rfl) ?_
    refine m_getR (y := 75) fl_B_107 rfl sh1 (mr_1_16 _) (by decide) (a_dec_at dc_B_ask 10 rfl) ?_
    refine ev_aload_n (i := 0) rfl rfl (a_dec_at dc_B_ask 11 rfl) ?_
    refine m_getR (y := 17) fl_B_54 rfl sh1 (mr_1_8 _) (by decide) (a_dec_at dc_B_ask 12 rfl) ?_
    refine ev_iload_n (i := 2) rfl rfl (a_dec_at dc_B_ask 13 rfl) ?_
    refine cV2I cs_B_367 sh75 rfl (Nat.le_of_ble_eq_true rfl) (Nat.le_of_ble_eq_true rfl) (a_dec_at dc_B_ask 14 rfl) ?_
    refine CI.mono (fun x3 mi3 ml3 z3 H => ?_) H
    refine ev_pop rfl (a_dec_at dc_B_ask 15 rfl) ?_
    refine ev_aload_n (i := 0) rfl rfl (a_dec_at dc_B_ask 16 rfl) ?_
    refine m_getR (y := 75) fl_B_107 rfl sh1 (mr_1_16 _) (by decide) (a_dec_at dc_B_ask 17 rfl) ?_
    refine ev_aload_n (i := 0) rfl rfl (a_dec_at dc_B_ask 18 rfl) ?_
    refine m_getR (y := 17) fl_B_54 rfl sh1 (mr_1_8 _) (by decide) (a_dec_at dc_B_ask 19 rfl) ?_
    refine m_getR (y := 18) fl_B_58 rfl sh17 (mr_17_0 _) (by decide) (a_dec_at dc_B_ask 20 rfl) ?_
    refine m_getI fl_B_370 rfl sh18 (a_dec_at dc_B_ask 21 rfl) ?_
    refine cV1I cs_B_373 sh75 rfl (Nat.le_of_ble_eq_true rfl) (Nat.le_of_ble_eq_true rfl) (a_dec_at dc_B_ask 22 rfl) ?_
    refine CI.mono (fun x4 mi4 ml4 z4 H => ?_) H
    exact m_retI (a_dec_at dc_B_ask 23 rfl) rfl rfl H
  · have H := H.2 b2
    refine ev_iload_n (i := 3) rfl rfl (a_dec_at dc_B_ask 7 rfl) ?_
    exact m_retI (a_dec_at dc_B_ask 8 rfl) rfl rfl H
set_option maxRecDepth 20000 in
theorem t_B_flooding {l : Launch} {h : Nat} (mi : TMi) (ml : TMl) (z : Nat) (a1 : Int32) (a2 : Int32) {Q : Int32 → TMi → TMl → Nat → Prop} (H : CI l h m_La_hasRiver [.ref 18, .int a1] mi ml z (fun x1 mi1 ml1 z1 => ((x1 = 0 → Q (-2) mi1 ml1 z1) ∧ (¬ x1 = 0 → ((a2 = 0 → CV l h m_Su_chanceOfFlood [.ref 75, .ref 17, .int a1] mi1 ml1 z1 (fun mi4 ml4 z4 => ((¬ a2 = 0 → Q (mi4 75 6) mi4 ml4 z4) ∧ (a2 = 0 → Q (mi4 75 5) mi4 ml4 z4)))) ∧ (¬ a2 = 0 → ((a2 = 1 → CV l h m_Su_chanceOfFlood [.ref 75, .ref 17, .int a1] mi1 ml1 z1 (fun mi7 ml7 z7 => ((¬ a2 = 0 → Q (mi7 75 6) mi7 ml7 z7) ∧ (a2 = 0 → Q (mi7 75 5) mi7 ml7 z7)))) ∧ (¬ a2 = 1 → Q (-2) mi1 ml1 z1)))))))) : CI l (h + 1) m_B_flooding [.ref 1, .int a1, .int a2] mi ml z Q := by
  show Ev l (h + 1) m_B_flooding 0 ([.ref 1, .int a1, .int a2], [], st mi ml z) (qI Q)
  refine ev_aload_n (i := 0) rfl rfl (a_dec_at dc_B_flooding 0 rfl) ?_
  refine m_getR (y := 17) fl_B_54 rfl sh1 (mr_1_8 _) (by decide) (a_dec_at dc_B_flooding 1 rfl) ?_
  refine m_getR (y := 18) fl_B_58 rfl sh17 (mr_17_0 _) (by decide) (a_dec_at dc_B_flooding 2 rfl) ?_
  refine ev_iload_n (i := 1) rfl rfl (a_dec_at dc_B_flooding 3 rfl) ?_
  refine cV1I cs_B_170 sh18 rfl (Nat.le_of_ble_eq_true rfl) (Nat.le_of_ble_eq_true rfl) (a_dec_at dc_B_flooding 4 rfl) ?_
  refine CI.mono (fun x1 mi1 ml1 z1 H => ?_) H
  refine ev_if_eq (tgt := 23) (a_dec_at dc_B_flooding 5 rfl) (by decide) (fun b2 => ?_) (fun b2 => ?_)
  · have H := H.1 b2
    refine ev_bipush (v := (-2)) rfl (a_dec_at dc_B_flooding 11 rfl) ?_
    exact m_retI (a_dec_at dc_B_flooding 12 rfl) rfl rfl H
  · have H := H.2 b2
    refine ev_iload_n (i := 2) rfl rfl (a_dec_at dc_B_flooding 6 rfl) ?_
    refine ev_if_eq (tgt := 26) (a_dec_at dc_B_flooding 7 rfl) (by decide) (fun b3 => ?_) (fun b3 => ?_)
    · have H := H.1 b3
      refine ev_aload_n (i := 0) rfl rfl (a_dec_at dc_B_flooding 13 rfl) ?_
      refine m_getR (y := 75) fl_B_107 rfl sh1 (mr_1_16 _) (by decide) (a_dec_at dc_B_flooding 14 rfl) ?_
      refine ev_aload_n (i := 0) rfl rfl (a_dec_at dc_B_flooding 15 rfl) ?_
      refine m_getR (y := 17) fl_B_54 rfl sh1 (mr_1_8 _) (by decide) (a_dec_at dc_B_flooding 16 rfl) ?_
      refine ev_iload_n (i := 1) rfl rfl (a_dec_at dc_B_flooding 17 rfl) ?_
      refine cV2V cs_B_380 sh75 rfl (Nat.le_of_ble_eq_true rfl) (Nat.le_of_ble_eq_true rfl) (a_dec_at dc_B_flooding 18 rfl) ?_
      refine CV.mono (fun mi4 ml4 z4 H => ?_) H
      refine ev_iload_n (i := 2) rfl rfl (a_dec_at dc_B_flooding 19 rfl) ?_
      refine ev_if_ne (tgt := 52) (a_dec_at dc_B_flooding 20 rfl) (by decide) (fun b5 => ?_) (fun b5 => ?_)
      · have H := H.1 b5
        refine ev_aload_n (i := 0) rfl rfl (a_dec_at dc_B_flooding 25 rfl) ?_
        refine m_getR (y := 75) fl_B_107 rfl sh1 (mr_1_16 _) (by decide) (a_dec_at dc_B_flooding 26 rfl) ?_
        refine m_getI fl_B_386 rfl sh75 (a_dec_at dc_B_flooding 27 rfl) ?_
        exact m_retI (a_dec_at dc_B_flooding 28 rfl) rfl rfl H
      · have H := H.2 b5
        refine ev_aload_n (i := 0) rfl rfl (a_dec_at dc_B_flooding 21 rfl) ?_
        refine m_getR (y := 75) fl_B_107 rfl sh1 (mr_1_16 _) (by decide) (a_dec_at dc_B_flooding 22 rfl) ?_
        refine m_getI fl_B_383 rfl sh75 (a_dec_at dc_B_flooding 23 rfl) ?_
        refine ev_goto (tgt := 59) (a_dec_at dc_B_flooding 24 rfl) (by decide) ?_
        exact m_retI (a_dec_at dc_B_flooding 28 rfl) rfl rfl H
    · have H := H.2 b3
      refine ev_iload_n (i := 2) rfl rfl (a_dec_at dc_B_flooding 8 rfl) ?_
      refine ev_iconst (v := 1) rfl (a_dec_at dc_B_flooding 9 rfl) ?_
      refine ev_icmp_eq (tgt := 26) (a_dec_at dc_B_flooding 10 rfl) (by decide) (fun b6 => ?_) (fun b6 => ?_)
      · have H := H.1 b6
        refine ev_aload_n (i := 0) rfl rfl (a_dec_at dc_B_flooding 13 rfl) ?_
        refine m_getR (y := 75) fl_B_107 rfl sh1 (mr_1_16 _) (by decide) (a_dec_at dc_B_flooding 14 rfl) ?_
        refine ev_aload_n (i := 0) rfl rfl (a_dec_at dc_B_flooding 15 rfl) ?_
        refine m_getR (y := 17) fl_B_54 rfl sh1 (mr_1_8 _) (by decide) (a_dec_at dc_B_flooding 16 rfl) ?_
        refine ev_iload_n (i := 1) rfl rfl (a_dec_at dc_B_flooding 17 rfl) ?_
        refine cV2V cs_B_380 sh75 rfl (Nat.le_of_ble_eq_true rfl) (Nat.le_of_ble_eq_true rfl) (a_dec_at dc_B_flooding 18 rfl) ?_
        refine CV.mono (fun mi7 ml7 z7 H => ?_) H
        refine ev_iload_n (i := 2) rfl rfl (a_dec_at dc_B_flooding 19 rfl) ?_
        refine ev_if_ne (tgt := 52) (a_dec_at dc_B_flooding 20 rfl) (by decide) (fun b8 => ?_) (fun b8 => ?_)
        · have H := H.1 b8
          refine ev_aload_n (i := 0) rfl rfl (a_dec_at dc_B_flooding 25 rfl) ?_
          refine m_getR (y := 75) fl_B_107 rfl sh1 (mr_1_16 _) (by decide) (a_dec_at dc_B_flooding 26 rfl) ?_
          refine m_getI fl_B_386 rfl sh75 (a_dec_at dc_B_flooding 27 rfl) ?_
          exact m_retI (a_dec_at dc_B_flooding 28 rfl) rfl rfl H
        · have H := H.2 b8
          refine ev_aload_n (i := 0) rfl rfl (a_dec_at dc_B_flooding 21 rfl) ?_
          refine m_getR (y := 75) fl_B_107 rfl sh1 (mr_1_16 _) (by decide) (a_dec_at dc_B_flooding 22 rfl) ?_
          refine m_getI fl_B_383 rfl sh75 (a_dec_at dc_B_flooding 23 rfl) ?_
          refine ev_goto (tgt := 59) (a_dec_at dc_B_flooding 24 rfl) (by decide) ?_
          exact m_retI (a_dec_at dc_B_flooding 28 rfl) rfl rfl H
      · have H := H.2 b6
        refine ev_bipush (v := (-2)) rfl (a_dec_at dc_B_flooding 11 rfl) ?_
        exact m_retI (a_dec_at dc_B_flooding 12 rfl) rfl rfl H
set_option maxRecDepth 20000 in
theorem t_B_staying {l : Launch} {h : Nat} (mi : TMi) (ml : TMl) (z : Nat) (a1 : Int32) (a2 : Int32) {Q : Int32 → TMi → TMl → Nat → Prop} (H : CI l h m_La_hasBeck [.ref 18, .int a1] mi ml z (fun x1 mi1 ml1 z1 => ((x1 = 0 → Q (-2) mi1 ml1 z1) ∧ (¬ x1 = 0 → ((a2 = 0 → CV l h m_Su_chanceOfStaying [.ref 75, .ref 17, .int a1] mi1 ml1 z1 (fun mi4 ml4 z4 => ((¬ a2 = 0 → Q (mi4 75 6) mi4 ml4 z4) ∧ (a2 = 0 → Q (mi4 75 5) mi4 ml4 z4)))) ∧ (¬ a2 = 0 → ((a2 = 1 → CV l h m_Su_chanceOfStaying [.ref 75, .ref 17, .int a1] mi1 ml1 z1 (fun mi7 ml7 z7 => ((¬ a2 = 0 → Q (mi7 75 6) mi7 ml7 z7) ∧ (a2 = 0 → Q (mi7 75 5) mi7 ml7 z7)))) ∧ (¬ a2 = 1 → Q (-2) mi1 ml1 z1)))))))) : CI l (h + 1) m_B_staying [.ref 1, .int a1, .int a2] mi ml z Q := by
  show Ev l (h + 1) m_B_staying 0 ([.ref 1, .int a1, .int a2], [], st mi ml z) (qI Q)
  refine ev_aload_n (i := 0) rfl rfl (a_dec_at dc_B_staying 0 rfl) ?_
  refine m_getR (y := 17) fl_B_54 rfl sh1 (mr_1_8 _) (by decide) (a_dec_at dc_B_staying 1 rfl) ?_
  refine m_getR (y := 18) fl_B_58 rfl sh17 (mr_17_0 _) (by decide) (a_dec_at dc_B_staying 2 rfl) ?_
  refine ev_iload_n (i := 1) rfl rfl (a_dec_at dc_B_staying 3 rfl) ?_
  refine cV1I cs_B_149 sh18 rfl (Nat.le_of_ble_eq_true rfl) (Nat.le_of_ble_eq_true rfl) (a_dec_at dc_B_staying 4 rfl) ?_
  refine CI.mono (fun x1 mi1 ml1 z1 H => ?_) H
  refine ev_if_eq (tgt := 23) (a_dec_at dc_B_staying 5 rfl) (by decide) (fun b2 => ?_) (fun b2 => ?_)
  · have H := H.1 b2
    refine ev_bipush (v := (-2)) rfl (a_dec_at dc_B_staying 11 rfl) ?_
    exact m_retI (a_dec_at dc_B_staying 12 rfl) rfl rfl H
  · have H := H.2 b2
    refine ev_iload_n (i := 2) rfl rfl (a_dec_at dc_B_staying 6 rfl) ?_
    refine ev_if_eq (tgt := 26) (a_dec_at dc_B_staying 7 rfl) (by decide) (fun b3 => ?_) (fun b3 => ?_)
    · have H := H.1 b3
      refine ev_aload_n (i := 0) rfl rfl (a_dec_at dc_B_staying 13 rfl) ?_
      refine m_getR (y := 75) fl_B_107 rfl sh1 (mr_1_16 _) (by decide) (a_dec_at dc_B_staying 14 rfl) ?_
      refine ev_aload_n (i := 0) rfl rfl (a_dec_at dc_B_staying 15 rfl) ?_
      refine m_getR (y := 17) fl_B_54 rfl sh1 (mr_1_8 _) (by decide) (a_dec_at dc_B_staying 16 rfl) ?_
      refine ev_iload_n (i := 1) rfl rfl (a_dec_at dc_B_staying 17 rfl) ?_
      refine cV2V cs_B_389 sh75 rfl (Nat.le_of_ble_eq_true rfl) (Nat.le_of_ble_eq_true rfl) (a_dec_at dc_B_staying 18 rfl) ?_
      refine CV.mono (fun mi4 ml4 z4 H => ?_) H
      refine ev_iload_n (i := 2) rfl rfl (a_dec_at dc_B_staying 19 rfl) ?_
      refine ev_if_ne (tgt := 52) (a_dec_at dc_B_staying 20 rfl) (by decide) (fun b5 => ?_) (fun b5 => ?_)
      · have H := H.1 b5
        refine ev_aload_n (i := 0) rfl rfl (a_dec_at dc_B_staying 25 rfl) ?_
        refine m_getR (y := 75) fl_B_107 rfl sh1 (mr_1_16 _) (by decide) (a_dec_at dc_B_staying 26 rfl) ?_
        refine m_getI fl_B_386 rfl sh75 (a_dec_at dc_B_staying 27 rfl) ?_
        exact m_retI (a_dec_at dc_B_staying 28 rfl) rfl rfl H
      · have H := H.2 b5
        refine ev_aload_n (i := 0) rfl rfl (a_dec_at dc_B_staying 21 rfl) ?_
        refine m_getR (y := 75) fl_B_107 rfl sh1 (mr_1_16 _) (by decide) (a_dec_at dc_B_staying 22 rfl) ?_
        refine m_getI fl_B_383 rfl sh75 (a_dec_at dc_B_staying 23 rfl) ?_
        refine ev_goto (tgt := 59) (a_dec_at dc_B_staying 24 rfl) (by decide) ?_
        exact m_retI (a_dec_at dc_B_staying 28 rfl) rfl rfl H
    · have H := H.2 b3
      refine ev_iload_n (i := 2) rfl rfl (a_dec_at dc_B_staying 8 rfl) ?_
      refine ev_iconst (v := 1) rfl (a_dec_at dc_B_staying 9 rfl) ?_
      refine ev_icmp_eq (tgt := 26) (a_dec_at dc_B_staying 10 rfl) (by decide) (fun b6 => ?_) (fun b6 => ?_)
      · have H := H.1 b6
        refine ev_aload_n (i := 0) rfl rfl (a_dec_at dc_B_staying 13 rfl) ?_
        refine m_getR (y := 75) fl_B_107 rfl sh1 (mr_1_16 _) (by decide) (a_dec_at dc_B_staying 14 rfl) ?_
        refine ev_aload_n (i := 0) rfl rfl (a_dec_at dc_B_staying 15 rfl) ?_
        refine m_getR (y := 17) fl_B_54 rfl sh1 (mr_1_8 _) (by decide) (a_dec_at dc_B_staying 16 rfl) ?_
        refine ev_iload_n (i := 1) rfl rfl (a_dec_at dc_B_staying 17 rfl) ?_
        refine cV2V cs_B_389 sh75 rfl (Nat.le_of_ble_eq_true rfl) (Nat.le_of_ble_eq_true rfl) (a_dec_at dc_B_staying 18 rfl) ?_
        refine CV.mono (fun mi7 ml7 z7 H => ?_) H
        refine ev_iload_n (i := 2) rfl rfl (a_dec_at dc_B_staying 19 rfl) ?_
        refine ev_if_ne (tgt := 52) (a_dec_at dc_B_staying 20 rfl) (by decide) (fun b8 => ?_) (fun b8 => ?_)
        · have H := H.1 b8
          refine ev_aload_n (i := 0) rfl rfl (a_dec_at dc_B_staying 25 rfl) ?_
          refine m_getR (y := 75) fl_B_107 rfl sh1 (mr_1_16 _) (by decide) (a_dec_at dc_B_staying 26 rfl) ?_
          refine m_getI fl_B_386 rfl sh75 (a_dec_at dc_B_staying 27 rfl) ?_
          exact m_retI (a_dec_at dc_B_staying 28 rfl) rfl rfl H
        · have H := H.2 b8
          refine ev_aload_n (i := 0) rfl rfl (a_dec_at dc_B_staying 21 rfl) ?_
          refine m_getR (y := 75) fl_B_107 rfl sh1 (mr_1_16 _) (by decide) (a_dec_at dc_B_staying 22 rfl) ?_
          refine m_getI fl_B_383 rfl sh75 (a_dec_at dc_B_staying 23 rfl) ?_
          refine ev_goto (tgt := 59) (a_dec_at dc_B_staying 24 rfl) (by decide) ?_
          exact m_retI (a_dec_at dc_B_staying 28 rfl) rfl rfl H
      · have H := H.2 b6
        refine ev_bipush (v := (-2)) rfl (a_dec_at dc_B_staying 11 rfl) ?_
        exact m_retI (a_dec_at dc_B_staying 12 rfl) rfl rfl H
set_option maxRecDepth 20000 in
theorem t_B_numbers {l : Launch} {h : Nat} (mi : TMi) (ml : TMl) (z : Nat) (a1 : Int32) (a2 : Int32) (a3 : Int32) {Q : Int32 → TMi → TMl → Nat → Prop} (H : CI l h m_B_isTray [.int a1] mi ml z (fun x1 mi1 ml1 z1 => ((x1 = 0 → Q (-2) mi1 ml1 z1) ∧ (¬ x1 = 0 → ((a2 < 0 → Q (-2) mi1 ml1 z1) ∧ (¬ a2 < 0 → ((a2 < 4 → ((a3 < 0 → Q (-3) mi1 ml1 z1) ∧ (¬ a3 < 0 → ((a3 ≤ 40 → (vp_in a1 4) ∧ (0 < (MR z1 78 a1.toNatClampNeg) ∧ (MR z1 78 a1.toNatClampNeg) < 1000) ∧ (SH[(MR z1 78 a1.toNatClampNeg)]? = some (.inl 9)) ∧ CV l h m_Tr_make [.ref (MR z1 78 a1.toNatClampNeg), .int a2, .int a3] mi1 ml1 z1 (fun mi10 ml10 z10 => Q 0 mi10 ml10 z10)) ∧ (¬ a3 ≤ 40 → Q (-3) mi1 ml1 z1))))) ∧ (¬ a2 < 4 → Q (-2) mi1 ml1 z1)))))))) : CI l (h + 1) m_B_numbers [.ref 1, .int a1, .int a2, .int a3] mi ml z Q := by
  show Ev l (h + 1) m_B_numbers 0 ([.ref 1, .int a1, .int a2, .int a3], [], st mi ml z) (qI Q)
  refine ev_iload_n (i := 1) rfl rfl (a_dec_at dc_B_numbers 0 rfl) ?_
  refine cS1I cs_B_245 rfl (Nat.le_of_ble_eq_true rfl) (Nat.le_of_ble_eq_true rfl) (a_dec_at dc_B_numbers 1 rfl) ?_
  refine CI.mono (fun x1 mi1 ml1 z1 H => ?_) H
  refine ev_if_eq (tgt := 16) (a_dec_at dc_B_numbers 2 rfl) (by decide) (fun b2 => ?_) (fun b2 => ?_)
  · have H := H.1 b2
    refine ev_bipush (v := (-2)) rfl (a_dec_at dc_B_numbers 8 rfl) ?_
    exact m_retI (a_dec_at dc_B_numbers 9 rfl) rfl rfl H
  · have H := H.2 b2
    refine ev_iload_n (i := 2) rfl rfl (a_dec_at dc_B_numbers 3 rfl) ?_
    refine ev_if_lt (tgt := 16) (a_dec_at dc_B_numbers 4 rfl) (by decide) (fun b3 => ?_) (fun b3 => ?_)
    · have H := H.1 b3
      refine ev_bipush (v := (-2)) rfl (a_dec_at dc_B_numbers 8 rfl) ?_
      exact m_retI (a_dec_at dc_B_numbers 9 rfl) rfl rfl H
    · have H := H.2 b3
      refine ev_iload_n (i := 2) rfl rfl (a_dec_at dc_B_numbers 5 rfl) ?_
      refine ev_iconst (v := 4) rfl (a_dec_at dc_B_numbers 6 rfl) ?_
      refine ev_icmp_lt (tgt := 19) (a_dec_at dc_B_numbers 7 rfl) (by decide) (fun b4 => ?_) (fun b4 => ?_)
      · have H := H.1 b4
        refine ev_iload_n (i := 3) rfl rfl (a_dec_at dc_B_numbers 10 rfl) ?_
        refine ev_if_lt (tgt := 29) (a_dec_at dc_B_numbers 11 rfl) (by decide) (fun b5 => ?_) (fun b5 => ?_)
        · have H := H.1 b5
          refine ev_bipush (v := (-3)) rfl (a_dec_at dc_B_numbers 15 rfl) ?_
          exact m_retI (a_dec_at dc_B_numbers 16 rfl) rfl rfl H
        · have H := H.2 b5
          refine ev_iload_n (i := 3) rfl rfl (a_dec_at dc_B_numbers 12 rfl) ?_
          refine ev_bipush (v := 40) rfl (a_dec_at dc_B_numbers 13 rfl) ?_
          refine ev_icmp_le (tgt := 32) (a_dec_at dc_B_numbers 14 rfl) (by decide) (fun b6 => ?_) (fun b6 => ?_)
          · have H := H.1 b6
            refine ev_aload_n (i := 0) rfl rfl (a_dec_at dc_B_numbers 17 rfl) ?_
            refine m_getR (y := 78) fl_B_113 rfl sh1 (mr_1_17 _) (by decide) (a_dec_at dc_B_numbers 18 rfl) ?_
            refine ev_iload_n (i := 1) rfl rfl (a_dec_at dc_B_numbers 19 rfl) ?_
            obtain ⟨c7, H⟩ := H
            obtain ⟨c8, H⟩ := H
            refine w_aald (k := a1.toNatClampNeg) (y := (MR z1 78 a1.toNatClampNeg)) (by decide) sh78 c7 rfl rfl c8 (a_dec_at dc_B_numbers 20 rfl) ?_
            refine ev_iload_n (i := 2) rfl rfl (a_dec_at dc_B_numbers 21 rfl) ?_
            refine ev_iload_n (i := 3) rfl rfl (a_dec_at dc_B_numbers 22 rfl) ?_
            obtain ⟨c9, H⟩ := H
            refine cV2V cs_B_392 c9 rfl (Nat.le_of_ble_eq_true rfl) (Nat.le_of_ble_eq_true rfl) (a_dec_at dc_B_numbers 23 rfl) ?_
            refine CV.mono (fun mi10 ml10 z10 H => ?_) H
            refine ev_iconst (v := 0) rfl (a_dec_at dc_B_numbers 24 rfl) ?_
            exact m_retI (a_dec_at dc_B_numbers 25 rfl) rfl rfl H
          · have H := H.2 b6
            refine ev_bipush (v := (-3)) rfl (a_dec_at dc_B_numbers 15 rfl) ?_
            exact m_retI (a_dec_at dc_B_numbers 16 rfl) rfl rfl H
      · have H := H.2 b4
        refine ev_bipush (v := (-2)) rfl (a_dec_at dc_B_numbers 8 rfl) ?_
        exact m_retI (a_dec_at dc_B_numbers 9 rfl) rfl rfl H
set_option maxRecDepth 20000 in
theorem t_B_write {l : Launch} {h : Nat} (mi : TMi) (ml : TMl) (z : Nat) (a1 : Int32) (a2 : Int32) (a3 : Int64) {Q : Int64 → TMi → TMl → Nat → Prop} (H : CI l h m_B_isTray [.int a1] mi ml z (fun x1 mi1 ml1 z1 => ((¬ x1 = 0 → (vp_in a1 4) ∧ (0 < (MR z1 78 a1.toNatClampNeg) ∧ (MR z1 78 a1.toNatClampNeg) < 1000) ∧ (SH[(MR z1 78 a1.toNatClampNeg)]? = some (.inl 9)) ∧ CI l h m_Tr_missing [.ref (MR z1 78 a1.toNatClampNeg)] mi1 ml1 z1 (fun x6 mi6 ml6 z6 => ((x6 = 0 → (vp_in a1 4) ∧ (0 < (MR z6 78 a1.toNatClampNeg) ∧ (MR z6 78 a1.toNatClampNeg) < 1000) ∧ (SH[(MR z6 78 a1.toNatClampNeg)]? = some (.inl 9)) ∧ CI l h m_Tr_hasPlace [.ref (MR z6 78 a1.toNatClampNeg), .int a2] mi6 ml6 z6 (fun x11 mi11 ml11 z11 => ((x11 = 0 → Q (-7) mi11 ml11 z11) ∧ (¬ x11 = 0 → (vp_in a1 4) ∧ (0 < (MR z11 78 a1.toNatClampNeg) ∧ (MR z11 78 a1.toNatClampNeg) < 1000) ∧ (SH[(MR z11 78 a1.toNatClampNeg)]? = some (.inl 9)) ∧ CLg l h m_Tr_put [.ref (MR z11 78 a1.toNatClampNeg), .int a2, .long a3] mi11 ml11 z11 (fun x16 mi16 ml16 z16 => Q x16 mi16 ml16 z16))))) ∧ (¬ x6 = 0 → Q (-6) mi6 ml6 z6)))) ∧ (x1 = 0 → Q (-2) mi1 ml1 z1)))) : CLg l (h + 1) m_B_write [.ref 1, .int a1, .int a2, .long a3] mi ml z Q := by
  show Ev l (h + 1) m_B_write 0 ([.ref 1, .int a1, .int a2, .long a3, .retAddr 0], [], st mi ml z) (qL Q)
  refine ev_iload_n (i := 1) rfl rfl (a_dec_at dc_B_write 0 rfl) ?_
  refine cS1I cs_B_245 rfl (Nat.le_of_ble_eq_true rfl) (Nat.le_of_ble_eq_true rfl) (a_dec_at dc_B_write 1 rfl) ?_
  refine CI.mono (fun x1 mi1 ml1 z1 H => ?_) H
  refine ev_if_ne (tgt := 11) (a_dec_at dc_B_write 2 rfl) (by decide) (fun b2 => ?_) (fun b2 => ?_)
  · have H := H.1 b2
    refine ev_aload_n (i := 0) rfl rfl (a_dec_at dc_B_write 5 rfl) ?_
    refine m_getR (y := 78) fl_B_113 rfl sh1 (mr_1_17 _) (by decide) (a_dec_at dc_B_write 6 rfl) ?_
    refine ev_iload_n (i := 1) rfl rfl (a_dec_at dc_B_write 7 rfl) ?_
    obtain ⟨c3, H⟩ := H
    obtain ⟨c4, H⟩ := H
    refine w_aald (k := a1.toNatClampNeg) (y := (MR z1 78 a1.toNatClampNeg)) (by decide) sh78 c3 rfl rfl c4 (a_dec_at dc_B_write 8 rfl) ?_
    obtain ⟨c5, H⟩ := H
    refine cV0I cs_B_248 c5 rfl (Nat.le_of_ble_eq_true rfl) (Nat.le_of_ble_eq_true rfl) (a_dec_at dc_B_write 9 rfl) ?_
    refine CI.mono (fun x6 mi6 ml6 z6 H => ?_) H
    refine ev_if_eq (tgt := 27) (a_dec_at dc_B_write 10 rfl) (by decide) (fun b7 => ?_) (fun b7 => ?_)
    · have H := H.1 b7
      refine ev_aload_n (i := 0) rfl rfl (a_dec_at dc_B_write 13 rfl) ?_
      refine m_getR (y := 78) fl_B_113 rfl sh1 (mr_1_17 _) (by decide) (a_dec_at dc_B_write 14 rfl) ?_
      refine ev_iload_n (i := 1) rfl rfl (a_dec_at dc_B_write 15 rfl) ?_
      obtain ⟨c8, H⟩ := H
      obtain ⟨c9, H⟩ := H
      refine w_aald (k := a1.toNatClampNeg) (y := (MR z6 78 a1.toNatClampNeg)) (by decide) sh78 c8 rfl rfl c9 (a_dec_at dc_B_write 16 rfl) ?_
      refine ev_iload_n (i := 2) rfl rfl (a_dec_at dc_B_write 17 rfl) ?_
      obtain ⟨c10, H⟩ := H
      refine cV1I cs_B_400 c10 rfl (Nat.le_of_ble_eq_true rfl) (Nat.le_of_ble_eq_true rfl) (a_dec_at dc_B_write 18 rfl) ?_
      refine CI.mono (fun x11 mi11 ml11 z11 H => ?_) H
      refine ev_if_eq (tgt := 54) (a_dec_at dc_B_write 19 rfl) (by decide) (fun b12 => ?_) (fun b12 => ?_)
      · have H := H.1 b12
        refine ev_ldc2 kc_B_407 (a_dec_at dc_B_write 28 rfl) ?_
        exact m_retL (a_dec_at dc_B_write 29 rfl) rfl H
      · have H := H.2 b12
        refine ev_aload_n (i := 0) rfl rfl (a_dec_at dc_B_write 20 rfl) ?_
        refine m_getR (y := 78) fl_B_113 rfl sh1 (mr_1_17 _) (by decide) (a_dec_at dc_B_write 21 rfl) ?_
        refine ev_iload_n (i := 1) rfl rfl (a_dec_at dc_B_write 22 rfl) ?_
        obtain ⟨c13, H⟩ := H
        obtain ⟨c14, H⟩ := H
        refine w_aald (k := a1.toNatClampNeg) (y := (MR z11 78 a1.toNatClampNeg)) (by decide) sh78 c13 rfl rfl c14 (a_dec_at dc_B_write 23 rfl) ?_
        refine ev_iload_n (i := 2) rfl rfl (a_dec_at dc_B_write 24 rfl) ?_
        refine ev_lload_n (i := 3) rfl rfl (a_dec_at dc_B_write 25 rfl) ?_
        obtain ⟨c15, H⟩ := H
        refine cV2L cs_B_403 c15 rfl (Nat.le_of_ble_eq_true rfl) (Nat.le_of_ble_eq_true rfl) (a_dec_at dc_B_write 26 rfl) ?_
        refine CLg.mono (fun x16 mi16 ml16 z16 H => ?_) H
        refine ev_goto (tgt := 57) (a_dec_at dc_B_write 27 rfl) (by decide) ?_
        exact m_retL (a_dec_at dc_B_write 29 rfl) rfl H
    · have H := H.2 b7
      refine ev_ldc2 kc_B_398 (a_dec_at dc_B_write 11 rfl) ?_
      exact m_retL (a_dec_at dc_B_write 12 rfl) rfl H
  · have H := H.2 b2
    refine ev_ldc2 kc_B_396 (a_dec_at dc_B_write 3 rfl) ?_
    exact m_retL (a_dec_at dc_B_write 4 rfl) rfl H
set_option maxRecDepth 20000 in
theorem t_B_lists {l : Launch} {h : Nat} (mi : TMi) (ml : TMl) (z : Nat) (a1 : Int32) (a2 : Int32) {Q : Int32 → TMi → TMl → Nat → Prop} (H : CI l h m_B_isTray [.int a1] mi ml z (fun x1 mi1 ml1 z1 => ((x1 = 0 → Q (-2) mi1 ml1 z1) ∧ (¬ x1 = 0 → ((a2 = 0 → (vp_in a1 4) ∧ (0 < (MR z1 78 a1.toNatClampNeg) ∧ (MR z1 78 a1.toNatClampNeg) < 1000) ∧ (SH[(MR z1 78 a1.toNatClampNeg)]? = some (.inl 9)) ∧ CI l h m_Tr_missing [.ref (MR z1 78 a1.toNatClampNeg)] mi1 ml1 z1 (fun x7 mi7 ml7 z7 => ((x7 = 0 → ((¬ a2 = 0 → CV l h m_Ma_bestForRivers [.ref 55, .ref 17] mi7 ml7 z7 (fun mi10 ml10 z10 => (vp_in a1 4) ∧ (0 < (MR z10 78 a1.toNatClampNeg) ∧ (MR z10 78 a1.toNatClampNeg) < 1000) ∧ (SH[(MR z10 78 a1.toNatClampNeg)]? = some (.inl 9)) ∧ Ev l (h + 1) m_B_lists 99 ([.ref 1, .int a1, .retAddr 0, .int (if (mi10 (MR z10 78 a1.toNatClampNeg) 2) > (mi10 18 0) then mi10 18 0 else mi10 (MR z10 78 a1.toNatClampNeg) 2), .int 0], [], st mi10 ml10 z10) (qI Q))) ∧ (a2 = 0 → CI l h m_La_allBecks [.ref 18] mi7 ml7 z7 (fun x14 mi14 ml14 z14 => CV l h m_Ma_bestForBecks [.ref 55, .ref 17, .int x14] mi14 ml14 z14 (fun mi15 ml15 z15 => (vp_in a1 4) ∧ (0 < (MR z15 78 a1.toNatClampNeg) ∧ (MR z15 78 a1.toNatClampNeg) < 1000) ∧ (SH[(MR z15 78 a1.toNatClampNeg)]? = some (.inl 9)) ∧ Ev l (h + 1) m_B_lists 99 ([.ref 1, .int a1, .retAddr 0, .int (if (mi15 (MR z15 78 a1.toNatClampNeg) 2) > (mi15 18 0) then mi15 18 0 else mi15 (MR z15 78 a1.toNatClampNeg) 2), .int 0], [], st mi15 ml15 z15) (qI Q)))))) ∧ (¬ x7 = 0 → Q (-6) mi7 ml7 z7)))) ∧ (¬ a2 = 0 → ((a2 = 1 → (vp_in a1 4) ∧ (0 < (MR z1 78 a1.toNatClampNeg) ∧ (MR z1 78 a1.toNatClampNeg) < 1000) ∧ (SH[(MR z1 78 a1.toNatClampNeg)]? = some (.inl 9)) ∧ CI l h m_Tr_missing [.ref (MR z1 78 a1.toNatClampNeg)] mi1 ml1 z1 (fun x23 mi23 ml23 z23 => ((x23 = 0 → ((¬ a2 = 0 → CV l h m_Ma_bestForRivers [.ref 55, .ref 17] mi23 ml23 z23 (fun mi26 ml26 z26 => (vp_in a1 4) ∧ (0 < (MR z26 78 a1.toNatClampNeg) ∧ (MR z26 78 a1.toNatClampNeg) < 1000) ∧ (SH[(MR z26 78 a1.toNatClampNeg)]? = some (.inl 9)) ∧ Ev l (h + 1) m_B_lists 99 ([.ref 1, .int a1, .retAddr 0, .int (if (mi26 (MR z26 78 a1.toNatClampNeg) 2) > (mi26 18 0) then mi26 18 0 else mi26 (MR z26 78 a1.toNatClampNeg) 2), .int 0], [], st mi26 ml26 z26) (qI Q))) ∧ (a2 = 0 → CI l h m_La_allBecks [.ref 18] mi23 ml23 z23 (fun x30 mi30 ml30 z30 => CV l h m_Ma_bestForBecks [.ref 55, .ref 17, .int x30] mi30 ml30 z30 (fun mi31 ml31 z31 => (vp_in a1 4) ∧ (0 < (MR z31 78 a1.toNatClampNeg) ∧ (MR z31 78 a1.toNatClampNeg) < 1000) ∧ (SH[(MR z31 78 a1.toNatClampNeg)]? = some (.inl 9)) ∧ Ev l (h + 1) m_B_lists 99 ([.ref 1, .int a1, .retAddr 0, .int (if (mi31 (MR z31 78 a1.toNatClampNeg) 2) > (mi31 18 0) then mi31 18 0 else mi31 (MR z31 78 a1.toNatClampNeg) 2), .int 0], [], st mi31 ml31 z31) (qI Q)))))) ∧ (¬ x23 = 0 → Q (-6) mi23 ml23 z23)))) ∧ (¬ a2 = 1 → Q (-2) mi1 ml1 z1)))))))) : CI l (h + 1) m_B_lists [.ref 1, .int a1, .int a2] mi ml z Q := by
  show Ev l (h + 1) m_B_lists 0 ([.ref 1, .int a1, .int a2, .retAddr 0, .retAddr 0], [], st mi ml z) (qI Q)
  refine ev_iload_n (i := 1) rfl rfl (a_dec_at dc_B_lists 0 rfl) ?_
  refine cS1I cs_B_245 rfl (Nat.le_of_ble_eq_true rfl) (Nat.le_of_ble_eq_true rfl) (a_dec_at dc_B_lists 1 rfl) ?_
  refine CI.mono (fun x1 mi1 ml1 z1 H => ?_) H
  refine ev_if_eq (tgt := 16) (a_dec_at dc_B_lists 2 rfl) (by decide) (fun b2 => ?_) (fun b2 => ?_)
  · have H := H.1 b2
    refine ev_bipush (v := (-2)) rfl (a_dec_at dc_B_lists 8 rfl) ?_
    exact m_retI (a_dec_at dc_B_lists 9 rfl) rfl rfl H
  · have H := H.2 b2
    refine ev_iload_n (i := 2) rfl rfl (a_dec_at dc_B_lists 3 rfl) ?_
    refine ev_if_eq (tgt := 19) (a_dec_at dc_B_lists 4 rfl) (by decide) (fun b3 => ?_) (fun b3 => ?_)
    · have H := H.1 b3
      refine ev_aload_n (i := 0) rfl rfl (a_dec_at dc_B_lists 10 rfl) ?_
      refine m_getR (y := 78) fl_B_113 rfl sh1 (mr_1_17 _) (by decide) (a_dec_at dc_B_lists 11 rfl) ?_
      refine ev_iload_n (i := 1) rfl rfl (a_dec_at dc_B_lists 12 rfl) ?_
      obtain ⟨c4, H⟩ := H
      obtain ⟨c5, H⟩ := H
      refine w_aald (k := a1.toNatClampNeg) (y := (MR z1 78 a1.toNatClampNeg)) (by decide) sh78 c4 rfl rfl c5 (a_dec_at dc_B_lists 13 rfl) ?_
      obtain ⟨c6, H⟩ := H
      refine cV0I cs_B_248 c6 rfl (Nat.le_of_ble_eq_true rfl) (Nat.le_of_ble_eq_true rfl) (a_dec_at dc_B_lists 14 rfl) ?_
      refine CI.mono (fun x7 mi7 ml7 z7 H => ?_) H
      refine ev_if_eq (tgt := 34) (a_dec_at dc_B_lists 15 rfl) (by decide) (fun b8 => ?_) (fun b8 => ?_)
      · have H := H.1 b8
        refine ev_iload_n (i := 2) rfl rfl (a_dec_at dc_B_lists 18 rfl) ?_
        refine ev_if_ne (tgt := 62) (a_dec_at dc_B_lists 19 rfl) (by decide) (fun b9 => ?_) (fun b9 => ?_)
        · have H := H.1 b9
          refine ev_aload_n (i := 0) rfl rfl (a_dec_at dc_B_lists 30 rfl) ?_
          refine m_getR (y := 55) fl_B_82 rfl sh1 (mr_1_13 _) (by decide) (a_dec_at dc_B_lists 31 rfl) ?_
          refine ev_aload_n (i := 0) rfl rfl (a_dec_at dc_B_lists 32 rfl) ?_
          refine m_getR (y := 17) fl_B_54 rfl sh1 (mr_1_8 _) (by decide) (a_dec_at dc_B_lists 33 rfl) ?_
          refine cV1V cs_B_316 sh55 rfl (Nat.le_of_ble_eq_true rfl) (Nat.le_of_ble_eq_true rfl) (a_dec_at dc_B_lists 34 rfl) ?_
          refine CV.mono (fun mi10 ml10 z10 H => ?_) H
          refine ev_aload_n (i := 0) rfl rfl (a_dec_at dc_B_lists 35 rfl) ?_
          refine m_getR (y := 78) fl_B_113 rfl sh1 (mr_1_17 _) (by decide) (a_dec_at dc_B_lists 36 rfl) ?_
          refine ev_iload_n (i := 1) rfl rfl (a_dec_at dc_B_lists 37 rfl) ?_
          obtain ⟨c11, H⟩ := H
          obtain ⟨c12, H⟩ := H
          refine w_aald (k := a1.toNatClampNeg) (y := (MR z10 78 a1.toNatClampNeg)) (by decide) sh78 c11 rfl rfl c12 (a_dec_at dc_B_lists 38 rfl) ?_
          obtain ⟨c13, H⟩ := H
          refine m_getI fl_B_259 rfl c13 (a_dec_at dc_B_lists 39 rfl) ?_
          refine ev_aload_n (i := 0) rfl rfl (a_dec_at dc_B_lists 40 rfl) ?_
          refine m_getR (y := 17) fl_B_54 rfl sh1 (mr_1_8 _) (by decide) (a_dec_at dc_B_lists 41 rfl) ?_
          refine m_getR (y := 18) fl_B_58 rfl sh17 (mr_17_0 _) (by decide) (a_dec_at dc_B_lists 42 rfl) ?_
          refine m_getI fl_B_292 rfl sh18 (a_dec_at dc_B_lists 43 rfl) ?_
          refine w_mmin cs_B_409 (Nat.le_of_ble_eq_true rfl) (a_dec_at dc_B_lists 44 rfl) ?_
          refine ev_istore_n (i := 3) rfl (by decide) rfl (a_dec_at dc_B_lists 45 rfl) ?_
          refine ev_iconst (v := 0) rfl (a_dec_at dc_B_lists 46 rfl) ?_
          refine ev_istore (by decide) rfl (a_dec_at dc_B_lists 47 rfl) ?_
          exact Ev.drop (L' := [.ref 1, .int a1, .retAddr 0, .int (if (mi10 (MR z10 78 a1.toNatClampNeg) 2) > (mi10 18 0) then mi10 18 0 else mi10 (MR z10 78 a1.toNatClampNeg) 2), .int 0]) (And.intro rfl (And.intro rfl (And.intro rfl (And.intro rfl trivial)))) H
        · have H := H.2 b9
          refine ev_aload_n (i := 0) rfl rfl (a_dec_at dc_B_lists 20 rfl) ?_
          refine m_getR (y := 55) fl_B_82 rfl sh1 (mr_1_13 _) (by decide) (a_dec_at dc_B_lists 21 rfl) ?_
          refine ev_aload_n (i := 0) rfl rfl (a_dec_at dc_B_lists 22 rfl) ?_
          refine m_getR (y := 17) fl_B_54 rfl sh1 (mr_1_8 _) (by decide) (a_dec_at dc_B_lists 23 rfl) ?_
          refine ev_aload_n (i := 0) rfl rfl (a_dec_at dc_B_lists 24 rfl) ?_
          refine m_getR (y := 17) fl_B_54 rfl sh1 (mr_1_8 _) (by decide) (a_dec_at dc_B_lists 25 rfl) ?_
          refine m_getR (y := 18) fl_B_58 rfl sh17 (mr_17_0 _) (by decide) (a_dec_at dc_B_lists 26 rfl) ?_
          refine cV0I cs_B_306 sh18 rfl (Nat.le_of_ble_eq_true rfl) (Nat.le_of_ble_eq_true rfl) (a_dec_at dc_B_lists 27 rfl) ?_
          refine CI.mono (fun x14 mi14 ml14 z14 H => ?_) H
          refine cV2V cs_B_309 sh55 rfl (Nat.le_of_ble_eq_true rfl) (Nat.le_of_ble_eq_true rfl) (a_dec_at dc_B_lists 28 rfl) ?_
          refine CV.mono (fun mi15 ml15 z15 H => ?_) H
          refine ev_goto (tgt := 73) (a_dec_at dc_B_lists 29 rfl) (by decide) ?_
          refine ev_aload_n (i := 0) rfl rfl (a_dec_at dc_B_lists 35 rfl) ?_
          refine m_getR (y := 78) fl_B_113 rfl sh1 (mr_1_17 _) (by decide) (a_dec_at dc_B_lists 36 rfl) ?_
          refine ev_iload_n (i := 1) rfl rfl (a_dec_at dc_B_lists 37 rfl) ?_
          obtain ⟨c16, H⟩ := H
          obtain ⟨c17, H⟩ := H
          refine w_aald (k := a1.toNatClampNeg) (y := (MR z15 78 a1.toNatClampNeg)) (by decide) sh78 c16 rfl rfl c17 (a_dec_at dc_B_lists 38 rfl) ?_
          obtain ⟨c18, H⟩ := H
          refine m_getI fl_B_259 rfl c18 (a_dec_at dc_B_lists 39 rfl) ?_
          refine ev_aload_n (i := 0) rfl rfl (a_dec_at dc_B_lists 40 rfl) ?_
          refine m_getR (y := 17) fl_B_54 rfl sh1 (mr_1_8 _) (by decide) (a_dec_at dc_B_lists 41 rfl) ?_
          refine m_getR (y := 18) fl_B_58 rfl sh17 (mr_17_0 _) (by decide) (a_dec_at dc_B_lists 42 rfl) ?_
          refine m_getI fl_B_292 rfl sh18 (a_dec_at dc_B_lists 43 rfl) ?_
          refine w_mmin cs_B_409 (Nat.le_of_ble_eq_true rfl) (a_dec_at dc_B_lists 44 rfl) ?_
          refine ev_istore_n (i := 3) rfl (by decide) rfl (a_dec_at dc_B_lists 45 rfl) ?_
          refine ev_iconst (v := 0) rfl (a_dec_at dc_B_lists 46 rfl) ?_
          refine ev_istore (by decide) rfl (a_dec_at dc_B_lists 47 rfl) ?_
          exact Ev.drop (L' := [.ref 1, .int a1, .retAddr 0, .int (if (mi15 (MR z15 78 a1.toNatClampNeg) 2) > (mi15 18 0) then mi15 18 0 else mi15 (MR z15 78 a1.toNatClampNeg) 2), .int 0]) (And.intro rfl (And.intro rfl (And.intro rfl (And.intro rfl trivial)))) H
      · have H := H.2 b8
        refine ev_bipush (v := (-6)) rfl (a_dec_at dc_B_lists 16 rfl) ?_
        exact m_retI (a_dec_at dc_B_lists 17 rfl) rfl rfl H
    · have H := H.2 b3
      refine ev_iload_n (i := 2) rfl rfl (a_dec_at dc_B_lists 5 rfl) ?_
      refine ev_iconst (v := 1) rfl (a_dec_at dc_B_lists 6 rfl) ?_
      refine ev_icmp_eq (tgt := 19) (a_dec_at dc_B_lists 7 rfl) (by decide) (fun b19 => ?_) (fun b19 => ?_)
      · have H := H.1 b19
        refine ev_aload_n (i := 0) rfl rfl (a_dec_at dc_B_lists 10 rfl) ?_
        refine m_getR (y := 78) fl_B_113 rfl sh1 (mr_1_17 _) (by decide) (a_dec_at dc_B_lists 11 rfl) ?_
        refine ev_iload_n (i := 1) rfl rfl (a_dec_at dc_B_lists 12 rfl) ?_
        obtain ⟨c20, H⟩ := H
        obtain ⟨c21, H⟩ := H
        refine w_aald (k := a1.toNatClampNeg) (y := (MR z1 78 a1.toNatClampNeg)) (by decide) sh78 c20 rfl rfl c21 (a_dec_at dc_B_lists 13 rfl) ?_
        obtain ⟨c22, H⟩ := H
        refine cV0I cs_B_248 c22 rfl (Nat.le_of_ble_eq_true rfl) (Nat.le_of_ble_eq_true rfl) (a_dec_at dc_B_lists 14 rfl) ?_
        refine CI.mono (fun x23 mi23 ml23 z23 H => ?_) H
        refine ev_if_eq (tgt := 34) (a_dec_at dc_B_lists 15 rfl) (by decide) (fun b24 => ?_) (fun b24 => ?_)
        · have H := H.1 b24
          refine ev_iload_n (i := 2) rfl rfl (a_dec_at dc_B_lists 18 rfl) ?_
          refine ev_if_ne (tgt := 62) (a_dec_at dc_B_lists 19 rfl) (by decide) (fun b25 => ?_) (fun b25 => ?_)
          · have H := H.1 b25
            refine ev_aload_n (i := 0) rfl rfl (a_dec_at dc_B_lists 30 rfl) ?_
            refine m_getR (y := 55) fl_B_82 rfl sh1 (mr_1_13 _) (by decide) (a_dec_at dc_B_lists 31 rfl) ?_
            refine ev_aload_n (i := 0) rfl rfl (a_dec_at dc_B_lists 32 rfl) ?_
            refine m_getR (y := 17) fl_B_54 rfl sh1 (mr_1_8 _) (by decide) (a_dec_at dc_B_lists 33 rfl) ?_
            refine cV1V cs_B_316 sh55 rfl (Nat.le_of_ble_eq_true rfl) (Nat.le_of_ble_eq_true rfl) (a_dec_at dc_B_lists 34 rfl) ?_
            refine CV.mono (fun mi26 ml26 z26 H => ?_) H
            refine ev_aload_n (i := 0) rfl rfl (a_dec_at dc_B_lists 35 rfl) ?_
            refine m_getR (y := 78) fl_B_113 rfl sh1 (mr_1_17 _) (by decide) (a_dec_at dc_B_lists 36 rfl) ?_
            refine ev_iload_n (i := 1) rfl rfl (a_dec_at dc_B_lists 37 rfl) ?_
            obtain ⟨c27, H⟩ := H
            obtain ⟨c28, H⟩ := H
            refine w_aald (k := a1.toNatClampNeg) (y := (MR z26 78 a1.toNatClampNeg)) (by decide) sh78 c27 rfl rfl c28 (a_dec_at dc_B_lists 38 rfl) ?_
            obtain ⟨c29, H⟩ := H
            refine m_getI fl_B_259 rfl c29 (a_dec_at dc_B_lists 39 rfl) ?_
            refine ev_aload_n (i := 0) rfl rfl (a_dec_at dc_B_lists 40 rfl) ?_
            refine m_getR (y := 17) fl_B_54 rfl sh1 (mr_1_8 _) (by decide) (a_dec_at dc_B_lists 41 rfl) ?_
            refine m_getR (y := 18) fl_B_58 rfl sh17 (mr_17_0 _) (by decide) (a_dec_at dc_B_lists 42 rfl) ?_
            refine m_getI fl_B_292 rfl sh18 (a_dec_at dc_B_lists 43 rfl) ?_
            refine w_mmin cs_B_409 (Nat.le_of_ble_eq_true rfl) (a_dec_at dc_B_lists 44 rfl) ?_
            refine ev_istore_n (i := 3) rfl (by decide) rfl (a_dec_at dc_B_lists 45 rfl) ?_
            refine ev_iconst (v := 0) rfl (a_dec_at dc_B_lists 46 rfl) ?_
            refine ev_istore (by decide) rfl (a_dec_at dc_B_lists 47 rfl) ?_
            exact Ev.drop (L' := [.ref 1, .int a1, .retAddr 0, .int (if (mi26 (MR z26 78 a1.toNatClampNeg) 2) > (mi26 18 0) then mi26 18 0 else mi26 (MR z26 78 a1.toNatClampNeg) 2), .int 0]) (And.intro rfl (And.intro rfl (And.intro rfl (And.intro rfl trivial)))) H
          · have H := H.2 b25
            refine ev_aload_n (i := 0) rfl rfl (a_dec_at dc_B_lists 20 rfl) ?_
            refine m_getR (y := 55) fl_B_82 rfl sh1 (mr_1_13 _) (by decide) (a_dec_at dc_B_lists 21 rfl) ?_
            refine ev_aload_n (i := 0) rfl rfl (a_dec_at dc_B_lists 22 rfl) ?_
            refine m_getR (y := 17) fl_B_54 rfl sh1 (mr_1_8 _) (by decide) (a_dec_at dc_B_lists 23 rfl) ?_
            refine ev_aload_n (i := 0) rfl rfl (a_dec_at dc_B_lists 24 rfl) ?_
            refine m_getR (y := 17) fl_B_54 rfl sh1 (mr_1_8 _) (by decide) (a_dec_at dc_B_lists 25 rfl) ?_
            refine m_getR (y := 18) fl_B_58 rfl sh17 (mr_17_0 _) (by decide) (a_dec_at dc_B_lists 26 rfl) ?_
            refine cV0I cs_B_306 sh18 rfl (Nat.le_of_ble_eq_true rfl) (Nat.le_of_ble_eq_true rfl) (a_dec_at dc_B_lists 27 rfl) ?_
            refine CI.mono (fun x30 mi30 ml30 z30 H => ?_) H
            refine cV2V cs_B_309 sh55 rfl (Nat.le_of_ble_eq_true rfl) (Nat.le_of_ble_eq_true rfl) (a_dec_at dc_B_lists 28 rfl) ?_
            refine CV.mono (fun mi31 ml31 z31 H => ?_) H
            refine ev_goto (tgt := 73) (a_dec_at dc_B_lists 29 rfl) (by decide) ?_
            refine ev_aload_n (i := 0) rfl rfl (a_dec_at dc_B_lists 35 rfl) ?_
            refine m_getR (y := 78) fl_B_113 rfl sh1 (mr_1_17 _) (by decide) (a_dec_at dc_B_lists 36 rfl) ?_
            refine ev_iload_n (i := 1) rfl rfl (a_dec_at dc_B_lists 37 rfl) ?_
            obtain ⟨c32, H⟩ := H
            obtain ⟨c33, H⟩ := H
            refine w_aald (k := a1.toNatClampNeg) (y := (MR z31 78 a1.toNatClampNeg)) (by decide) sh78 c32 rfl rfl c33 (a_dec_at dc_B_lists 38 rfl) ?_
            obtain ⟨c34, H⟩ := H
            refine m_getI fl_B_259 rfl c34 (a_dec_at dc_B_lists 39 rfl) ?_
            refine ev_aload_n (i := 0) rfl rfl (a_dec_at dc_B_lists 40 rfl) ?_
            refine m_getR (y := 17) fl_B_54 rfl sh1 (mr_1_8 _) (by decide) (a_dec_at dc_B_lists 41 rfl) ?_
            refine m_getR (y := 18) fl_B_58 rfl sh17 (mr_17_0 _) (by decide) (a_dec_at dc_B_lists 42 rfl) ?_
            refine m_getI fl_B_292 rfl sh18 (a_dec_at dc_B_lists 43 rfl) ?_
            refine w_mmin cs_B_409 (Nat.le_of_ble_eq_true rfl) (a_dec_at dc_B_lists 44 rfl) ?_
            refine ev_istore_n (i := 3) rfl (by decide) rfl (a_dec_at dc_B_lists 45 rfl) ?_
            refine ev_iconst (v := 0) rfl (a_dec_at dc_B_lists 46 rfl) ?_
            refine ev_istore (by decide) rfl (a_dec_at dc_B_lists 47 rfl) ?_
            exact Ev.drop (L' := [.ref 1, .int a1, .retAddr 0, .int (if (mi31 (MR z31 78 a1.toNatClampNeg) 2) > (mi31 18 0) then mi31 18 0 else mi31 (MR z31 78 a1.toNatClampNeg) 2), .int 0]) (And.intro rfl (And.intro rfl (And.intro rfl (And.intro rfl trivial)))) H
        · have H := H.2 b24
          refine ev_bipush (v := (-6)) rfl (a_dec_at dc_B_lists 16 rfl) ?_
          exact m_retI (a_dec_at dc_B_lists 17 rfl) rfl rfl H
      · have H := H.2 b19
        refine ev_bipush (v := (-2)) rfl (a_dec_at dc_B_lists 8 rfl) ?_
        exact m_retI (a_dec_at dc_B_lists 9 rfl) rfl rfl H
set_option maxRecDepth 20000 in
theorem t_B_lists_99 {l : Launch} {h : Nat} (mi : TMi) (ml : TMl) (z : Nat) (v1 : Int32) (v3 : Int32) (v4 : Int32) {Q : Int32 → TMi → TMl → Nat → Prop} (H : ((v3 ≤ v4 → Q v3 mi ml z) ∧ (¬ v3 ≤ v4 → (vp_in v1 4) ∧ (0 < (MR z 78 v1.toNatClampNeg) ∧ (MR z 78 v1.toNatClampNeg) < 1000) ∧ (vp_in v4 6) ∧ (SH[(MR z 78 v1.toNatClampNeg)]? = some (.inl 9)) ∧ CLg l h m_Tr_put [.ref (MR z 78 v1.toNatClampNeg), .int v4, .long ((mi 56 v4.toNatClampNeg).toInt64)] mi ml z (fun x6 mi6 ml6 z6 => Ev l (h + 1) m_B_lists 99 ([.ref 1, .int v1, .retAddr 0, .int v3, .int (v4 + 1)], [], st mi6 ml6 z6) (qI Q))))) : Ev l (h + 1) m_B_lists 99 ([.ref 1, .int v1, .retAddr 0, .int v3, .int v4], [], st mi ml z) (qI Q) := by
  refine ev_iload rfl (a_dec_at dc_B_lists 48 rfl) ?_
  refine ev_iload_n (i := 3) rfl rfl (a_dec_at dc_B_lists 49 rfl) ?_
  refine ev_icmp_ge (tgt := 134) (a_dec_at dc_B_lists 50 rfl) (by decide) (fun b1 => ?_) (fun b1 => ?_)
  · have H := H.1 b1
    refine ev_iload_n (i := 3) rfl rfl (a_dec_at dc_B_lists 66 rfl) ?_
    exact m_retI (a_dec_at dc_B_lists 67 rfl) rfl rfl H
  · have H := H.2 b1
    refine ev_aload_n (i := 0) rfl rfl (a_dec_at dc_B_lists 51 rfl) ?_
    refine m_getR (y := 78) fl_B_113 rfl sh1 (mr_1_17 _) (by decide) (a_dec_at dc_B_lists 52 rfl) ?_
    refine ev_iload_n (i := 1) rfl rfl (a_dec_at dc_B_lists 53 rfl) ?_
    obtain ⟨c2, H⟩ := H
    obtain ⟨c3, H⟩ := H
    refine w_aald (k := v1.toNatClampNeg) (y := (MR z 78 v1.toNatClampNeg)) (by decide) sh78 c2 rfl rfl c3 (a_dec_at dc_B_lists 54 rfl) ?_
    refine ev_iload rfl (a_dec_at dc_B_lists 55 rfl) ?_
    refine ev_aload_n (i := 0) rfl rfl (a_dec_at dc_B_lists 56 rfl) ?_
    refine m_getR (y := 55) fl_B_82 rfl sh1 (mr_1_13 _) (by decide) (a_dec_at dc_B_lists 57 rfl) ?_
    refine m_getR (y := 56) fl_B_313 rfl sh55 (mr_55_0 _) (by decide) (a_dec_at dc_B_lists 58 rfl) ?_
    refine ev_iload rfl (a_dec_at dc_B_lists 59 rfl) ?_
    obtain ⟨c4, H⟩ := H
    refine w_iald (k := v4.toNatClampNeg) sh56 c4 rfl (a_dec_at dc_B_lists 60 rfl) ?_
    refine ev_i2l (a_dec_at dc_B_lists 61 rfl) ?_
    obtain ⟨c5, H⟩ := H
    refine cV2L cs_B_403 c5 rfl (Nat.le_of_ble_eq_true rfl) (Nat.le_of_ble_eq_true rfl) (a_dec_at dc_B_lists 62 rfl) ?_
    refine CLg.mono (fun x6 mi6 ml6 z6 H => ?_) H
    refine ev_pop2 rfl (a_dec_at dc_B_lists 63 rfl) ?_
    refine ev_iinc (v := 1) rfl rfl (by decide) rfl (a_dec_at dc_B_lists 64 rfl) ?_
    refine ev_goto (tgt := 99) (a_dec_at dc_B_lists 65 rfl) (by decide) ?_
    exact Ev.drop (L' := [.ref 1, .int v1, .retAddr 0, .int v3, .int (v4 + 1)]) (And.intro rfl (And.intro rfl (And.intro rfl (And.intro rfl trivial)))) H
set_option maxRecDepth 20000 in
theorem t_B_image {l : Launch} {h : Nat} (mi : TMi) (ml : TMl) (z : Nat) (a1 : Int32) {Q : Int32 → TMi → TMl → Nat → Prop} (H : ((a1 < 0 → Q (-2) mi ml z) ∧ (¬ a1 < 0 → ((a1 < 2 → (vp_in a1 2) ∧ (0 < (MR z 40 a1.toNatClampNeg) ∧ (MR z 40 a1.toNatClampNeg) < 1000) ∧ (SH[(MR z 40 a1.toNatClampNeg)]? = some (.inl 5)) ∧ (0 < (MR z (MR z 40 a1.toNatClampNeg) 0) ∧ (MR z (MR z 40 a1.toNatClampNeg) 0) < 1000) ∧ (SH[(MR z (MR z 40 a1.toNatClampNeg) 0)]? = some (.inl 0)) ∧ CV l h m_La_copyFrom [.ref (MR z (MR z 40 a1.toNatClampNeg) 0), .ref 18] mi ml z (fun mi8 ml8 z8 => (vp_in a1 2) ∧ (0 < (MR z8 40 a1.toNatClampNeg) ∧ (MR z8 40 a1.toNatClampNeg) < 1000) ∧ (SH[(MR z8 40 a1.toNatClampNeg)]? = some (.inl 5)) ∧ CV l h m_Sc_copyFrom [.ref (MR z8 40 a1.toNatClampNeg), .ref 17] mi8 ml8 z8 (fun mi12 ml12 z12 => (vp_in a1 2) ∧ Q 0 (up mi12 41 a1.toNatClampNeg (vp_nar .boolean 1)) ml12 z12))) ∧ (¬ a1 < 2 → Q (-2) mi ml z))))) : CI l (h + 1) m_B_image [.ref 1, .int a1] mi ml z Q := by
  show Ev l (h + 1) m_B_image 0 ([.ref 1, .int a1], [], st mi ml z) (qI Q)
  refine ev_iload_n (i := 1) rfl rfl (a_dec_at dc_B_image 0 rfl) ?_
  refine ev_if_lt (tgt := 9) (a_dec_at dc_B_image 1 rfl) (by decide) (fun b1 => ?_) (fun b1 => ?_)
  · have H := H.1 b1
    refine ev_bipush (v := (-2)) rfl (a_dec_at dc_B_image 5 rfl) ?_
    exact m_retI (a_dec_at dc_B_image 6 rfl) rfl rfl H
  · have H := H.2 b1
    refine ev_iload_n (i := 1) rfl rfl (a_dec_at dc_B_image 2 rfl) ?_
    refine ev_iconst (v := 2) rfl (a_dec_at dc_B_image 3 rfl) ?_
    refine ev_icmp_lt (tgt := 12) (a_dec_at dc_B_image 4 rfl) (by decide) (fun b2 => ?_) (fun b2 => ?_)
    · have H := H.1 b2
      refine ev_aload_n (i := 0) rfl rfl (a_dec_at dc_B_image 7 rfl) ?_
      refine m_getR (y := 40) fl_B_64 rfl sh1 (mr_1_10 _) (by decide) (a_dec_at dc_B_image 8 rfl) ?_
      refine ev_iload_n (i := 1) rfl rfl (a_dec_at dc_B_image 9 rfl) ?_
      obtain ⟨c3, H⟩ := H
      obtain ⟨c4, H⟩ := H
      refine w_aald (k := a1.toNatClampNeg) (y := (MR z 40 a1.toNatClampNeg)) (by decide) sh40 c3 rfl rfl c4 (a_dec_at dc_B_image 10 rfl) ?_
      obtain ⟨c5, H⟩ := H
      obtain ⟨c6, H⟩ := H
      refine m_getR (y := (MR z (MR z 40 a1.toNatClampNeg) 0)) fl_B_58 rfl c5 rfl c6 (a_dec_at dc_B_image 11 rfl) ?_
      refine ev_aload_n (i := 0) rfl rfl (a_dec_at dc_B_image 12 rfl) ?_
      refine m_getR (y := 17) fl_B_54 rfl sh1 (mr_1_8 _) (by decide) (a_dec_at dc_B_image 13 rfl) ?_
      refine m_getR (y := 18) fl_B_58 rfl sh17 (mr_17_0 _) (by decide) (a_dec_at dc_B_image 14 rfl) ?_
      obtain ⟨c7, H⟩ := H
      refine cV1V cs_B_139 c7 rfl (Nat.le_of_ble_eq_true rfl) (Nat.le_of_ble_eq_true rfl) (a_dec_at dc_B_image 15 rfl) ?_
      refine CV.mono (fun mi8 ml8 z8 H => ?_) H
      refine ev_aload_n (i := 0) rfl rfl (a_dec_at dc_B_image 16 rfl) ?_
      refine m_getR (y := 40) fl_B_64 rfl sh1 (mr_1_10 _) (by decide) (a_dec_at dc_B_image 17 rfl) ?_
      refine ev_iload_n (i := 1) rfl rfl (a_dec_at dc_B_image 18 rfl) ?_
      obtain ⟨c9, H⟩ := H
      obtain ⟨c10, H⟩ := H
      refine w_aald (k := a1.toNatClampNeg) (y := (MR z8 40 a1.toNatClampNeg)) (by decide) sh40 c9 rfl rfl c10 (a_dec_at dc_B_image 19 rfl) ?_
      refine ev_aload_n (i := 0) rfl rfl (a_dec_at dc_B_image 20 rfl) ?_
      refine m_getR (y := 17) fl_B_54 rfl sh1 (mr_1_8 _) (by decide) (a_dec_at dc_B_image 21 rfl) ?_
      obtain ⟨c11, H⟩ := H
      refine cV1V cs_B_252 c11 rfl (Nat.le_of_ble_eq_true rfl) (Nat.le_of_ble_eq_true rfl) (a_dec_at dc_B_image 22 rfl) ?_
      refine CV.mono (fun mi12 ml12 z12 H => ?_) H
      refine ev_aload_n (i := 0) rfl rfl (a_dec_at dc_B_image 23 rfl) ?_
      refine m_getR (y := 41) fl_B_68 rfl sh1 (mr_1_11 _) (by decide) (a_dec_at dc_B_image 24 rfl) ?_
      refine ev_iload_n (i := 1) rfl rfl (a_dec_at dc_B_image 25 rfl) ?_
      refine ev_iconst (v := 1) rfl (a_dec_at dc_B_image 26 rfl) ?_
      obtain ⟨c13, H⟩ := H
      refine w_zast (k := a1.toNatClampNeg) sh41 c13 rfl (a_dec_at dc_B_image 27 rfl) ?_
      refine ev_iconst (v := 0) rfl (a_dec_at dc_B_image 28 rfl) ?_
      exact m_retI (a_dec_at dc_B_image 29 rfl) rfl rfl H
    · have H := H.2 b2
      refine ev_bipush (v := (-2)) rfl (a_dec_at dc_B_image 5 rfl) ?_
      exact m_retI (a_dec_at dc_B_image 6 rfl) rfl rfl H
set_option maxRecDepth 20000 in
theorem t_B_restore {l : Launch} {h : Nat} (mi : TMi) (ml : TMl) (z : Nat) (a1 : Int32) {Q : Int32 → TMi → TMl → Nat → Prop} (H : ((a1 < 0 → Q (-2) mi ml z) ∧ (¬ a1 < 0 → ((a1 < 2 → (vp_in a1 2) ∧ ((¬ (mi 41 a1.toNatClampNeg) = 0 → (vp_in a1 2) ∧ (0 < (MR z 40 a1.toNatClampNeg) ∧ (MR z 40 a1.toNatClampNeg) < 1000) ∧ (SH[(MR z 40 a1.toNatClampNeg)]? = some (.inl 5)) ∧ (0 < (MR z (MR z 40 a1.toNatClampNeg) 0) ∧ (MR z (MR z 40 a1.toNatClampNeg) 0) < 1000) ∧ CV l h m_La_copyFrom [.ref 18, .ref (MR z (MR z 40 a1.toNatClampNeg) 0)] mi ml z (fun mi9 ml9 z9 => (vp_in a1 2) ∧ (0 < (MR z9 40 a1.toNatClampNeg) ∧ (MR z9 40 a1.toNatClampNeg) < 1000) ∧ CV l h m_Sc_copyFrom [.ref 17, .ref (MR z9 40 a1.toNatClampNeg)] mi9 ml9 z9 (fun mi12 ml12 z12 => CV l h m_Pa_forget [.ref 42] mi12 ml12 z12 (fun mi13 ml13 z13 => Q 0 mi13 ml13 z13)))) ∧ ((mi 41 a1.toNatClampNeg) = 0 → Q (-5) mi ml z))) ∧ (¬ a1 < 2 → Q (-2) mi ml z))))) : CI l (h + 1) m_B_restore [.ref 1, .int a1] mi ml z Q := by
  show Ev l (h + 1) m_B_restore 0 ([.ref 1, .int a1], [], st mi ml z) (qI Q)
  refine ev_iload_n (i := 1) rfl rfl (a_dec_at dc_B_restore 0 rfl) ?_
  refine ev_if_lt (tgt := 9) (a_dec_at dc_B_restore 1 rfl) (by decide) (fun b1 => ?_) (fun b1 => ?_)
  · have H := H.1 b1
    refine ev_bipush (v := (-2)) rfl (a_dec_at dc_B_restore 5 rfl) ?_
    exact m_retI (a_dec_at dc_B_restore 6 rfl) rfl rfl H
  · have H := H.2 b1
    refine ev_iload_n (i := 1) rfl rfl (a_dec_at dc_B_restore 2 rfl) ?_
    refine ev_iconst (v := 2) rfl (a_dec_at dc_B_restore 3 rfl) ?_
    refine ev_icmp_lt (tgt := 12) (a_dec_at dc_B_restore 4 rfl) (by decide) (fun b2 => ?_) (fun b2 => ?_)
    · have H := H.1 b2
      refine ev_aload_n (i := 0) rfl rfl (a_dec_at dc_B_restore 7 rfl) ?_
      refine m_getR (y := 41) fl_B_68 rfl sh1 (mr_1_11 _) (by decide) (a_dec_at dc_B_restore 8 rfl) ?_
      refine ev_iload_n (i := 1) rfl rfl (a_dec_at dc_B_restore 9 rfl) ?_
      obtain ⟨c3, H⟩ := H
      refine w_zald (k := a1.toNatClampNeg) sh41 c3 rfl (a_dec_at dc_B_restore 10 rfl) ?_
      refine ev_if_ne (tgt := 24) (a_dec_at dc_B_restore 11 rfl) (by decide) (fun b4 => ?_) (fun b4 => ?_)
      · have H := H.1 b4
        refine ev_aload_n (i := 0) rfl rfl (a_dec_at dc_B_restore 14 rfl) ?_
        refine m_getR (y := 17) fl_B_54 rfl sh1 (mr_1_8 _) (by decide) (a_dec_at dc_B_restore 15 rfl) ?_
        refine m_getR (y := 18) fl_B_58 rfl sh17 (mr_17_0 _) (by decide) (a_dec_at dc_B_restore 16 rfl) ?_
        refine ev_aload_n (i := 0) rfl rfl (a_dec_at dc_B_restore 17 rfl) ?_
        refine m_getR (y := 40) fl_B_64 rfl sh1 (mr_1_10 _) (by decide) (a_dec_at dc_B_restore 18 rfl) ?_
        refine ev_iload_n (i := 1) rfl rfl (a_dec_at dc_B_restore 19 rfl) ?_
        obtain ⟨c5, H⟩ := H
        obtain ⟨c6, H⟩ := H
        refine w_aald (k := a1.toNatClampNeg) (y := (MR z 40 a1.toNatClampNeg)) (by decide) sh40 c5 rfl rfl c6 (a_dec_at dc_B_restore 20 rfl) ?_
        obtain ⟨c7, H⟩ := H
        obtain ⟨c8, H⟩ := H
        refine m_getR (y := (MR z (MR z 40 a1.toNatClampNeg) 0)) fl_B_58 rfl c7 rfl c8 (a_dec_at dc_B_restore 21 rfl) ?_
        refine cV1V cs_B_139 sh18 rfl (Nat.le_of_ble_eq_true rfl) (Nat.le_of_ble_eq_true rfl) (a_dec_at dc_B_restore 22 rfl) ?_
        refine CV.mono (fun mi9 ml9 z9 H => ?_) H
        refine ev_aload_n (i := 0) rfl rfl (a_dec_at dc_B_restore 23 rfl) ?_
        refine m_getR (y := 17) fl_B_54 rfl sh1 (mr_1_8 _) (by decide) (a_dec_at dc_B_restore 24 rfl) ?_
        refine ev_aload_n (i := 0) rfl rfl (a_dec_at dc_B_restore 25 rfl) ?_
        refine m_getR (y := 40) fl_B_64 rfl sh1 (mr_1_10 _) (by decide) (a_dec_at dc_B_restore 26 rfl) ?_
        refine ev_iload_n (i := 1) rfl rfl (a_dec_at dc_B_restore 27 rfl) ?_
        obtain ⟨c10, H⟩ := H
        obtain ⟨c11, H⟩ := H
        refine w_aald (k := a1.toNatClampNeg) (y := (MR z9 40 a1.toNatClampNeg)) (by decide) sh40 c10 rfl rfl c11 (a_dec_at dc_B_restore 28 rfl) ?_
        refine cV1V cs_B_252 sh17 rfl (Nat.le_of_ble_eq_true rfl) (Nat.le_of_ble_eq_true rfl) (a_dec_at dc_B_restore 29 rfl) ?_
        refine CV.mono (fun mi12 ml12 z12 H => ?_) H
        refine ev_aload_n (i := 0) rfl rfl (a_dec_at dc_B_restore 30 rfl) ?_
        refine m_getR (y := 42) fl_B_75 rfl sh1 (mr_1_12 _) (by decide) (a_dec_at dc_B_restore 31 rfl) ?_
        refine cV0V cs_B_143 sh42 rfl (Nat.le_of_ble_eq_true rfl) (Nat.le_of_ble_eq_true rfl) (a_dec_at dc_B_restore 32 rfl) ?_
        refine CV.mono (fun mi13 ml13 z13 H => ?_) H
        refine ev_iconst (v := 0) rfl (a_dec_at dc_B_restore 33 rfl) ?_
        exact m_retI (a_dec_at dc_B_restore 34 rfl) rfl rfl H
      · have H := H.2 b4
        refine ev_bipush (v := (-5)) rfl (a_dec_at dc_B_restore 12 rfl) ?_
        exact m_retI (a_dec_at dc_B_restore 13 rfl) rfl rfl H
    · have H := H.2 b2
      refine ev_bipush (v := (-2)) rfl (a_dec_at dc_B_restore 5 rfl) ?_
      exact m_retI (a_dec_at dc_B_restore 6 rfl) rfl rfl H
set_option maxRecDepth 20000 in
theorem t_B_count {l : Launch} {h : Nat} (mi : TMi) (ml : TMl) (z : Nat) (a1 : Int32) {Q : Int32 → TMi → TMl → Nat → Prop} (H : ((a1 = 0 → Q (mi 18 0) mi ml z) ∧ ((a1 = 1 → Q (mi 18 1) mi ml z) ∧ ((a1 = 2 → CI l h m_Sc_nowhere [.ref 17] mi ml z (fun x4 mi4 ml4 z4 => Q x4 mi4 ml4 z4)) ∧ ((a1 = 3 → CI l h m_Sc_total [.ref 17, .int 12, .int 4] mi ml z (fun x6 mi6 ml6 z6 => Q x6 mi6 ml6 z6)) ∧ ((a1 = 4 → CI l h m_Sc_total [.ref 17, .int 6, .int 6] mi ml z (fun x8 mi8 ml8 z8 => Q x8 mi8 ml8 z8)) ∧ ((a1 = 5 → CI l h m_Sc_total [.ref 17, .int 16, .int 24] mi ml z (fun x10 mi10 ml10 z10 => Q x10 mi10 ml10 z10)) ∧ ((a1 = 6 → Q (mi 42 3) mi ml z) ∧ ((a1 = 7 → Q (mi 1 1) mi ml z) ∧ ((a1 = 8 → Q (mi 18 2) mi ml z) ∧ (¬ a1 = 0 → ¬ a1 = 1 → ¬ a1 = 2 → ¬ a1 = 3 → ¬ a1 = 4 → ¬ a1 = 5 → ¬ a1 = 6 → ¬ a1 = 7 → ¬ a1 = 8 → Q (-1) mi ml z))))))))))) : CI l (h + 1) m_B_count [.ref 1, .int a1] mi ml z Q := by
  show Ev l (h + 1) m_B_count 0 ([.ref 1, .int a1], [], st mi ml z) (qI Q)
  refine ev_iload_n (i := 1) rfl rfl (a_dec_at dc_B_count 0 rfl) ?_
  by_cases e1 : a1 = 0
  · have H := H.1 e1
    refine w_tableIn (c := 0) (off := 51) (tgt := 52) (a_dec_at dc_B_count 1 rfl) e1 (by decide) (by decide) (by decide) (by decide) ?_
    refine ev_aload_n (i := 0) rfl rfl (a_dec_at dc_B_count 2 rfl) ?_
    refine m_getR (y := 17) fl_B_54 rfl sh1 (mr_1_8 _) (by decide) (a_dec_at dc_B_count 3 rfl) ?_
    refine m_getR (y := 18) fl_B_58 rfl sh17 (mr_17_0 _) (by decide) (a_dec_at dc_B_count 4 rfl) ?_
    refine m_getI fl_B_292 rfl sh18 (a_dec_at dc_B_count 5 rfl) ?_
    exact m_retI (a_dec_at dc_B_count 6 rfl) rfl rfl H
  have H := H.2
  by_cases e2 : a1 = 1
  · have H := H.1 e2
    refine w_tableIn (c := 1) (off := 62) (tgt := 63) (a_dec_at dc_B_count 1 rfl) e2 (by decide) (by decide) (by decide) (by decide) ?_
    refine ev_aload_n (i := 0) rfl rfl (a_dec_at dc_B_count 7 rfl) ?_
    refine m_getR (y := 17) fl_B_54 rfl sh1 (mr_1_8 _) (by decide) (a_dec_at dc_B_count 8 rfl) ?_
    refine m_getR (y := 18) fl_B_58 rfl sh17 (mr_17_0 _) (by decide) (a_dec_at dc_B_count 9 rfl) ?_
    refine m_getI fl_B_370 rfl sh18 (a_dec_at dc_B_count 10 rfl) ?_
    exact m_retI (a_dec_at dc_B_count 11 rfl) rfl rfl H
  have H := H.2
  by_cases e3 : a1 = 2
  · have H := H.1 e3
    refine w_tableIn (c := 2) (off := 73) (tgt := 74) (a_dec_at dc_B_count 1 rfl) e3 (by decide) (by decide) (by decide) (by decide) ?_
    refine ev_aload_n (i := 0) rfl rfl (a_dec_at dc_B_count 12 rfl) ?_
    refine m_getR (y := 17) fl_B_54 rfl sh1 (mr_1_8 _) (by decide) (a_dec_at dc_B_count 13 rfl) ?_
    refine cV0I cs_B_268 sh17 rfl (Nat.le_of_ble_eq_true rfl) (Nat.le_of_ble_eq_true rfl) (a_dec_at dc_B_count 14 rfl) ?_
    refine CI.mono (fun x4 mi4 ml4 z4 H => ?_) H
    exact m_retI (a_dec_at dc_B_count 15 rfl) rfl rfl H
  have H := H.2
  by_cases e5 : a1 = 3
  · have H := H.1 e5
    refine w_tableIn (c := 3) (off := 81) (tgt := 82) (a_dec_at dc_B_count 1 rfl) e5 (by decide) (by decide) (by decide) (by decide) ?_
    refine ev_aload_n (i := 0) rfl rfl (a_dec_at dc_B_count 16 rfl) ?_
    refine m_getR (y := 17) fl_B_54 rfl sh1 (mr_1_8 _) (by decide) (a_dec_at dc_B_count 17 rfl) ?_
    refine ev_bipush (v := 12) rfl (a_dec_at dc_B_count 18 rfl) ?_
    refine ev_iconst (v := 4) rfl (a_dec_at dc_B_count 19 rfl) ?_
    refine cV2I cs_B_414 sh17 rfl (Nat.le_of_ble_eq_true rfl) (Nat.le_of_ble_eq_true rfl) (a_dec_at dc_B_count 20 rfl) ?_
    refine CI.mono (fun x6 mi6 ml6 z6 H => ?_) H
    exact m_retI (a_dec_at dc_B_count 21 rfl) rfl rfl H
  have H := H.2
  by_cases e7 : a1 = 4
  · have H := H.1 e7
    refine w_tableIn (c := 4) (off := 92) (tgt := 93) (a_dec_at dc_B_count 1 rfl) e7 (by decide) (by decide) (by decide) (by decide) ?_
    refine ev_aload_n (i := 0) rfl rfl (a_dec_at dc_B_count 22 rfl) ?_
    refine m_getR (y := 17) fl_B_54 rfl sh1 (mr_1_8 _) (by decide) (a_dec_at dc_B_count 23 rfl) ?_
    refine ev_bipush (v := 6) rfl (a_dec_at dc_B_count 24 rfl) ?_
    refine ev_bipush (v := 6) rfl (a_dec_at dc_B_count 25 rfl) ?_
    refine cV2I cs_B_414 sh17 rfl (Nat.le_of_ble_eq_true rfl) (Nat.le_of_ble_eq_true rfl) (a_dec_at dc_B_count 26 rfl) ?_
    refine CI.mono (fun x8 mi8 ml8 z8 H => ?_) H
    exact m_retI (a_dec_at dc_B_count 27 rfl) rfl rfl H
  have H := H.2
  by_cases e9 : a1 = 5
  · have H := H.1 e9
    refine w_tableIn (c := 5) (off := 104) (tgt := 105) (a_dec_at dc_B_count 1 rfl) e9 (by decide) (by decide) (by decide) (by decide) ?_
    refine ev_aload_n (i := 0) rfl rfl (a_dec_at dc_B_count 28 rfl) ?_
    refine m_getR (y := 17) fl_B_54 rfl sh1 (mr_1_8 _) (by decide) (a_dec_at dc_B_count 29 rfl) ?_
    refine ev_bipush (v := 16) rfl (a_dec_at dc_B_count 30 rfl) ?_
    refine ev_bipush (v := 24) rfl (a_dec_at dc_B_count 31 rfl) ?_
    refine cV2I cs_B_414 sh17 rfl (Nat.le_of_ble_eq_true rfl) (Nat.le_of_ble_eq_true rfl) (a_dec_at dc_B_count 32 rfl) ?_
    refine CI.mono (fun x10 mi10 ml10 z10 H => ?_) H
    exact m_retI (a_dec_at dc_B_count 33 rfl) rfl rfl H
  have H := H.2
  by_cases e11 : a1 = 6
  · have H := H.1 e11
    refine w_tableIn (c := 6) (off := 116) (tgt := 117) (a_dec_at dc_B_count 1 rfl) e11 (by decide) (by decide) (by decide) (by decide) ?_
    refine ev_aload_n (i := 0) rfl rfl (a_dec_at dc_B_count 34 rfl) ?_
    refine m_getR (y := 42) fl_B_75 rfl sh1 (mr_1_12 _) (by decide) (a_dec_at dc_B_count 35 rfl) ?_
    refine m_getI fl_B_235 rfl sh42 (a_dec_at dc_B_count 36 rfl) ?_
    exact m_retI (a_dec_at dc_B_count 37 rfl) rfl rfl H
  have H := H.2
  by_cases e12 : a1 = 7
  · have H := H.1 e12
    refine w_tableIn (c := 7) (off := 124) (tgt := 125) (a_dec_at dc_B_count 1 rfl) e12 (by decide) (by decide) (by decide) (by decide) ?_
    refine ev_aload_n (i := 0) rfl rfl (a_dec_at dc_B_count 38 rfl) ?_
    refine m_getI fl_B_121 rfl sh1 (a_dec_at dc_B_count 39 rfl) ?_
    exact m_retI (a_dec_at dc_B_count 40 rfl) rfl rfl H
  have H := H.2
  by_cases e13 : a1 = 8
  · have H := H.1 e13
    refine w_tableIn (c := 8) (off := 129) (tgt := 130) (a_dec_at dc_B_count 1 rfl) e13 (by decide) (by decide) (by decide) (by decide) ?_
    refine ev_aload_n (i := 0) rfl rfl (a_dec_at dc_B_count 41 rfl) ?_
    refine m_getR (y := 17) fl_B_54 rfl sh1 (mr_1_8 _) (by decide) (a_dec_at dc_B_count 42 rfl) ?_
    refine m_getR (y := 18) fl_B_58 rfl sh17 (mr_17_0 _) (by decide) (a_dec_at dc_B_count 43 rfl) ?_
    refine m_getI fl_B_146 rfl sh18 (a_dec_at dc_B_count 44 rfl) ?_
    exact m_retI (a_dec_at dc_B_count 45 rfl) rfl rfl H
  have H := H.2
  refine w_tableOut (tgt := 141) [0, 1, 2, 3, 4, 5, 6, 7, 8] (a_dec_at dc_B_count 1 rfl) (by decide) (by intro c hc; simp only [List.mem_cons, List.not_mem_nil, or_false] at hc; rcases hc with rfl | rfl | rfl | rfl | rfl | rfl | rfl | rfl | rfl <;> assumption) (by decide) ?_
  have H := H e1 e2 e3 e5 e7 e9 e11 e12 e13
  refine ev_iconst (v := (-1)) rfl (a_dec_at dc_B_count 46 rfl) ?_
  exact m_retI (a_dec_at dc_B_count 47 rfl) rfl rfl H
