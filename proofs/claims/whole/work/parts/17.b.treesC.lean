set_option maxRecDepth 20000 in
theorem t_Sc_measureAll_17 {l : Launch} {h : Nat} (mi : TMi) (ml : TMl) (z : Nat) {Q : TMi → TMl → Nat → Prop} (H : Ev l (h + 1) m_Sc_measureAll 2 ([.ref 17, .int 0], [], st mi ml z) (qV Q)) : CV l (h + 1) m_Sc_measureAll [.ref 17] mi ml z Q := by
  show Ev l (h + 1) m_Sc_measureAll 0 ([.ref 17, .retAddr 0], [], st mi ml z) (qV Q)
  refine ev_iconst (v := 0) rfl (a_dec_at dc_Sc_measureAll 0 rfl) ?_
  refine ev_istore_n (i := 1) rfl (by decide) rfl (a_dec_at dc_Sc_measureAll 1 rfl) ?_
  exact Ev.drop (L' := [.ref 17, .int 0]) (And.intro rfl (And.intro rfl trivial)) H
set_option maxRecDepth 20000 in
theorem t_Sc_measureAll_17_2 {l : Launch} {h : Nat} (mi : TMi) (ml : TMl) (z : Nat) (v1 : Int32) {Q : TMi → TMl → Nat → Prop} (H : (((mi 18 0) ≤ v1 → Q mi ml z) ∧ (¬ (mi 18 0) ≤ v1 → (vp_in v1 6) ∧ CV l h m_Sc_measureBeck [.ref 17, .int v1, .int (mi 20 v1.toNatClampNeg)] mi ml z (fun mi3 ml3 z3 => Ev l (h + 1) m_Sc_measureAll 2 ([.ref 17, .int (v1 + 1)], [], st mi3 ml3 z3) (qV Q))))) : Ev l (h + 1) m_Sc_measureAll 2 ([.ref 17, .int v1], [], st mi ml z) (qV Q) := by
  refine ev_iload_n (i := 1) rfl rfl (a_dec_at dc_Sc_measureAll 2 rfl) ?_
  refine ev_aload_n (i := 0) rfl rfl (a_dec_at dc_Sc_measureAll 3 rfl) ?_
  refine m_getR (y := 18) fl_Sc_30 rfl sh17 (mr_17_0 _) (by decide) (a_dec_at dc_Sc_measureAll 4 rfl) ?_
  refine m_getI fl_Sc_44 rfl sh18 (a_dec_at dc_Sc_measureAll 5 rfl) ?_
  refine ev_icmp_ge (tgt := 33) (a_dec_at dc_Sc_measureAll 6 rfl) (by decide) (fun b1 => ?_) (fun b1 => ?_)
  · have H := H.1 b1
    exact m_retV (a_dec_at dc_Sc_measureAll 17 rfl) rfl H
  · have H := H.2 b1
    refine ev_aload_n (i := 0) rfl rfl (a_dec_at dc_Sc_measureAll 7 rfl) ?_
    refine ev_iload_n (i := 1) rfl rfl (a_dec_at dc_Sc_measureAll 8 rfl) ?_
    refine ev_aload_n (i := 0) rfl rfl (a_dec_at dc_Sc_measureAll 9 rfl) ?_
    refine m_getR (y := 18) fl_Sc_30 rfl sh17 (mr_17_0 _) (by decide) (a_dec_at dc_Sc_measureAll 10 rfl) ?_
    refine m_getR (y := 20) fl_Sc_75 rfl sh18 (mr_18_4 _) (by decide) (a_dec_at dc_Sc_measureAll 11 rfl) ?_
    refine ev_iload_n (i := 1) rfl rfl (a_dec_at dc_Sc_measureAll 12 rfl) ?_
    obtain ⟨c2, H⟩ := H
    refine w_iald (k := v1.toNatClampNeg) sh20 c2 rfl (a_dec_at dc_Sc_measureAll 13 rfl) ?_
    refine cV2V cs_Sc_78 sh17 rfl (Nat.le_of_ble_eq_true rfl) (Nat.le_of_ble_eq_true rfl) (a_dec_at dc_Sc_measureAll 14 rfl) ?_
    refine CV.mono (fun mi3 ml3 z3 H => ?_) H
    refine ev_iinc (v := 1) rfl rfl (by decide) rfl (a_dec_at dc_Sc_measureAll 15 rfl) ?_
    refine ev_goto (tgt := 2) (a_dec_at dc_Sc_measureAll 16 rfl) (by decide) ?_
    exact Ev.drop (L' := [.ref 17, .int (v1 + 1)]) (And.intro rfl (And.intro rfl trivial)) H
set_option maxRecDepth 20000 in
theorem t_Sc_measureBeck_17 {l : Launch} {h : Nat} (mi : TMi) (ml : TMl) (z : Nat) (a1 : Int32) (a2 : Int32) {Q : TMi → TMl → Nat → Prop} (H : Ev l (h + 1) m_Sc_measureBeck 2 ([.ref 17, .int a1, .int a2, .int 0], [], st mi ml z) (qV Q)) : CV l (h + 1) m_Sc_measureBeck [.ref 17, .int a1, .int a2] mi ml z Q := by
  show Ev l (h + 1) m_Sc_measureBeck 0 ([.ref 17, .int a1, .int a2, .retAddr 0], [], st mi ml z) (qV Q)
  refine ev_iconst (v := 0) rfl (a_dec_at dc_Sc_measureBeck 0 rfl) ?_
  refine ev_istore_n (i := 3) rfl (by decide) rfl (a_dec_at dc_Sc_measureBeck 1 rfl) ?_
  exact Ev.drop (L' := [.ref 17, .int a1, .int a2, .int 0]) (And.intro rfl (And.intro rfl (And.intro rfl (And.intro rfl trivial)))) H
set_option maxRecDepth 20000 in
theorem t_Sc_measureBeck_17_2 {l : Launch} {h : Nat} (mi : TMi) (ml : TMl) (z : Nat) (v1 : Int32) (v2 : Int32) (v3 : Int32) {Q : TMi → TMl → Nat → Prop} (H : (((mi 18 1) ≤ v3 → Q mi ml z) ∧ (¬ (mi 18 1) ≤ v3 → CI l h m_Sc_giftsOf [.ref 17, .int v1, .int v3] mi ml z (fun x2 mi2 ml2 z2 => CV l h m_Sc_measure [.ref 17, .int v1, .int v3, .int v2, .int x2] mi2 ml2 z2 (fun mi3 ml3 z3 => Ev l (h + 1) m_Sc_measureBeck 2 ([.ref 17, .int v1, .int v2, .int (v3 + 1)], [], st mi3 ml3 z3) (qV Q)))))) : Ev l (h + 1) m_Sc_measureBeck 2 ([.ref 17, .int v1, .int v2, .int v3], [], st mi ml z) (qV Q) := by
  refine ev_iload_n (i := 3) rfl rfl (a_dec_at dc_Sc_measureBeck 2 rfl) ?_
  refine ev_aload_n (i := 0) rfl rfl (a_dec_at dc_Sc_measureBeck 3 rfl) ?_
  refine m_getR (y := 18) fl_Sc_30 rfl sh17 (mr_17_0 _) (by decide) (a_dec_at dc_Sc_measureBeck 4 rfl) ?_
  refine m_getI fl_Sc_65 rfl sh18 (a_dec_at dc_Sc_measureBeck 5 rfl) ?_
  refine ev_icmp_ge (tgt := 32) (a_dec_at dc_Sc_measureBeck 6 rfl) (by decide) (fun b1 => ?_) (fun b1 => ?_)
  · have H := H.1 b1
    exact m_retV (a_dec_at dc_Sc_measureBeck 18 rfl) rfl H
  · have H := H.2 b1
    refine ev_aload_n (i := 0) rfl rfl (a_dec_at dc_Sc_measureBeck 7 rfl) ?_
    refine ev_iload_n (i := 1) rfl rfl (a_dec_at dc_Sc_measureBeck 8 rfl) ?_
    refine ev_iload_n (i := 3) rfl rfl (a_dec_at dc_Sc_measureBeck 9 rfl) ?_
    refine ev_iload_n (i := 2) rfl rfl (a_dec_at dc_Sc_measureBeck 10 rfl) ?_
    refine ev_aload_n (i := 0) rfl rfl (a_dec_at dc_Sc_measureBeck 11 rfl) ?_
    refine ev_iload_n (i := 1) rfl rfl (a_dec_at dc_Sc_measureBeck 12 rfl) ?_
    refine ev_iload_n (i := 3) rfl rfl (a_dec_at dc_Sc_measureBeck 13 rfl) ?_
    refine cV2I cs_Sc_82 sh17 rfl (Nat.le_of_ble_eq_true rfl) (Nat.le_of_ble_eq_true rfl) (a_dec_at dc_Sc_measureBeck 14 rfl) ?_
    refine CI.mono (fun x2 mi2 ml2 z2 H => ?_) H
    refine cV4V cs_Sc_85 sh17 rfl (Nat.le_of_ble_eq_true rfl) (Nat.le_of_ble_eq_true rfl) (a_dec_at dc_Sc_measureBeck 15 rfl) ?_
    refine CV.mono (fun mi3 ml3 z3 H => ?_) H
    refine ev_iinc (v := 1) rfl rfl (by decide) rfl (a_dec_at dc_Sc_measureBeck 16 rfl) ?_
    refine ev_goto (tgt := 2) (a_dec_at dc_Sc_measureBeck 17 rfl) (by decide) ?_
    exact Ev.drop (L' := [.ref 17, .int v1, .int v2, .int (v3 + 1)]) (And.intro rfl (And.intro rfl (And.intro rfl (And.intro rfl trivial)))) H
set_option maxRecDepth 20000 in
theorem t_Sc_giftsOf_17 {l : Launch} {h : Nat} (mi : TMi) (ml : TMl) (z : Nat) (a1 : Int32) (a2 : Int32) {Q : Int32 → TMi → TMl → Nat → Prop} (H : CI l h m_B_pair [.int a1, .int a2] mi ml z (fun x1 mi1 ml1 z1 => (vp_in (16 + x1) 40) ∧ Q (mi1 27 ((16 + x1).toNatClampNeg)) mi1 ml1 z1)) : CI l (h + 1) m_Sc_giftsOf [.ref 17, .int a1, .int a2] mi ml z Q := by
  show Ev l (h + 1) m_Sc_giftsOf 0 ([.ref 17, .int a1, .int a2], [], st mi ml z) (qI Q)
  refine ev_aload_n (i := 0) rfl rfl (a_dec_at dc_Sc_giftsOf 0 rfl) ?_
  refine m_getR (y := 27) fl_Sc_11 rfl sh17 (mr_17_2 _) (by decide) (a_dec_at dc_Sc_giftsOf 1 rfl) ?_
  refine ev_bipush (v := 16) rfl (a_dec_at dc_Sc_giftsOf 2 rfl) ?_
  refine ev_iload_n (i := 1) rfl rfl (a_dec_at dc_Sc_giftsOf 3 rfl) ?_
  refine ev_iload_n (i := 2) rfl rfl (a_dec_at dc_Sc_giftsOf 4 rfl) ?_
  refine cN2I cs_Sc_71 rfl (Nat.le_of_ble_eq_true rfl) (Nat.le_of_ble_eq_true rfl) (a_dec_at dc_Sc_giftsOf 5 rfl) ?_
  refine CI.mono (fun x1 mi1 ml1 z1 H => ?_) H
  refine ev_iadd (a_dec_at dc_Sc_giftsOf 6 rfl) ?_
  obtain ⟨c2, H⟩ := H
  refine w_iald (k := (16 + x1).toNatClampNeg) sh27 c2 rfl (a_dec_at dc_Sc_giftsOf 7 rfl) ?_
  exact m_retI (a_dec_at dc_Sc_giftsOf 8 rfl) rfl rfl H
set_option maxRecDepth 20000 in
theorem t_Sc_measure_17 {l : Launch} {h : Nat} (mi : TMi) (ml : TMl) (z : Nat) (a1 : Int32) (a2 : Int32) (a3 : Int32) (a4 : Int32) {Q : TMi → TMl → Nat → Prop} (H : CI l h m_Sc_flowOf [.ref 17, .int a1] mi ml z (fun x1 mi1 ml1 z1 => CV l h m_Lw_setBeck [.ref 14, .int a1, .int x1, .int a3] mi1 ml1 z1 (fun mi2 ml2 z2 => (vp_in a2 4) ∧ CV l h m_Lw_setRiver [.ref 14, .int a2, .int (mi2 24 a2.toNatClampNeg), .int a4] mi2 ml2 z2 (fun mi4 ml4 z4 => CI l h m_Lw_value [.ref 14, .ref 26, .int (mi4 18 12)] mi4 ml4 z4 (fun x5 mi5 ml5 z5 => CI l h m_Lw_value [.ref 14, .ref 26, .int (mi5 18 13)] mi5 ml5 z5 (fun x6 mi6 ml6 z6 => CV l h m_Sc_setLiking [.ref 17, .int a1, .int a2, .int x5, .int x6] mi6 ml6 z6 (fun mi7 ml7 z7 => Q mi7 ml7 z7))))))) : CV l (h + 1) m_Sc_measure [.ref 17, .int a1, .int a2, .int a3, .int a4] mi ml z Q := by
  show Ev l (h + 1) m_Sc_measure 0 ([.ref 17, .int a1, .int a2, .int a3, .int a4], [], st mi ml z) (qV Q)
  refine ev_aload_n (i := 0) rfl rfl (a_dec_at dc_Sc_measure 0 rfl) ?_
  refine m_getR (y := 14) fl_Sc_34 rfl sh17 (mr_17_1 _) (by decide) (a_dec_at dc_Sc_measure 1 rfl) ?_
  refine ev_iload_n (i := 1) rfl rfl (a_dec_at dc_Sc_measure 2 rfl) ?_
  refine ev_aload_n (i := 0) rfl rfl (a_dec_at dc_Sc_measure 3 rfl) ?_
  refine ev_iload_n (i := 1) rfl rfl (a_dec_at dc_Sc_measure 4 rfl) ?_
  refine cV1I cs_Sc_89 sh17 rfl (Nat.le_of_ble_eq_true rfl) (Nat.le_of_ble_eq_true rfl) (a_dec_at dc_Sc_measure 5 rfl) ?_
  refine CI.mono (fun x1 mi1 ml1 z1 H => ?_) H
  refine ev_iload_n (i := 3) rfl rfl (a_dec_at dc_Sc_measure 6 rfl) ?_
  refine cV3V cs_Sc_93 sh14 rfl (Nat.le_of_ble_eq_true rfl) (Nat.le_of_ble_eq_true rfl) (a_dec_at dc_Sc_measure 7 rfl) ?_
  refine CV.mono (fun mi2 ml2 z2 H => ?_) H
  refine ev_aload_n (i := 0) rfl rfl (a_dec_at dc_Sc_measure 8 rfl) ?_
  refine m_getR (y := 14) fl_Sc_34 rfl sh17 (mr_17_1 _) (by decide) (a_dec_at dc_Sc_measure 9 rfl) ?_
  refine ev_iload_n (i := 2) rfl rfl (a_dec_at dc_Sc_measure 10 rfl) ?_
  refine ev_aload_n (i := 0) rfl rfl (a_dec_at dc_Sc_measure 11 rfl) ?_
  refine m_getR (y := 18) fl_Sc_30 rfl sh17 (mr_17_0 _) (by decide) (a_dec_at dc_Sc_measure 12 rfl) ?_
  refine m_getR (y := 24) fl_Sc_99 rfl sh18 (mr_18_8 _) (by decide) (a_dec_at dc_Sc_measure 13 rfl) ?_
  refine ev_iload_n (i := 2) rfl rfl (a_dec_at dc_Sc_measure 14 rfl) ?_
  obtain ⟨c3, H⟩ := H
  refine w_iald (k := a2.toNatClampNeg) sh24 c3 rfl (a_dec_at dc_Sc_measure 15 rfl) ?_
  refine ev_iload rfl (a_dec_at dc_Sc_measure 16 rfl) ?_
  refine cV3V cs_Sc_102 sh14 rfl (Nat.le_of_ble_eq_true rfl) (Nat.le_of_ble_eq_true rfl) (a_dec_at dc_Sc_measure 17 rfl) ?_
  refine CV.mono (fun mi4 ml4 z4 H => ?_) H
  refine ev_aload_n (i := 0) rfl rfl (a_dec_at dc_Sc_measure 18 rfl) ?_
  refine ev_iload_n (i := 1) rfl rfl (a_dec_at dc_Sc_measure 19 rfl) ?_
  refine ev_iload_n (i := 2) rfl rfl (a_dec_at dc_Sc_measure 20 rfl) ?_
  refine ev_aload_n (i := 0) rfl rfl (a_dec_at dc_Sc_measure 21 rfl) ?_
  refine m_getR (y := 14) fl_Sc_34 rfl sh17 (mr_17_1 _) (by decide) (a_dec_at dc_Sc_measure 22 rfl) ?_
  refine ev_aload_n (i := 0) rfl rfl (a_dec_at dc_Sc_measure 23 rfl) ?_
  refine m_getR (y := 18) fl_Sc_30 rfl sh17 (mr_17_0 _) (by decide) (a_dec_at dc_Sc_measure 24 rfl) ?_
  refine m_getR (y := 26) fl_Sc_105 rfl sh18 (mr_18_10 _) (by decide) (a_dec_at dc_Sc_measure 25 rfl) ?_
  refine ev_aload_n (i := 0) rfl rfl (a_dec_at dc_Sc_measure 26 rfl) ?_
  refine m_getR (y := 18) fl_Sc_30 rfl sh17 (mr_17_0 _) (by decide) (a_dec_at dc_Sc_measure 27 rfl) ?_
  refine m_getI fl_Sc_108 rfl sh18 (a_dec_at dc_Sc_measure 28 rfl) ?_
  refine cV2I cs_Sc_111 sh14 rfl (Nat.le_of_ble_eq_true rfl) (Nat.le_of_ble_eq_true rfl) (a_dec_at dc_Sc_measure 29 rfl) ?_
  refine CI.mono (fun x5 mi5 ml5 z5 H => ?_) H
  refine ev_aload_n (i := 0) rfl rfl (a_dec_at dc_Sc_measure 30 rfl) ?_
  refine m_getR (y := 14) fl_Sc_34 rfl sh17 (mr_17_1 _) (by decide) (a_dec_at dc_Sc_measure 31 rfl) ?_
  refine ev_aload_n (i := 0) rfl rfl (a_dec_at dc_Sc_measure 32 rfl) ?_
  refine m_getR (y := 18) fl_Sc_30 rfl sh17 (mr_17_0 _) (by decide) (a_dec_at dc_Sc_measure 33 rfl) ?_
  refine m_getR (y := 26) fl_Sc_105 rfl sh18 (mr_18_10 _) (by decide) (a_dec_at dc_Sc_measure 34 rfl) ?_
  refine ev_aload_n (i := 0) rfl rfl (a_dec_at dc_Sc_measure 35 rfl) ?_
  refine m_getR (y := 18) fl_Sc_30 rfl sh17 (mr_17_0 _) (by decide) (a_dec_at dc_Sc_measure 36 rfl) ?_
  refine m_getI fl_Sc_115 rfl sh18 (a_dec_at dc_Sc_measure 37 rfl) ?_
  refine cV2I cs_Sc_111 sh14 rfl (Nat.le_of_ble_eq_true rfl) (Nat.le_of_ble_eq_true rfl) (a_dec_at dc_Sc_measure 38 rfl) ?_
  refine CI.mono (fun x6 mi6 ml6 z6 H => ?_) H
  refine cV4V cs_Sc_118 sh17 rfl (Nat.le_of_ble_eq_true rfl) (Nat.le_of_ble_eq_true rfl) (a_dec_at dc_Sc_measure 39 rfl) ?_
  refine CV.mono (fun mi7 ml7 z7 H => ?_) H
  exact m_retV (a_dec_at dc_Sc_measure 40 rfl) rfl H
set_option maxRecDepth 20000 in
theorem t_Sc_flowOf_17 {l : Launch} {h : Nat} (mi : TMi) (ml : TMl) (z : Nat) (a1 : Int32) {Q : Int32 → TMi → TMl → Nat → Prop} (H : (vp_in (6 + a1) 40) ∧ Q (mi 27 ((6 + a1).toNatClampNeg)) mi ml z) : CI l (h + 1) m_Sc_flowOf [.ref 17, .int a1] mi ml z Q := by
  show Ev l (h + 1) m_Sc_flowOf 0 ([.ref 17, .int a1], [], st mi ml z) (qI Q)
  refine ev_aload_n (i := 0) rfl rfl (a_dec_at dc_Sc_flowOf 0 rfl) ?_
  refine m_getR (y := 27) fl_Sc_11 rfl sh17 (mr_17_2 _) (by decide) (a_dec_at dc_Sc_flowOf 1 rfl) ?_
  refine ev_bipush (v := 6) rfl (a_dec_at dc_Sc_flowOf 2 rfl) ?_
  refine ev_iload_n (i := 1) rfl rfl (a_dec_at dc_Sc_flowOf 3 rfl) ?_
  refine ev_iadd (a_dec_at dc_Sc_flowOf 4 rfl) ?_
  obtain ⟨c1, H⟩ := H
  refine w_iald (k := (6 + a1).toNatClampNeg) sh27 c1 rfl (a_dec_at dc_Sc_flowOf 5 rfl) ?_
  exact m_retI (a_dec_at dc_Sc_flowOf 6 rfl) rfl rfl H
set_option maxRecDepth 20000 in
theorem t_Sc_setLiking_17 {l : Launch} {h : Nat} (mi : TMi) (ml : TMl) (z : Nat) (a1 : Int32) (a2 : Int32) (a3 : Int32) (a4 : Int32) {Q : TMi → TMl → Nat → Prop} (H : CI l h m_B_pair [.int a1, .int a2] mi ml z (fun x1 mi1 ml1 z1 => (vp_in x1 24) ∧ (vp_in x1 24) ∧ (vp_in x1 24) ∧ (vp_in x1 24) ∧ ((a3 ≤ 0 → (vp_in a1 6) ∧ (vp_in a1 6) ∧ Q (up (up (up (up (up mi1 28 x1.toNatClampNeg a3) 29 x1.toNatClampNeg a4) 30 x1.toNatClampNeg ((a3 * 4) - a2)) 31 x1.toNatClampNeg ((a4 * 6) - a1)) 32 a1.toNatClampNeg (((up (up (up (up mi1 28 x1.toNatClampNeg a3) 29 x1.toNatClampNeg a4) 30 x1.toNatClampNeg ((a3 * 4) - a2)) 31 x1.toNatClampNeg ((a4 * 6) - a1)) 32 a1.toNatClampNeg) &&& (((1 : Int32) <<< (a2 &&& 31)) ^^^ (-1)))) ml1 z1) ∧ (¬ a3 ≤ 0 → ((a4 ≤ 0 → (vp_in a1 6) ∧ (vp_in a1 6) ∧ Q (up (up (up (up (up mi1 28 x1.toNatClampNeg a3) 29 x1.toNatClampNeg a4) 30 x1.toNatClampNeg ((a3 * 4) - a2)) 31 x1.toNatClampNeg ((a4 * 6) - a1)) 32 a1.toNatClampNeg (((up (up (up (up mi1 28 x1.toNatClampNeg a3) 29 x1.toNatClampNeg a4) 30 x1.toNatClampNeg ((a3 * 4) - a2)) 31 x1.toNatClampNeg ((a4 * 6) - a1)) 32 a1.toNatClampNeg) &&& (((1 : Int32) <<< (a2 &&& 31)) ^^^ (-1)))) ml1 z1) ∧ (¬ a4 ≤ 0 → (vp_in a1 6) ∧ (vp_in a1 6) ∧ Q (up (up (up (up (up mi1 28 x1.toNatClampNeg a3) 29 x1.toNatClampNeg a4) 30 x1.toNatClampNeg ((a3 * 4) - a2)) 31 x1.toNatClampNeg ((a4 * 6) - a1)) 32 a1.toNatClampNeg (((up (up (up (up mi1 28 x1.toNatClampNeg a3) 29 x1.toNatClampNeg a4) 30 x1.toNatClampNeg ((a3 * 4) - a2)) 31 x1.toNatClampNeg ((a4 * 6) - a1)) 32 a1.toNatClampNeg) ||| ((1 : Int32) <<< (a2 &&& 31)))) ml1 z1)))))) : CV l (h + 1) m_Sc_setLiking [.ref 17, .int a1, .int a2, .int a3, .int a4] mi ml z Q := by
  show Ev l (h + 1) m_Sc_setLiking 0 ([.ref 17, .int a1, .int a2, .int a3, .int a4, .retAddr 0], [], st mi ml z) (qV Q)
  refine ev_iload_n (i := 1) rfl rfl (a_dec_at dc_Sc_setLiking 0 rfl) ?_
  refine ev_iload_n (i := 2) rfl rfl (a_dec_at dc_Sc_setLiking 1 rfl) ?_
  refine cN2I cs_Sc_71 rfl (Nat.le_of_ble_eq_true rfl) (Nat.le_of_ble_eq_true rfl) (a_dec_at dc_Sc_setLiking 2 rfl) ?_
  refine CI.mono (fun x1 mi1 ml1 z1 H => ?_) H
  refine ev_istore (by decide) rfl (a_dec_at dc_Sc_setLiking 3 rfl) ?_
  refine ev_aload_n (i := 0) rfl rfl (a_dec_at dc_Sc_setLiking 4 rfl) ?_
  refine m_getR (y := 28) fl_Sc_15 rfl sh17 (mr_17_3 _) (by decide) (a_dec_at dc_Sc_setLiking 5 rfl) ?_
  refine ev_iload rfl (a_dec_at dc_Sc_setLiking 6 rfl) ?_
  refine ev_iload_n (i := 3) rfl rfl (a_dec_at dc_Sc_setLiking 7 rfl) ?_
  obtain ⟨c2, H⟩ := H
  refine w_iast (k := x1.toNatClampNeg) sh28 c2 rfl (a_dec_at dc_Sc_setLiking 8 rfl) ?_
  refine ev_aload_n (i := 0) rfl rfl (a_dec_at dc_Sc_setLiking 9 rfl) ?_
  refine m_getR (y := 29) fl_Sc_18 rfl sh17 (mr_17_4 _) (by decide) (a_dec_at dc_Sc_setLiking 10 rfl) ?_
  refine ev_iload rfl (a_dec_at dc_Sc_setLiking 11 rfl) ?_
  refine ev_iload rfl (a_dec_at dc_Sc_setLiking 12 rfl) ?_
  obtain ⟨c3, H⟩ := H
  refine w_iast (k := x1.toNatClampNeg) sh29 c3 rfl (a_dec_at dc_Sc_setLiking 13 rfl) ?_
  refine ev_aload_n (i := 0) rfl rfl (a_dec_at dc_Sc_setLiking 14 rfl) ?_
  refine m_getR (y := 30) fl_Sc_21 rfl sh17 (mr_17_5 _) (by decide) (a_dec_at dc_Sc_setLiking 15 rfl) ?_
  refine ev_iload rfl (a_dec_at dc_Sc_setLiking 16 rfl) ?_
  refine ev_iload_n (i := 3) rfl rfl (a_dec_at dc_Sc_setLiking 17 rfl) ?_
  refine ev_iconst (v := 4) rfl (a_dec_at dc_Sc_setLiking 18 rfl) ?_
  refine ev_imul (a_dec_at dc_Sc_setLiking 19 rfl) ?_
  refine ev_iload_n (i := 2) rfl rfl (a_dec_at dc_Sc_setLiking 20 rfl) ?_
  refine ev_isub (a_dec_at dc_Sc_setLiking 21 rfl) ?_
  obtain ⟨c4, H⟩ := H
  refine w_iast (k := x1.toNatClampNeg) sh30 c4 rfl (a_dec_at dc_Sc_setLiking 22 rfl) ?_
  refine ev_aload_n (i := 0) rfl rfl (a_dec_at dc_Sc_setLiking 23 rfl) ?_
  refine m_getR (y := 31) fl_Sc_24 rfl sh17 (mr_17_6 _) (by decide) (a_dec_at dc_Sc_setLiking 24 rfl) ?_
  refine ev_iload rfl (a_dec_at dc_Sc_setLiking 25 rfl) ?_
  refine ev_iload rfl (a_dec_at dc_Sc_setLiking 26 rfl) ?_
  refine ev_bipush (v := 6) rfl (a_dec_at dc_Sc_setLiking 27 rfl) ?_
  refine ev_imul (a_dec_at dc_Sc_setLiking 28 rfl) ?_
  refine ev_iload_n (i := 1) rfl rfl (a_dec_at dc_Sc_setLiking 29 rfl) ?_
  refine ev_isub (a_dec_at dc_Sc_setLiking 30 rfl) ?_
  obtain ⟨c5, H⟩ := H
  refine w_iast (k := x1.toNatClampNeg) sh31 c5 rfl (a_dec_at dc_Sc_setLiking 31 rfl) ?_
  refine ev_iload_n (i := 3) rfl rfl (a_dec_at dc_Sc_setLiking 32 rfl) ?_
  refine ev_if_le (tgt := 74) (a_dec_at dc_Sc_setLiking 33 rfl) (by decide) (fun b6 => ?_) (fun b6 => ?_)
  · have H := H.1 b6
    refine ev_aload_n (i := 0) rfl rfl (a_dec_at dc_Sc_setLiking 47 rfl) ?_
    refine m_getR (y := 32) fl_Sc_27 rfl sh17 (mr_17_7 _) (by decide) (a_dec_at dc_Sc_setLiking 48 rfl) ?_
    refine ev_iload_n (i := 1) rfl rfl (a_dec_at dc_Sc_setLiking 49 rfl) ?_
    refine ev_dup2 rfl rfl (a_dec_at dc_Sc_setLiking 50 rfl) ?_
    obtain ⟨c7, H⟩ := H
    refine w_iald (k := a1.toNatClampNeg) sh32 c7 rfl (a_dec_at dc_Sc_setLiking 51 rfl) ?_
    refine ev_iconst (v := 1) rfl (a_dec_at dc_Sc_setLiking 52 rfl) ?_
    refine ev_iload_n (i := 2) rfl rfl (a_dec_at dc_Sc_setLiking 53 rfl) ?_
    refine ev_ishl (a_dec_at dc_Sc_setLiking 54 rfl) ?_
    refine ev_iconst (v := (-1)) rfl (a_dec_at dc_Sc_setLiking 55 rfl) ?_
    refine ev_ixor (a_dec_at dc_Sc_setLiking 56 rfl) ?_
    refine ev_iand (a_dec_at dc_Sc_setLiking 57 rfl) ?_
    obtain ⟨c8, H⟩ := H
    refine w_iast (k := a1.toNatClampNeg) sh32 c8 rfl (a_dec_at dc_Sc_setLiking 58 rfl) ?_
    exact m_retV (a_dec_at dc_Sc_setLiking 59 rfl) rfl H
  · have H := H.2 b6
    refine ev_iload rfl (a_dec_at dc_Sc_setLiking 34 rfl) ?_
    refine ev_if_le (tgt := 74) (a_dec_at dc_Sc_setLiking 35 rfl) (by decide) (fun b9 => ?_) (fun b9 => ?_)
    · have H := H.1 b9
      refine ev_aload_n (i := 0) rfl rfl (a_dec_at dc_Sc_setLiking 47 rfl) ?_
      refine m_getR (y := 32) fl_Sc_27 rfl sh17 (mr_17_7 _) (by decide) (a_dec_at dc_Sc_setLiking 48 rfl) ?_
      refine ev_iload_n (i := 1) rfl rfl (a_dec_at dc_Sc_setLiking 49 rfl) ?_
      refine ev_dup2 rfl rfl (a_dec_at dc_Sc_setLiking 50 rfl) ?_
      obtain ⟨c10, H⟩ := H
      refine w_iald (k := a1.toNatClampNeg) sh32 c10 rfl (a_dec_at dc_Sc_setLiking 51 rfl) ?_
      refine ev_iconst (v := 1) rfl (a_dec_at dc_Sc_setLiking 52 rfl) ?_
      refine ev_iload_n (i := 2) rfl rfl (a_dec_at dc_Sc_setLiking 53 rfl) ?_
      refine ev_ishl (a_dec_at dc_Sc_setLiking 54 rfl) ?_
      refine ev_iconst (v := (-1)) rfl (a_dec_at dc_Sc_setLiking 55 rfl) ?_
      refine ev_ixor (a_dec_at dc_Sc_setLiking 56 rfl) ?_
      refine ev_iand (a_dec_at dc_Sc_setLiking 57 rfl) ?_
      obtain ⟨c11, H⟩ := H
      refine w_iast (k := a1.toNatClampNeg) sh32 c11 rfl (a_dec_at dc_Sc_setLiking 58 rfl) ?_
      exact m_retV (a_dec_at dc_Sc_setLiking 59 rfl) rfl H
    · have H := H.2 b9
      refine ev_aload_n (i := 0) rfl rfl (a_dec_at dc_Sc_setLiking 36 rfl) ?_
      refine m_getR (y := 32) fl_Sc_27 rfl sh17 (mr_17_7 _) (by decide) (a_dec_at dc_Sc_setLiking 37 rfl) ?_
      refine ev_iload_n (i := 1) rfl rfl (a_dec_at dc_Sc_setLiking 38 rfl) ?_
      refine ev_dup2 rfl rfl (a_dec_at dc_Sc_setLiking 39 rfl) ?_
      obtain ⟨c12, H⟩ := H
      refine w_iald (k := a1.toNatClampNeg) sh32 c12 rfl (a_dec_at dc_Sc_setLiking 40 rfl) ?_
      refine ev_iconst (v := 1) rfl (a_dec_at dc_Sc_setLiking 41 rfl) ?_
      refine ev_iload_n (i := 2) rfl rfl (a_dec_at dc_Sc_setLiking 42 rfl) ?_
      refine ev_ishl (a_dec_at dc_Sc_setLiking 43 rfl) ?_
      refine ev_ior (a_dec_at dc_Sc_setLiking 44 rfl) ?_
      obtain ⟨c13, H⟩ := H
      refine w_iast (k := a1.toNatClampNeg) sh32 c13 rfl (a_dec_at dc_Sc_setLiking 45 rfl) ?_
      refine ev_goto (tgt := 88) (a_dec_at dc_Sc_setLiking 46 rfl) (by decide) ?_
      exact m_retV (a_dec_at dc_Sc_setLiking 59 rfl) rfl H
set_option maxRecDepth 20000 in
theorem t_Sc_whereOf_17 {l : Launch} {h : Nat} (mi : TMi) (ml : TMl) (z : Nat) (a1 : Int32) {Q : Int32 → TMi → TMl → Nat → Prop} (H : (vp_in a1 40) ∧ Q (mi 27 a1.toNatClampNeg) mi ml z) : CI l (h + 1) m_Sc_whereOf [.ref 17, .int a1] mi ml z Q := by
  show Ev l (h + 1) m_Sc_whereOf 0 ([.ref 17, .int a1], [], st mi ml z) (qI Q)
  refine ev_aload_n (i := 0) rfl rfl (a_dec_at dc_Sc_whereOf 0 rfl) ?_
  refine m_getR (y := 27) fl_Sc_11 rfl sh17 (mr_17_2 _) (by decide) (a_dec_at dc_Sc_whereOf 1 rfl) ?_
  refine ev_iload_n (i := 1) rfl rfl (a_dec_at dc_Sc_whereOf 2 rfl) ?_
  obtain ⟨c1, H⟩ := H
  refine w_iald (k := a1.toNatClampNeg) sh27 c1 rfl (a_dec_at dc_Sc_whereOf 3 rfl) ?_
  exact m_retI (a_dec_at dc_Sc_whereOf 4 rfl) rfl rfl H
set_option maxRecDepth 20000 in
theorem t_Sc_roomOf_17 {l : Launch} {h : Nat} (mi : TMi) (ml : TMl) (z : Nat) (a1 : Int32) {Q : Int32 → TMi → TMl → Nat → Prop} (H : (vp_in (12 + a1) 40) ∧ Q (mi 27 ((12 + a1).toNatClampNeg)) mi ml z) : CI l (h + 1) m_Sc_roomOf [.ref 17, .int a1] mi ml z Q := by
  show Ev l (h + 1) m_Sc_roomOf 0 ([.ref 17, .int a1], [], st mi ml z) (qI Q)
  refine ev_aload_n (i := 0) rfl rfl (a_dec_at dc_Sc_roomOf 0 rfl) ?_
  refine m_getR (y := 27) fl_Sc_11 rfl sh17 (mr_17_2 _) (by decide) (a_dec_at dc_Sc_roomOf 1 rfl) ?_
  refine ev_bipush (v := 12) rfl (a_dec_at dc_Sc_roomOf 2 rfl) ?_
  refine ev_iload_n (i := 1) rfl rfl (a_dec_at dc_Sc_roomOf 3 rfl) ?_
  refine ev_iadd (a_dec_at dc_Sc_roomOf 4 rfl) ?_
  obtain ⟨c1, H⟩ := H
  refine w_iald (k := (12 + a1).toNatClampNeg) sh27 c1 rfl (a_dec_at dc_Sc_roomOf 5 rfl) ?_
  exact m_retI (a_dec_at dc_Sc_roomOf 6 rfl) rfl rfl H
set_option maxRecDepth 20000 in
theorem t_Sc_becksIn_17 {l : Launch} {h : Nat} (mi : TMi) (ml : TMl) (z : Nat) (w1 lw1 : Nat) (a2 : Int32) (hw1 : SH[w1]? = some (.inr (0, lw1))) {Q : Int32 → TMi → TMl → Nat → Prop} (H : Ev l (h + 1) m_Sc_becksIn 5 ([.ref 17, .ref w1, .int a2, .int 0, .int 0], [], st mi ml z) (qI Q)) : CI l (h + 1) m_Sc_becksIn [.ref 17, .ref w1, .int a2] mi ml z Q := by
  show Ev l (h + 1) m_Sc_becksIn 0 ([.ref 17, .ref w1, .int a2, .retAddr 0, .retAddr 0], [], st mi ml z) (qI Q)
  refine ev_iconst (v := 0) rfl (a_dec_at dc_Sc_becksIn 0 rfl) ?_
  refine ev_istore_n (i := 3) rfl (by decide) rfl (a_dec_at dc_Sc_becksIn 1 rfl) ?_
  refine ev_iconst (v := 0) rfl (a_dec_at dc_Sc_becksIn 2 rfl) ?_
  refine ev_istore (by decide) rfl (a_dec_at dc_Sc_becksIn 3 rfl) ?_
  exact Ev.drop (L' := [.ref 17, .ref w1, .int a2, .int 0, .int 0]) (And.intro rfl (And.intro rfl (And.intro rfl (And.intro rfl (And.intro rfl trivial))))) H
set_option maxRecDepth 20000 in
theorem t_Sc_becksIn_17_5 {l : Launch} {h : Nat} (mi : TMi) (ml : TMl) (z : Nat) (w1 lw1 : Nat) (v2 : Int32) (v3 : Int32) (v4 : Int32) (hw1 : SH[w1]? = some (.inr (0, lw1))) {Q : Int32 → TMi → TMl → Nat → Prop} (H : (((mi 18 0) ≤ v4 → Q v3 mi ml z) ∧ (¬ (mi 18 0) ≤ v4 → (vp_in v4 lw1) ∧ ((¬ (mi w1 v4.toNatClampNeg) = v2 → Ev l (h + 1) m_Sc_becksIn 5 ([.ref 17, .ref w1, .int v2, .int v3, .int (v4 + 1)], [], st mi ml z) (qI Q)) ∧ ((mi w1 v4.toNatClampNeg) = v2 → Ev l (h + 1) m_Sc_becksIn 5 ([.ref 17, .ref w1, .int v2, .int (v3 ||| ((1 : Int32) <<< (v4 &&& 31))), .int (v4 + 1)], [], st mi ml z) (qI Q)))))) : Ev l (h + 1) m_Sc_becksIn 5 ([.ref 17, .ref w1, .int v2, .int v3, .int v4], [], st mi ml z) (qI Q) := by
  refine ev_iload rfl (a_dec_at dc_Sc_becksIn 4 rfl) ?_
  refine ev_aload_n (i := 0) rfl rfl (a_dec_at dc_Sc_becksIn 5 rfl) ?_
  refine m_getR (y := 18) fl_Sc_30 rfl sh17 (mr_17_0 _) (by decide) (a_dec_at dc_Sc_becksIn 6 rfl) ?_
  refine m_getI fl_Sc_44 rfl sh18 (a_dec_at dc_Sc_becksIn 7 rfl) ?_
  refine ev_icmp_ge (tgt := 38) (a_dec_at dc_Sc_becksIn 8 rfl) (by decide) (fun b1 => ?_) (fun b1 => ?_)
  · have H := H.1 b1
    refine ev_iload_n (i := 3) rfl rfl (a_dec_at dc_Sc_becksIn 22 rfl) ?_
    exact m_retI (a_dec_at dc_Sc_becksIn 23 rfl) rfl rfl H
  · have H := H.2 b1
    refine ev_aload_n (i := 1) rfl rfl (a_dec_at dc_Sc_becksIn 9 rfl) ?_
    refine ev_iload rfl (a_dec_at dc_Sc_becksIn 10 rfl) ?_
    obtain ⟨c2, H⟩ := H
    refine w_iald (k := v4.toNatClampNeg) hw1 c2 rfl (a_dec_at dc_Sc_becksIn 11 rfl) ?_
    refine ev_iload_n (i := 2) rfl rfl (a_dec_at dc_Sc_becksIn 12 rfl) ?_
    refine ev_icmp_ne (tgt := 32) (a_dec_at dc_Sc_becksIn 13 rfl) (by decide) (fun b3 => ?_) (fun b3 => ?_)
    · have H := H.1 b3
      refine ev_iinc (v := 1) rfl rfl (by decide) rfl (a_dec_at dc_Sc_becksIn 20 rfl) ?_
      refine ev_goto (tgt := 5) (a_dec_at dc_Sc_becksIn 21 rfl) (by decide) ?_
      exact Ev.drop (L' := [.ref 17, .ref w1, .int v2, .int v3, .int (v4 + 1)]) (And.intro rfl (And.intro rfl (And.intro rfl (And.intro rfl (And.intro rfl trivial))))) H
    · have H := H.2 b3
      refine ev_iload_n (i := 3) rfl rfl (a_dec_at dc_Sc_becksIn 14 rfl) ?_
      refine ev_iconst (v := 1) rfl (a_dec_at dc_Sc_becksIn 15 rfl) ?_
      refine ev_iload rfl (a_dec_at dc_Sc_becksIn 16 rfl) ?_
      refine ev_ishl (a_dec_at dc_Sc_becksIn 17 rfl) ?_
      refine ev_ior (a_dec_at dc_Sc_becksIn 18 rfl) ?_
      refine ev_istore_n (i := 3) rfl (by decide) rfl (a_dec_at dc_Sc_becksIn 19 rfl) ?_
      refine ev_iinc (v := 1) rfl rfl (by decide) rfl (a_dec_at dc_Sc_becksIn 20 rfl) ?_
      refine ev_goto (tgt := 5) (a_dec_at dc_Sc_becksIn 21 rfl) (by decide) ?_
      exact Ev.drop (L' := [.ref 17, .ref w1, .int v2, .int (v3 ||| ((1 : Int32) <<< (v4 &&& 31))), .int (v4 + 1)]) (And.intro rfl (And.intro rfl (And.intro rfl (And.intro rfl (And.intro rfl trivial))))) H
set_option maxRecDepth 20000 in
theorem t_Sc_flowOfSet_17 {l : Launch} {h : Nat} (mi : TMi) (ml : TMl) (z : Nat) (a1 : Int32) {Q : Int32 → TMi → TMl → Nat → Prop} (H : Ev l (h + 1) m_Sc_flowOfSet 4 ([.ref 17, .int a1, .int 0, .int 0], [], st mi ml z) (qI Q)) : CI l (h + 1) m_Sc_flowOfSet [.ref 17, .int a1] mi ml z Q := by
  show Ev l (h + 1) m_Sc_flowOfSet 0 ([.ref 17, .int a1, .retAddr 0, .retAddr 0], [], st mi ml z) (qI Q)
  refine ev_iconst (v := 0) rfl (a_dec_at dc_Sc_flowOfSet 0 rfl) ?_
  refine ev_istore_n (i := 2) rfl (by decide) rfl (a_dec_at dc_Sc_flowOfSet 1 rfl) ?_
  refine ev_iconst (v := 0) rfl (a_dec_at dc_Sc_flowOfSet 2 rfl) ?_
  refine ev_istore_n (i := 3) rfl (by decide) rfl (a_dec_at dc_Sc_flowOfSet 3 rfl) ?_
  exact Ev.drop (L' := [.ref 17, .int a1, .int 0, .int 0]) (And.intro rfl (And.intro rfl (And.intro rfl (And.intro rfl trivial)))) H
set_option maxRecDepth 20000 in
theorem t_Sc_flowOfSet_17_4 {l : Launch} {h : Nat} (mi : TMi) (ml : TMl) (z : Nat) (v1 : Int32) (v2 : Int32) (v3 : Int32) {Q : Int32 → TMi → TMl → Nat → Prop} (H : (((mi 18 0) ≤ v3 → Q v2 mi ml z) ∧ (¬ (mi 18 0) ≤ v3 → ((((v1 >>> (v3 &&& 31)) &&& 1) = 0 → Ev l (h + 1) m_Sc_flowOfSet 4 ([.ref 17, .int v1, .int v2, .int (v3 + 1)], [], st mi ml z) (qI Q)) ∧ (¬ ((v1 >>> (v3 &&& 31)) &&& 1) = 0 → CI l h m_Sc_flowOf [.ref 17, .int v3] mi ml z (fun x3 mi3 ml3 z3 => Ev l (h + 1) m_Sc_flowOfSet 4 ([.ref 17, .int v1, .int (v2 + x3), .int (v3 + 1)], [], st mi3 ml3 z3) (qI Q))))))) : Ev l (h + 1) m_Sc_flowOfSet 4 ([.ref 17, .int v1, .int v2, .int v3], [], st mi ml z) (qI Q) := by
  refine ev_iload_n (i := 3) rfl rfl (a_dec_at dc_Sc_flowOfSet 4 rfl) ?_
  refine ev_aload_n (i := 0) rfl rfl (a_dec_at dc_Sc_flowOfSet 5 rfl) ?_
  refine m_getR (y := 18) fl_Sc_30 rfl sh17 (mr_17_0 _) (by decide) (a_dec_at dc_Sc_flowOfSet 6 rfl) ?_
  refine m_getI fl_Sc_44 rfl sh18 (a_dec_at dc_Sc_flowOfSet 7 rfl) ?_
  refine ev_icmp_ge (tgt := 37) (a_dec_at dc_Sc_flowOfSet 8 rfl) (by decide) (fun b1 => ?_) (fun b1 => ?_)
  · have H := H.1 b1
    refine ev_iload_n (i := 2) rfl rfl (a_dec_at dc_Sc_flowOfSet 23 rfl) ?_
    exact m_retI (a_dec_at dc_Sc_flowOfSet 24 rfl) rfl rfl H
  · have H := H.2 b1
    refine ev_iload_n (i := 1) rfl rfl (a_dec_at dc_Sc_flowOfSet 9 rfl) ?_
    refine ev_iload_n (i := 3) rfl rfl (a_dec_at dc_Sc_flowOfSet 10 rfl) ?_
    refine ev_ishr (a_dec_at dc_Sc_flowOfSet 11 rfl) ?_
    refine ev_iconst (v := 1) rfl (a_dec_at dc_Sc_flowOfSet 12 rfl) ?_
    refine ev_iand (a_dec_at dc_Sc_flowOfSet 13 rfl) ?_
    refine ev_if_eq (tgt := 31) (a_dec_at dc_Sc_flowOfSet 14 rfl) (by decide) (fun b2 => ?_) (fun b2 => ?_)
    · have H := H.1 b2
      refine ev_iinc (v := 1) rfl rfl (by decide) rfl (a_dec_at dc_Sc_flowOfSet 21 rfl) ?_
      refine ev_goto (tgt := 4) (a_dec_at dc_Sc_flowOfSet 22 rfl) (by decide) ?_
      exact Ev.drop (L' := [.ref 17, .int v1, .int v2, .int (v3 + 1)]) (And.intro rfl (And.intro rfl (And.intro rfl (And.intro rfl trivial)))) H
    · have H := H.2 b2
      refine ev_iload_n (i := 2) rfl rfl (a_dec_at dc_Sc_flowOfSet 15 rfl) ?_
      refine ev_aload_n (i := 0) rfl rfl (a_dec_at dc_Sc_flowOfSet 16 rfl) ?_
      refine ev_iload_n (i := 3) rfl rfl (a_dec_at dc_Sc_flowOfSet 17 rfl) ?_
      refine cV1I cs_Sc_89 sh17 rfl (Nat.le_of_ble_eq_true rfl) (Nat.le_of_ble_eq_true rfl) (a_dec_at dc_Sc_flowOfSet 18 rfl) ?_
      refine CI.mono (fun x3 mi3 ml3 z3 H => ?_) H
      refine ev_iadd (a_dec_at dc_Sc_flowOfSet 19 rfl) ?_
      refine ev_istore_n (i := 2) rfl (by decide) rfl (a_dec_at dc_Sc_flowOfSet 20 rfl) ?_
      refine ev_iinc (v := 1) rfl rfl (by decide) rfl (a_dec_at dc_Sc_flowOfSet 21 rfl) ?_
      refine ev_goto (tgt := 4) (a_dec_at dc_Sc_flowOfSet 22 rfl) (by decide) ?_
      exact Ev.drop (L' := [.ref 17, .int v1, .int (v2 + x3), .int (v3 + 1)]) (And.intro rfl (And.intro rfl (And.intro rfl (And.intro rfl trivial)))) H
set_option maxRecDepth 20000 in
theorem t_Sc_leastLiked_17 {l : Launch} {h : Nat} (mi : TMi) (ml : TMl) (z : Nat) (a1 : Int32) (a2 : Int32) {Q : Int32 → TMi → TMl → Nat → Prop} (H : Ev l (h + 1) m_Sc_leastLiked 11 ([.ref 17, .retAddr 0, .int a2, .int (-1), .int 0, .int a1, .int 0], [], st mi ml z) (qI Q)) : CI l (h + 1) m_Sc_leastLiked [.ref 17, .int a1, .int a2] mi ml z Q := by
  show Ev l (h + 1) m_Sc_leastLiked 0 ([.ref 17, .int a1, .int a2, .retAddr 0, .retAddr 0, .retAddr 0, .retAddr 0], [], st mi ml z) (qI Q)
  refine ev_iconst (v := (-1)) rfl (a_dec_at dc_Sc_leastLiked 0 rfl) ?_
  refine ev_istore_n (i := 3) rfl (by decide) rfl (a_dec_at dc_Sc_leastLiked 1 rfl) ?_
  refine ev_iconst (v := 0) rfl (a_dec_at dc_Sc_leastLiked 2 rfl) ?_
  refine ev_istore (by decide) rfl (a_dec_at dc_Sc_leastLiked 3 rfl) ?_
  refine ev_iload_n (i := 1) rfl rfl (a_dec_at dc_Sc_leastLiked 4 rfl) ?_
  refine ev_istore (by decide) rfl (a_dec_at dc_Sc_leastLiked 5 rfl) ?_
  refine ev_iconst (v := 0) rfl (a_dec_at dc_Sc_leastLiked 6 rfl) ?_
  refine ev_istore (by decide) rfl (a_dec_at dc_Sc_leastLiked 7 rfl) ?_
  exact Ev.drop (L' := [.ref 17, .retAddr 0, .int a2, .int (-1), .int 0, .int a1, .int 0]) (And.intro rfl (And.intro rfl (And.intro rfl (And.intro rfl (And.intro rfl (And.intro rfl trivial)))))) H
set_option maxRecDepth 20000 in
theorem t_Sc_leastLiked_17_11 {l : Launch} {h : Nat} (mi : TMi) (ml : TMl) (z : Nat) (v2 : Int32) (v3 : Int32) (v4 : Int32) (v5 : Int32) (v6 : Int32) {Q : Int32 → TMi → TMl → Nat → Prop} (H : (((mi 18 0) ≤ v6 → Q v3 mi ml z) ∧ (¬ (mi 18 0) ≤ v6 → ((((v2 >>> (v6 &&& 31)) &&& 1) = 0 → Ev l (h + 1) m_Sc_leastLiked 11 ([.ref 17, .retAddr 0, .int v2, .int v3, .int v4, .int (v5 + 4), .int (v6 + 1)], [], st mi ml z) (qI Q)) ∧ (¬ ((v2 >>> (v6 &&& 31)) &&& 1) = 0 → ((v3 = (-1) → (vp_in v5 24) ∧ Ev l (h + 1) m_Sc_leastLiked 11 ([.ref 17, .retAddr 0, .int v2, .int v6, .int (mi 31 v5.toNatClampNeg), .int (v5 + 4), .int (v6 + 1)], [], st mi ml z) (qI Q)) ∧ (¬ v3 = (-1) → (vp_in v5 24) ∧ ((v4 ≤ (mi 31 v5.toNatClampNeg) → Ev l (h + 1) m_Sc_leastLiked 11 ([.ref 17, .retAddr 0, .int v2, .int v3, .int v4, .int (v5 + 4), .int (v6 + 1)], [], st mi ml z) (qI Q)) ∧ (¬ v4 ≤ (mi 31 v5.toNatClampNeg) → (vp_in v5 24) ∧ Ev l (h + 1) m_Sc_leastLiked 11 ([.ref 17, .retAddr 0, .int v2, .int v6, .int (mi 31 v5.toNatClampNeg), .int (v5 + 4), .int (v6 + 1)], [], st mi ml z) (qI Q)))))))))) : Ev l (h + 1) m_Sc_leastLiked 11 ([.ref 17, .retAddr 0, .int v2, .int v3, .int v4, .int v5, .int v6], [], st mi ml z) (qI Q) := by
  refine ev_iload rfl (a_dec_at dc_Sc_leastLiked 8 rfl) ?_
  refine ev_aload_n (i := 0) rfl rfl (a_dec_at dc_Sc_leastLiked 9 rfl) ?_
  refine m_getR (y := 18) fl_Sc_30 rfl sh17 (mr_17_0 _) (by decide) (a_dec_at dc_Sc_leastLiked 10 rfl) ?_
  refine m_getI fl_Sc_44 rfl sh18 (a_dec_at dc_Sc_leastLiked 11 rfl) ?_
  refine ev_icmp_ge (tgt := 70) (a_dec_at dc_Sc_leastLiked 12 rfl) (by decide) (fun b1 => ?_) (fun b1 => ?_)
  · have H := H.1 b1
    refine ev_iload_n (i := 3) rfl rfl (a_dec_at dc_Sc_leastLiked 38 rfl) ?_
    exact m_retI (a_dec_at dc_Sc_leastLiked 39 rfl) rfl rfl H
  · have H := H.2 b1
    refine ev_iload_n (i := 2) rfl rfl (a_dec_at dc_Sc_leastLiked 13 rfl) ?_
    refine ev_iload rfl (a_dec_at dc_Sc_leastLiked 14 rfl) ?_
    refine ev_ishr (a_dec_at dc_Sc_leastLiked 15 rfl) ?_
    refine ev_iconst (v := 1) rfl (a_dec_at dc_Sc_leastLiked 16 rfl) ?_
    refine ev_iand (a_dec_at dc_Sc_leastLiked 17 rfl) ?_
    refine ev_if_eq (tgt := 61) (a_dec_at dc_Sc_leastLiked 18 rfl) (by decide) (fun b2 => ?_) (fun b2 => ?_)
    · have H := H.1 b2
      refine ev_iinc (v := 4) rfl rfl (by decide) rfl (a_dec_at dc_Sc_leastLiked 35 rfl) ?_
      refine ev_iinc (v := 1) rfl rfl (by decide) rfl (a_dec_at dc_Sc_leastLiked 36 rfl) ?_
      refine ev_goto (tgt := 11) (a_dec_at dc_Sc_leastLiked 37 rfl) (by decide) ?_
      exact Ev.drop (L' := [.ref 17, .retAddr 0, .int v2, .int v3, .int v4, .int (v5 + 4), .int (v6 + 1)]) (And.intro rfl (And.intro rfl (And.intro rfl (And.intro rfl (And.intro rfl (And.intro rfl trivial)))))) H
    · have H := H.2 b2
      refine ev_iload_n (i := 3) rfl rfl (a_dec_at dc_Sc_leastLiked 19 rfl) ?_
      refine ev_iconst (v := (-1)) rfl (a_dec_at dc_Sc_leastLiked 20 rfl) ?_
      refine ev_icmp_eq (tgt := 49) (a_dec_at dc_Sc_leastLiked 21 rfl) (by decide) (fun b3 => ?_) (fun b3 => ?_)
      · have H := H.1 b3
        refine ev_iload rfl (a_dec_at dc_Sc_leastLiked 28 rfl) ?_
        refine ev_istore_n (i := 3) rfl (by decide) rfl (a_dec_at dc_Sc_leastLiked 29 rfl) ?_
        refine ev_aload_n (i := 0) rfl rfl (a_dec_at dc_Sc_leastLiked 30 rfl) ?_
        refine m_getR (y := 31) fl_Sc_24 rfl sh17 (mr_17_6 _) (by decide) (a_dec_at dc_Sc_leastLiked 31 rfl) ?_
        refine ev_iload rfl (a_dec_at dc_Sc_leastLiked 32 rfl) ?_
        obtain ⟨c4, H⟩ := H
        refine w_iald (k := v5.toNatClampNeg) sh31 c4 rfl (a_dec_at dc_Sc_leastLiked 33 rfl) ?_
        refine ev_istore (by decide) rfl (a_dec_at dc_Sc_leastLiked 34 rfl) ?_
        refine ev_iinc (v := 4) rfl rfl (by decide) rfl (a_dec_at dc_Sc_leastLiked 35 rfl) ?_
        refine ev_iinc (v := 1) rfl rfl (by decide) rfl (a_dec_at dc_Sc_leastLiked 36 rfl) ?_
        refine ev_goto (tgt := 11) (a_dec_at dc_Sc_leastLiked 37 rfl) (by decide) ?_
        exact Ev.drop (L' := [.ref 17, .retAddr 0, .int v2, .int v6, .int (mi 31 v5.toNatClampNeg), .int (v5 + 4), .int (v6 + 1)]) (And.intro rfl (And.intro rfl (And.intro rfl (And.intro rfl (And.intro rfl (And.intro rfl trivial)))))) H
      · have H := H.2 b3
        refine ev_aload_n (i := 0) rfl rfl (a_dec_at dc_Sc_leastLiked 22 rfl) ?_
        refine m_getR (y := 31) fl_Sc_24 rfl sh17 (mr_17_6 _) (by decide) (a_dec_at dc_Sc_leastLiked 23 rfl) ?_
        refine ev_iload rfl (a_dec_at dc_Sc_leastLiked 24 rfl) ?_
        obtain ⟨c5, H⟩ := H
        refine w_iald (k := v5.toNatClampNeg) sh31 c5 rfl (a_dec_at dc_Sc_leastLiked 25 rfl) ?_
        refine ev_iload rfl (a_dec_at dc_Sc_leastLiked 26 rfl) ?_
        refine ev_icmp_ge (tgt := 61) (a_dec_at dc_Sc_leastLiked 27 rfl) (by decide) (fun b6 => ?_) (fun b6 => ?_)
        · have H := H.1 b6
          refine ev_iinc (v := 4) rfl rfl (by decide) rfl (a_dec_at dc_Sc_leastLiked 35 rfl) ?_
          refine ev_iinc (v := 1) rfl rfl (by decide) rfl (a_dec_at dc_Sc_leastLiked 36 rfl) ?_
          refine ev_goto (tgt := 11) (a_dec_at dc_Sc_leastLiked 37 rfl) (by decide) ?_
          exact Ev.drop (L' := [.ref 17, .retAddr 0, .int v2, .int v3, .int v4, .int (v5 + 4), .int (v6 + 1)]) (And.intro rfl (And.intro rfl (And.intro rfl (And.intro rfl (And.intro rfl (And.intro rfl trivial)))))) H
        · have H := H.2 b6
          refine ev_iload rfl (a_dec_at dc_Sc_leastLiked 28 rfl) ?_
          refine ev_istore_n (i := 3) rfl (by decide) rfl (a_dec_at dc_Sc_leastLiked 29 rfl) ?_
          refine ev_aload_n (i := 0) rfl rfl (a_dec_at dc_Sc_leastLiked 30 rfl) ?_
          refine m_getR (y := 31) fl_Sc_24 rfl sh17 (mr_17_6 _) (by decide) (a_dec_at dc_Sc_leastLiked 31 rfl) ?_
          refine ev_iload rfl (a_dec_at dc_Sc_leastLiked 32 rfl) ?_
          obtain ⟨c7, H⟩ := H
          refine w_iald (k := v5.toNatClampNeg) sh31 c7 rfl (a_dec_at dc_Sc_leastLiked 33 rfl) ?_
          refine ev_istore (by decide) rfl (a_dec_at dc_Sc_leastLiked 34 rfl) ?_
          refine ev_iinc (v := 4) rfl rfl (by decide) rfl (a_dec_at dc_Sc_leastLiked 35 rfl) ?_
          refine ev_iinc (v := 1) rfl rfl (by decide) rfl (a_dec_at dc_Sc_leastLiked 36 rfl) ?_
          refine ev_goto (tgt := 11) (a_dec_at dc_Sc_leastLiked 37 rfl) (by decide) ?_
          exact Ev.drop (L' := [.ref 17, .retAddr 0, .int v2, .int v6, .int (mi 31 v5.toNatClampNeg), .int (v5 + 4), .int (v6 + 1)]) (And.intro rfl (And.intro rfl (And.intro rfl (And.intro rfl (And.intro rfl (And.intro rfl trivial)))))) H
set_option maxRecDepth 20000 in
theorem t_Sc_goInto_17 {l : Launch} {h : Nat} (mi : TMi) (ml : TMl) (z : Nat) (a1 : Int32) (a2 : Int32) {Q : Int32 → TMi → TMl → Nat → Prop} (H : CI l h m_La_hasBeck [.ref 18, .int a1] mi ml z (fun x1 mi1 ml1 z1 => ((x1 = 0 → Q (-11) mi1 ml1 z1) ∧ (¬ x1 = 0 → CI l h m_La_hasRiver [.ref 18, .int a2] mi1 ml1 z1 (fun x3 mi3 ml3 z3 => ((¬ x3 = 0 → (vp_in a1 40) ∧ ((¬ (mi3 27 a1.toNatClampNeg) = a2 → CI l h m_Sc_bothWould [.ref 17, .int a1, .int a2] mi3 ml3 z3 (fun x7 mi7 ml7 z7 => ((¬ x7 = 0 → CI l h m_Sc_wouldAdmit [.ref 17, .ref 27, .int a2, .int a1] mi7 ml7 z7 (fun x9 mi9 ml9 z9 => ((¬ x9 = 0 → CI l h m_Sc_becksIn [.ref 17, .ref 27, .int a2] mi9 ml9 z9 (fun x11 mi11 ml11 z11 => CI l h m_JI_bitCount [.int x11] mi11 ml11 z11 (fun x12 mi12 ml12 z12 => CI l h m_Sc_roomOf [.ref 17, .int a2] mi12 ml12 z12 (fun x13 mi13 ml13 z13 => ((x13 ≤ x12 → CI l h m_Sc_leastLiked [.ref 17, .int a2, .int x11] mi13 ml13 z13 (fun x15 mi15 ml15 z15 => ((x15 = (-1) → (vp_in a1 40) ∧ Q x15 (up mi15 27 a1.toNatClampNeg a2) ml15 z15) ∧ (¬ x15 = (-1) → (vp_in x15 40) ∧ (vp_in a1 40) ∧ Q x15 (up (up mi15 27 x15.toNatClampNeg (-1)) 27 a1.toNatClampNeg a2) ml15 z15)))) ∧ (¬ x13 ≤ x12 → (vp_in a1 40) ∧ Q (-1) (up mi13 27 a1.toNatClampNeg a2) ml13 z13)))))) ∧ (x9 = 0 → Q (-14) mi9 ml9 z9)))) ∧ (x7 = 0 → Q (-13) mi7 ml7 z7)))) ∧ ((mi3 27 a1.toNatClampNeg) = a2 → Q (-12) mi3 ml3 z3))) ∧ (x3 = 0 → Q (-11) mi3 ml3 z3))))))) : CI l (h + 1) m_Sc_goInto [.ref 17, .int a1, .int a2] mi ml z Q := by
  show Ev l (h + 1) m_Sc_goInto 0 ([.ref 17, .int a1, .int a2, .retAddr 0, .retAddr 0], [], st mi ml z) (qI Q)
  refine ev_aload_n (i := 0) rfl rfl (a_dec_at dc_Sc_goInto 0 rfl) ?_
  refine m_getR (y := 18) fl_Sc_30 rfl sh17 (mr_17_0 _) (by decide) (a_dec_at dc_Sc_goInto 1 rfl) ?_
  refine ev_iload_n (i := 1) rfl rfl (a_dec_at dc_Sc_goInto 2 rfl) ?_
  refine cV1I cs_Sc_172 sh18 rfl (Nat.le_of_ble_eq_true rfl) (Nat.le_of_ble_eq_true rfl) (a_dec_at dc_Sc_goInto 3 rfl) ?_
  refine CI.mono (fun x1 mi1 ml1 z1 H => ?_) H
  refine ev_if_eq (tgt := 22) (a_dec_at dc_Sc_goInto 4 rfl) (by decide) (fun b2 => ?_) (fun b2 => ?_)
  · have H := H.1 b2
    refine ev_bipush (v := (-11)) rfl (a_dec_at dc_Sc_goInto 10 rfl) ?_
    exact m_retI (a_dec_at dc_Sc_goInto 11 rfl) rfl rfl H
  · have H := H.2 b2
    refine ev_aload_n (i := 0) rfl rfl (a_dec_at dc_Sc_goInto 5 rfl) ?_
    refine m_getR (y := 18) fl_Sc_30 rfl sh17 (mr_17_0 _) (by decide) (a_dec_at dc_Sc_goInto 6 rfl) ?_
    refine ev_iload_n (i := 2) rfl rfl (a_dec_at dc_Sc_goInto 7 rfl) ?_
    refine cV1I cs_Sc_176 sh18 rfl (Nat.le_of_ble_eq_true rfl) (Nat.le_of_ble_eq_true rfl) (a_dec_at dc_Sc_goInto 8 rfl) ?_
    refine CI.mono (fun x3 mi3 ml3 z3 H => ?_) H
    refine ev_if_ne (tgt := 25) (a_dec_at dc_Sc_goInto 9 rfl) (by decide) (fun b4 => ?_) (fun b4 => ?_)
    · have H := H.1 b4
      refine ev_aload_n (i := 0) rfl rfl (a_dec_at dc_Sc_goInto 12 rfl) ?_
      refine m_getR (y := 27) fl_Sc_11 rfl sh17 (mr_17_2 _) (by decide) (a_dec_at dc_Sc_goInto 13 rfl) ?_
      refine ev_iload_n (i := 1) rfl rfl (a_dec_at dc_Sc_goInto 14 rfl) ?_
      obtain ⟨c5, H⟩ := H
      refine w_iald (k := a1.toNatClampNeg) sh27 c5 rfl (a_dec_at dc_Sc_goInto 15 rfl) ?_
      refine ev_iload_n (i := 2) rfl rfl (a_dec_at dc_Sc_goInto 16 rfl) ?_
      refine ev_icmp_ne (tgt := 38) (a_dec_at dc_Sc_goInto 17 rfl) (by decide) (fun b6 => ?_) (fun b6 => ?_)
      · have H := H.1 b6
        refine ev_aload_n (i := 0) rfl rfl (a_dec_at dc_Sc_goInto 20 rfl) ?_
        refine ev_iload_n (i := 1) rfl rfl (a_dec_at dc_Sc_goInto 21 rfl) ?_
        refine ev_iload_n (i := 2) rfl rfl (a_dec_at dc_Sc_goInto 22 rfl) ?_
        refine cV2I cs_Sc_150 sh17 rfl (Nat.le_of_ble_eq_true rfl) (Nat.le_of_ble_eq_true rfl) (a_dec_at dc_Sc_goInto 23 rfl) ?_
        refine CI.mono (fun x7 mi7 ml7 z7 H => ?_) H
        refine ev_if_ne (tgt := 50) (a_dec_at dc_Sc_goInto 24 rfl) (by decide) (fun b8 => ?_) (fun b8 => ?_)
        · have H := H.1 b8
          refine ev_aload_n (i := 0) rfl rfl (a_dec_at dc_Sc_goInto 27 rfl) ?_
          refine ev_aload_n (i := 0) rfl rfl (a_dec_at dc_Sc_goInto 28 rfl) ?_
          refine m_getR (y := 27) fl_Sc_11 rfl sh17 (mr_17_2 _) (by decide) (a_dec_at dc_Sc_goInto 29 rfl) ?_
          refine ev_iload_n (i := 2) rfl rfl (a_dec_at dc_Sc_goInto 30 rfl) ?_
          refine ev_iload_n (i := 1) rfl rfl (a_dec_at dc_Sc_goInto 31 rfl) ?_
          refine cV3I cs_Sc_159 sh17 rfl (Nat.le_of_ble_eq_true rfl) (Nat.le_of_ble_eq_true rfl) (a_dec_at dc_Sc_goInto 32 rfl) ?_
          refine CI.mono (fun x9 mi9 ml9 z9 H => ?_) H
          refine ev_if_ne (tgt := 66) (a_dec_at dc_Sc_goInto 33 rfl) (by decide) (fun b10 => ?_) (fun b10 => ?_)
          · have H := H.1 b10
            refine ev_aload_n (i := 0) rfl rfl (a_dec_at dc_Sc_goInto 36 rfl) ?_
            refine ev_aload_n (i := 0) rfl rfl (a_dec_at dc_Sc_goInto 37 rfl) ?_
            refine m_getR (y := 27) fl_Sc_11 rfl sh17 (mr_17_2 _) (by decide) (a_dec_at dc_Sc_goInto 38 rfl) ?_
            refine ev_iload_n (i := 2) rfl rfl (a_dec_at dc_Sc_goInto 39 rfl) ?_
            refine cV2I cs_Sc_125 sh17 rfl (Nat.le_of_ble_eq_true rfl) (Nat.le_of_ble_eq_true rfl) (a_dec_at dc_Sc_goInto 40 rfl) ?_
            refine CI.mono (fun x11 mi11 ml11 z11 H => ?_) H
            refine ev_istore_n (i := 3) rfl (by decide) rfl (a_dec_at dc_Sc_goInto 41 rfl) ?_
            refine ev_iload_n (i := 3) rfl rfl (a_dec_at dc_Sc_goInto 42 rfl) ?_
            refine cS1I cs_Sc_145 rfl (Nat.le_of_ble_eq_true rfl) (Nat.le_of_ble_eq_true rfl) (a_dec_at dc_Sc_goInto 43 rfl) ?_
            refine CI.mono (fun x12 mi12 ml12 z12 H => ?_) H
            refine ev_aload_n (i := 0) rfl rfl (a_dec_at dc_Sc_goInto 44 rfl) ?_
            refine ev_iload_n (i := 2) rfl rfl (a_dec_at dc_Sc_goInto 45 rfl) ?_
            refine cV1I cs_Sc_163 sh17 rfl (Nat.le_of_ble_eq_true rfl) (Nat.le_of_ble_eq_true rfl) (a_dec_at dc_Sc_goInto 46 rfl) ?_
            refine CI.mono (fun x13 mi13 ml13 z13 H => ?_) H
            refine ev_icmp_ge (tgt := 92) (a_dec_at dc_Sc_goInto 47 rfl) (by decide) (fun b14 => ?_) (fun b14 => ?_)
            · have H := H.1 b14
              refine ev_aload_n (i := 0) rfl rfl (a_dec_at dc_Sc_goInto 50 rfl) ?_
              refine ev_iload_n (i := 2) rfl rfl (a_dec_at dc_Sc_goInto 51 rfl) ?_
              refine ev_iload_n (i := 3) rfl rfl (a_dec_at dc_Sc_goInto 52 rfl) ?_
              refine cV2I cs_Sc_166 sh17 rfl (Nat.le_of_ble_eq_true rfl) (Nat.le_of_ble_eq_true rfl) (a_dec_at dc_Sc_goInto 53 rfl) ?_
              refine CI.mono (fun x15 mi15 ml15 z15 H => ?_) H
              refine ev_istore (by decide) rfl (a_dec_at dc_Sc_goInto 54 rfl) ?_
              refine ev_iload rfl (a_dec_at dc_Sc_goInto 55 rfl) ?_
              refine ev_iconst (v := (-1)) rfl (a_dec_at dc_Sc_goInto 56 rfl) ?_
              refine ev_icmp_eq (tgt := 114) (a_dec_at dc_Sc_goInto 57 rfl) (by decide) (fun b16 => ?_) (fun b16 => ?_)
              · have H := H.1 b16
                refine ev_aload_n (i := 0) rfl rfl (a_dec_at dc_Sc_goInto 63 rfl) ?_
                refine m_getR (y := 27) fl_Sc_11 rfl sh17 (mr_17_2 _) (by decide) (a_dec_at dc_Sc_goInto 64 rfl) ?_
                refine ev_iload_n (i := 1) rfl rfl (a_dec_at dc_Sc_goInto 65 rfl) ?_
                refine ev_iload_n (i := 2) rfl rfl (a_dec_at dc_Sc_goInto 66 rfl) ?_
                obtain ⟨c17, H⟩ := H
                refine w_iast (k := a1.toNatClampNeg) sh27 c17 rfl (a_dec_at dc_Sc_goInto 67 rfl) ?_
                refine ev_iload rfl (a_dec_at dc_Sc_goInto 68 rfl) ?_
                exact m_retI (a_dec_at dc_Sc_goInto 69 rfl) rfl rfl H
              · have H := H.2 b16
                refine ev_aload_n (i := 0) rfl rfl (a_dec_at dc_Sc_goInto 58 rfl) ?_
                refine m_getR (y := 27) fl_Sc_11 rfl sh17 (mr_17_2 _) (by decide) (a_dec_at dc_Sc_goInto 59 rfl) ?_
                refine ev_iload rfl (a_dec_at dc_Sc_goInto 60 rfl) ?_
                refine ev_iconst (v := (-1)) rfl (a_dec_at dc_Sc_goInto 61 rfl) ?_
                obtain ⟨c18, H⟩ := H
                refine w_iast (k := x15.toNatClampNeg) sh27 c18 rfl (a_dec_at dc_Sc_goInto 62 rfl) ?_
                refine ev_aload_n (i := 0) rfl rfl (a_dec_at dc_Sc_goInto 63 rfl) ?_
                refine m_getR (y := 27) fl_Sc_11 rfl sh17 (mr_17_2 _) (by decide) (a_dec_at dc_Sc_goInto 64 rfl) ?_
                refine ev_iload_n (i := 1) rfl rfl (a_dec_at dc_Sc_goInto 65 rfl) ?_
                refine ev_iload_n (i := 2) rfl rfl (a_dec_at dc_Sc_goInto 66 rfl) ?_
                obtain ⟨c19, H⟩ := H
                refine w_iast (k := a1.toNatClampNeg) sh27 c19 rfl (a_dec_at dc_Sc_goInto 67 rfl) ?_
                refine ev_iload rfl (a_dec_at dc_Sc_goInto 68 rfl) ?_
                exact m_retI (a_dec_at dc_Sc_goInto 69 rfl) rfl rfl H
            · have H := H.2 b14
              refine ev_iconst (v := (-1)) rfl (a_dec_at dc_Sc_goInto 48 rfl) ?_
              refine ev_goto (tgt := 98) (a_dec_at dc_Sc_goInto 49 rfl) (by decide) ?_
              refine ev_istore (by decide) rfl (a_dec_at dc_Sc_goInto 54 rfl) ?_
              refine ev_iload rfl (a_dec_at dc_Sc_goInto 55 rfl) ?_
              refine ev_iconst (v := (-1)) rfl (a_dec_at dc_Sc_goInto 56 rfl) ?_
              refine ev_icmp_eq (tgt := 114) (a_dec_at dc_Sc_goInto 57 rfl) (by decide) (fun _ => ?_) (fun q => absurd (by decide) q)
              refine ev_aload_n (i := 0) rfl rfl (a_dec_at dc_Sc_goInto 63 rfl) ?_
              refine m_getR (y := 27) fl_Sc_11 rfl sh17 (mr_17_2 _) (by decide) (a_dec_at dc_Sc_goInto 64 rfl) ?_
              refine ev_iload_n (i := 1) rfl rfl (a_dec_at dc_Sc_goInto 65 rfl) ?_
              refine ev_iload_n (i := 2) rfl rfl (a_dec_at dc_Sc_goInto 66 rfl) ?_
              obtain ⟨c20, H⟩ := H
              refine w_iast (k := a1.toNatClampNeg) sh27 c20 rfl (a_dec_at dc_Sc_goInto 67 rfl) ?_
              refine ev_iload rfl (a_dec_at dc_Sc_goInto 68 rfl) ?_
              exact m_retI (a_dec_at dc_Sc_goInto 69 rfl) rfl rfl H
          · have H := H.2 b10
            refine ev_bipush (v := (-14)) rfl (a_dec_at dc_Sc_goInto 34 rfl) ?_
            exact m_retI (a_dec_at dc_Sc_goInto 35 rfl) rfl rfl H
        · have H := H.2 b8
          refine ev_bipush (v := (-13)) rfl (a_dec_at dc_Sc_goInto 25 rfl) ?_
          exact m_retI (a_dec_at dc_Sc_goInto 26 rfl) rfl rfl H
      · have H := H.2 b6
        refine ev_bipush (v := (-12)) rfl (a_dec_at dc_Sc_goInto 18 rfl) ?_
        exact m_retI (a_dec_at dc_Sc_goInto 19 rfl) rfl rfl H
    · have H := H.2 b4
      refine ev_bipush (v := (-11)) rfl (a_dec_at dc_Sc_goInto 10 rfl) ?_
      exact m_retI (a_dec_at dc_Sc_goInto 11 rfl) rfl rfl H
set_option maxRecDepth 20000 in
theorem t_Sc_bothWould_17 {l : Launch} {h : Nat} (mi : TMi) (ml : TMl) (z : Nat) (a1 : Int32) (a2 : Int32) {Q : Int32 → TMi → TMl → Nat → Prop} (H : (vp_in a1 6) ∧ (((((mi 32 a1.toNatClampNeg) >>> (a2 &&& 31)) &&& 1) = 0 → Q 0 mi ml z) ∧ (¬ (((mi 32 a1.toNatClampNeg) >>> (a2 &&& 31)) &&& 1) = 0 → Q 1 mi ml z))) : CI l (h + 1) m_Sc_bothWould [.ref 17, .int a1, .int a2] mi ml z Q := by
  show Ev l (h + 1) m_Sc_bothWould 0 ([.ref 17, .int a1, .int a2], [], st mi ml z) (qI Q)
  refine ev_aload_n (i := 0) rfl rfl (a_dec_at dc_Sc_bothWould 0 rfl) ?_
  refine m_getR (y := 32) fl_Sc_27 rfl sh17 (mr_17_7 _) (by decide) (a_dec_at dc_Sc_bothWould 1 rfl) ?_
  refine ev_iload_n (i := 1) rfl rfl (a_dec_at dc_Sc_bothWould 2 rfl) ?_
  obtain ⟨c1, H⟩ := H
  refine w_iald (k := a1.toNatClampNeg) sh32 c1 rfl (a_dec_at dc_Sc_bothWould 3 rfl) ?_
  refine ev_iload_n (i := 2) rfl rfl (a_dec_at dc_Sc_bothWould 4 rfl) ?_
  refine ev_ishr (a_dec_at dc_Sc_bothWould 5 rfl) ?_
  refine ev_iconst (v := 1) rfl (a_dec_at dc_Sc_bothWould 6 rfl) ?_
  refine ev_iand (a_dec_at dc_Sc_bothWould 7 rfl) ?_
  refine ev_if_eq (tgt := 17) (a_dec_at dc_Sc_bothWould 8 rfl) (by decide) (fun b2 => ?_) (fun b2 => ?_)
  · have H := H.1 b2
    refine ev_iconst (v := 0) rfl (a_dec_at dc_Sc_bothWould 11 rfl) ?_
    exact m_retI (a_dec_at dc_Sc_bothWould 12 rfl) rfl rfl H
  · have H := H.2 b2
    refine ev_iconst (v := 1) rfl (a_dec_at dc_Sc_bothWould 9 rfl) ?_
    refine ev_goto (tgt := 18) (a_dec_at dc_Sc_bothWould 10 rfl) (by decide) ?_
    exact m_retI (a_dec_at dc_Sc_bothWould 12 rfl) rfl rfl H
set_option maxRecDepth 20000 in
theorem t_Sc_wouldAdmit_17 {l : Launch} {h : Nat} (mi : TMi) (ml : TMl) (z : Nat) (w1 lw1 : Nat) (a2 : Int32) (a3 : Int32) (hw1 : SH[w1]? = some (.inr (0, lw1))) {Q : Int32 → TMi → TMl → Nat → Prop} (H : CI l h m_Sc_becksIn [.ref 17, .ref w1, .int a2] mi ml z (fun x1 mi1 ml1 z1 => CI l h m_JI_bitCount [.int x1] mi1 ml1 z1 (fun x2 mi2 ml2 z2 => CI l h m_Sc_roomOf [.ref 17, .int a2] mi2 ml2 z2 (fun x3 mi3 ml3 z3 => ((x3 ≤ x2 → CI l h m_Sc_leastLiked [.ref 17, .int a2, .int x1] mi3 ml3 z3 (fun x5 mi5 ml5 z5 => ((x5 = (-1) → Q 0 mi5 ml5 z5) ∧ (¬ x5 = (-1) → CI l h m_Sc_takesBetter [.ref 17, .int a2, .int a3, .int x5] mi5 ml5 z5 (fun x7 mi7 ml7 z7 => ((x7 = 0 → Q 0 mi7 ml7 z7) ∧ (¬ x7 = 0 → Q 1 mi7 ml7 z7))))))) ∧ (¬ x3 ≤ x2 → Q 1 mi3 ml3 z3)))))) : CI l (h + 1) m_Sc_wouldAdmit [.ref 17, .ref w1, .int a2, .int a3] mi ml z Q := by
  show Ev l (h + 1) m_Sc_wouldAdmit 0 ([.ref 17, .ref w1, .int a2, .int a3, .retAddr 0, .retAddr 0], [], st mi ml z) (qI Q)
  refine ev_aload_n (i := 0) rfl rfl (a_dec_at dc_Sc_wouldAdmit 0 rfl) ?_
  refine ev_aload_n (i := 1) rfl rfl (a_dec_at dc_Sc_wouldAdmit 1 rfl) ?_
  refine ev_iload_n (i := 2) rfl rfl (a_dec_at dc_Sc_wouldAdmit 2 rfl) ?_
  refine cV2I cs_Sc_125 sh17 rfl (Nat.le_of_ble_eq_true rfl) (Nat.le_of_ble_eq_true rfl) (a_dec_at dc_Sc_wouldAdmit 3 rfl) ?_
  refine CI.mono (fun x1 mi1 ml1 z1 H => ?_) H
  refine ev_istore (by decide) rfl (a_dec_at dc_Sc_wouldAdmit 4 rfl) ?_
  refine ev_iload rfl (a_dec_at dc_Sc_wouldAdmit 5 rfl) ?_
  refine cS1I cs_Sc_145 rfl (Nat.le_of_ble_eq_true rfl) (Nat.le_of_ble_eq_true rfl) (a_dec_at dc_Sc_wouldAdmit 6 rfl) ?_
  refine CI.mono (fun x2 mi2 ml2 z2 H => ?_) H
  refine ev_aload_n (i := 0) rfl rfl (a_dec_at dc_Sc_wouldAdmit 7 rfl) ?_
  refine ev_iload_n (i := 2) rfl rfl (a_dec_at dc_Sc_wouldAdmit 8 rfl) ?_
  refine cV1I cs_Sc_163 sh17 rfl (Nat.le_of_ble_eq_true rfl) (Nat.le_of_ble_eq_true rfl) (a_dec_at dc_Sc_wouldAdmit 9 rfl) ?_
  refine CI.mono (fun x3 mi3 ml3 z3 H => ?_) H
  refine ev_icmp_ge (tgt := 23) (a_dec_at dc_Sc_wouldAdmit 10 rfl) (by decide) (fun b4 => ?_) (fun b4 => ?_)
  · have H := H.1 b4
    refine ev_aload_n (i := 0) rfl rfl (a_dec_at dc_Sc_wouldAdmit 13 rfl) ?_
    refine ev_iload_n (i := 2) rfl rfl (a_dec_at dc_Sc_wouldAdmit 14 rfl) ?_
    refine ev_iload rfl (a_dec_at dc_Sc_wouldAdmit 15 rfl) ?_
    refine cV2I cs_Sc_166 sh17 rfl (Nat.le_of_ble_eq_true rfl) (Nat.le_of_ble_eq_true rfl) (a_dec_at dc_Sc_wouldAdmit 16 rfl) ?_
    refine CI.mono (fun x5 mi5 ml5 z5 H => ?_) H
    refine ev_istore (by decide) rfl (a_dec_at dc_Sc_wouldAdmit 17 rfl) ?_
    refine ev_iload rfl (a_dec_at dc_Sc_wouldAdmit 18 rfl) ?_
    refine ev_iconst (v := (-1)) rfl (a_dec_at dc_Sc_wouldAdmit 19 rfl) ?_
    refine ev_icmp_eq (tgt := 53) (a_dec_at dc_Sc_wouldAdmit 20 rfl) (by decide) (fun b6 => ?_) (fun b6 => ?_)
    · have H := H.1 b6
      refine ev_iconst (v := 0) rfl (a_dec_at dc_Sc_wouldAdmit 29 rfl) ?_
      exact m_retI (a_dec_at dc_Sc_wouldAdmit 30 rfl) rfl rfl H
    · have H := H.2 b6
      refine ev_aload_n (i := 0) rfl rfl (a_dec_at dc_Sc_wouldAdmit 21 rfl) ?_
      refine ev_iload_n (i := 2) rfl rfl (a_dec_at dc_Sc_wouldAdmit 22 rfl) ?_
      refine ev_iload_n (i := 3) rfl rfl (a_dec_at dc_Sc_wouldAdmit 23 rfl) ?_
      refine ev_iload rfl (a_dec_at dc_Sc_wouldAdmit 24 rfl) ?_
      refine cV3I cs_Sc_169 sh17 rfl (Nat.le_of_ble_eq_true rfl) (Nat.le_of_ble_eq_true rfl) (a_dec_at dc_Sc_wouldAdmit 25 rfl) ?_
      refine CI.mono (fun x7 mi7 ml7 z7 H => ?_) H
      refine ev_if_eq (tgt := 53) (a_dec_at dc_Sc_wouldAdmit 26 rfl) (by decide) (fun b8 => ?_) (fun b8 => ?_)
      · have H := H.1 b8
        refine ev_iconst (v := 0) rfl (a_dec_at dc_Sc_wouldAdmit 29 rfl) ?_
        exact m_retI (a_dec_at dc_Sc_wouldAdmit 30 rfl) rfl rfl H
      · have H := H.2 b8
        refine ev_iconst (v := 1) rfl (a_dec_at dc_Sc_wouldAdmit 27 rfl) ?_
        refine ev_goto (tgt := 54) (a_dec_at dc_Sc_wouldAdmit 28 rfl) (by decide) ?_
        exact m_retI (a_dec_at dc_Sc_wouldAdmit 30 rfl) rfl rfl H
  · have H := H.2 b4
    refine ev_iconst (v := 1) rfl (a_dec_at dc_Sc_wouldAdmit 11 rfl) ?_
    exact m_retI (a_dec_at dc_Sc_wouldAdmit 12 rfl) rfl rfl H
set_option maxRecDepth 20000 in
theorem t_Sc_takesBetter_17 {l : Launch} {h : Nat} (mi : TMi) (ml : TMl) (z : Nat) (a1 : Int32) (a2 : Int32) (a3 : Int32) {Q : Int32 → TMi → TMl → Nat → Prop} (H : CI l h m_B_pair [.int a2, .int a1] mi ml z (fun x1 mi1 ml1 z1 => (vp_in x1 24) ∧ CI l h m_B_pair [.int a3, .int a1] mi1 ml1 z1 (fun x3 mi3 ml3 z3 => (vp_in x3 24) ∧ (((mi1 31 x1.toNatClampNeg) ≤ (mi3 31 x3.toNatClampNeg) → Q 0 mi3 ml3 z3) ∧ (¬ (mi1 31 x1.toNatClampNeg) ≤ (mi3 31 x3.toNatClampNeg) → Q 1 mi3 ml3 z3))))) : CI l (h + 1) m_Sc_takesBetter [.ref 17, .int a1, .int a2, .int a3] mi ml z Q := by
  show Ev l (h + 1) m_Sc_takesBetter 0 ([.ref 17, .int a1, .int a2, .int a3], [], st mi ml z) (qI Q)
  refine ev_aload_n (i := 0) rfl rfl (a_dec_at dc_Sc_takesBetter 0 rfl) ?_
  refine m_getR (y := 31) fl_Sc_24 rfl sh17 (mr_17_6 _) (by decide) (a_dec_at dc_Sc_takesBetter 1 rfl) ?_
  refine ev_iload_n (i := 2) rfl rfl (a_dec_at dc_Sc_takesBetter 2 rfl) ?_
  refine ev_iload_n (i := 1) rfl rfl (a_dec_at dc_Sc_takesBetter 3 rfl) ?_
  refine cN2I cs_Sc_71 rfl (Nat.le_of_ble_eq_true rfl) (Nat.le_of_ble_eq_true rfl) (a_dec_at dc_Sc_takesBetter 4 rfl) ?_
  refine CI.mono (fun x1 mi1 ml1 z1 H => ?_) H
  obtain ⟨c2, H⟩ := H
  refine w_iald (k := x1.toNatClampNeg) sh31 c2 rfl (a_dec_at dc_Sc_takesBetter 5 rfl) ?_
  refine ev_aload_n (i := 0) rfl rfl (a_dec_at dc_Sc_takesBetter 6 rfl) ?_
  refine m_getR (y := 31) fl_Sc_24 rfl sh17 (mr_17_6 _) (by decide) (a_dec_at dc_Sc_takesBetter 7 rfl) ?_
  refine ev_iload_n (i := 3) rfl rfl (a_dec_at dc_Sc_takesBetter 8 rfl) ?_
  refine ev_iload_n (i := 1) rfl rfl (a_dec_at dc_Sc_takesBetter 9 rfl) ?_
  refine cN2I cs_Sc_71 rfl (Nat.le_of_ble_eq_true rfl) (Nat.le_of_ble_eq_true rfl) (a_dec_at dc_Sc_takesBetter 10 rfl) ?_
  refine CI.mono (fun x3 mi3 ml3 z3 H => ?_) H
  obtain ⟨c4, H⟩ := H
  refine w_iald (k := x3.toNatClampNeg) sh31 c4 rfl (a_dec_at dc_Sc_takesBetter 11 rfl) ?_
  refine ev_icmp_le (tgt := 27) (a_dec_at dc_Sc_takesBetter 12 rfl) (by decide) (fun b5 => ?_) (fun b5 => ?_)
  · have H := H.1 b5
    refine ev_iconst (v := 0) rfl (a_dec_at dc_Sc_takesBetter 15 rfl) ?_
    exact m_retI (a_dec_at dc_Sc_takesBetter 16 rfl) rfl rfl H
  · have H := H.2 b5
    refine ev_iconst (v := 1) rfl (a_dec_at dc_Sc_takesBetter 13 rfl) ?_
    refine ev_goto (tgt := 28) (a_dec_at dc_Sc_takesBetter 14 rfl) (by decide) ?_
    exact m_retI (a_dec_at dc_Sc_takesBetter 16 rfl) rfl rfl H
set_option maxRecDepth 20000 in
theorem t_Sc_goOut_17 {l : Launch} {h : Nat} (mi : TMi) (ml : TMl) (z : Nat) (a1 : Int32) {Q : Int32 → TMi → TMl → Nat → Prop} (H : CI l h m_La_hasBeck [.ref 18, .int a1] mi ml z (fun x1 mi1 ml1 z1 => ((¬ x1 = 0 → (vp_in a1 40) ∧ ((¬ (mi1 27 a1.toNatClampNeg) = (-1) → (vp_in a1 40) ∧ Q (mi1 27 a1.toNatClampNeg) (up mi1 27 a1.toNatClampNeg (-1)) ml1 z1) ∧ ((mi1 27 a1.toNatClampNeg) = (-1) → Q (-12) mi1 ml1 z1))) ∧ (x1 = 0 → Q (-11) mi1 ml1 z1)))) : CI l (h + 1) m_Sc_goOut [.ref 17, .int a1] mi ml z Q := by
  show Ev l (h + 1) m_Sc_goOut 0 ([.ref 17, .int a1, .retAddr 0], [], st mi ml z) (qI Q)
  refine ev_aload_n (i := 0) rfl rfl (a_dec_at dc_Sc_goOut 0 rfl) ?_
  refine m_getR (y := 18) fl_Sc_30 rfl sh17 (mr_17_0 _) (by decide) (a_dec_at dc_Sc_goOut 1 rfl) ?_
  refine ev_iload_n (i := 1) rfl rfl (a_dec_at dc_Sc_goOut 2 rfl) ?_
  refine cV1I cs_Sc_172 sh18 rfl (Nat.le_of_ble_eq_true rfl) (Nat.le_of_ble_eq_true rfl) (a_dec_at dc_Sc_goOut 3 rfl) ?_
  refine CI.mono (fun x1 mi1 ml1 z1 H => ?_) H
  refine ev_if_ne (tgt := 14) (a_dec_at dc_Sc_goOut 4 rfl) (by decide) (fun b2 => ?_) (fun b2 => ?_)
  · have H := H.1 b2
    refine ev_aload_n (i := 0) rfl rfl (a_dec_at dc_Sc_goOut 7 rfl) ?_
    refine m_getR (y := 27) fl_Sc_11 rfl sh17 (mr_17_2 _) (by decide) (a_dec_at dc_Sc_goOut 8 rfl) ?_
    refine ev_iload_n (i := 1) rfl rfl (a_dec_at dc_Sc_goOut 9 rfl) ?_
    obtain ⟨c3, H⟩ := H
    refine w_iald (k := a1.toNatClampNeg) sh27 c3 rfl (a_dec_at dc_Sc_goOut 10 rfl) ?_
    refine ev_istore_n (i := 2) rfl (by decide) rfl (a_dec_at dc_Sc_goOut 11 rfl) ?_
    refine ev_iload_n (i := 2) rfl rfl (a_dec_at dc_Sc_goOut 12 rfl) ?_
    refine ev_iconst (v := (-1)) rfl (a_dec_at dc_Sc_goOut 13 rfl) ?_
    refine ev_icmp_ne (tgt := 29) (a_dec_at dc_Sc_goOut 14 rfl) (by decide) (fun b4 => ?_) (fun b4 => ?_)
    · have H := H.1 b4
      refine ev_aload_n (i := 0) rfl rfl (a_dec_at dc_Sc_goOut 17 rfl) ?_
      refine m_getR (y := 27) fl_Sc_11 rfl sh17 (mr_17_2 _) (by decide) (a_dec_at dc_Sc_goOut 18 rfl) ?_
      refine ev_iload_n (i := 1) rfl rfl (a_dec_at dc_Sc_goOut 19 rfl) ?_
      refine ev_iconst (v := (-1)) rfl (a_dec_at dc_Sc_goOut 20 rfl) ?_
      obtain ⟨c5, H⟩ := H
      refine w_iast (k := a1.toNatClampNeg) sh27 c5 rfl (a_dec_at dc_Sc_goOut 21 rfl) ?_
      refine ev_iload_n (i := 2) rfl rfl (a_dec_at dc_Sc_goOut 22 rfl) ?_
      exact m_retI (a_dec_at dc_Sc_goOut 23 rfl) rfl rfl H
    · have H := H.2 b4
      refine ev_bipush (v := (-12)) rfl (a_dec_at dc_Sc_goOut 15 rfl) ?_
      exact m_retI (a_dec_at dc_Sc_goOut 16 rfl) rfl rfl H
  · have H := H.2 b2
    refine ev_bipush (v := (-11)) rfl (a_dec_at dc_Sc_goOut 5 rfl) ?_
    exact m_retI (a_dec_at dc_Sc_goOut 6 rfl) rfl rfl H
set_option maxRecDepth 20000 in
theorem t_Sc_give_17 {l : Launch} {h : Nat} (mi : TMi) (ml : TMl) (z : Nat) (a1 : Int32) (a2 : Int32) (a3 : Int32) {Q : Int32 → TMi → TMl → Nat → Prop} (H : CI l h m_La_hasBeck [.ref 18, .int a2] mi ml z (fun x1 mi1 ml1 z1 => ((x1 = 0 → Q (-11) mi1 ml1 z1) ∧ (¬ x1 = 0 → CI l h m_La_hasRiver [.ref 18, .int a1] mi1 ml1 z1 (fun x3 mi3 ml3 z3 => ((x3 = 0 → Q (-11) mi3 ml3 z3) ∧ (¬ x3 = 0 → ((a3 < 1 → Q (-11) mi3 ml3 z3) ∧ (¬ a3 < 1 → ((a3 ≤ 9 → CI l h m_Sc_giftsOf [.ref 17, .int a2, .int a1] mi3 ml3 z3 (fun x7 mi7 ml7 z7 => (((x7 + a3) ≤ 9 → CI l h m_B_pair [.int a2, .int a1] mi7 ml7 z7 (fun x9 mi9 ml9 z9 => (vp_in (16 + x9) 40) ∧ (vp_in a2 6) ∧ CV l h m_Sc_measure [.ref 17, .int a2, .int a1, .int ((up mi9 27 ((16 + x9).toNatClampNeg) (x7 + a3)) 20 a2.toNatClampNeg), .int (x7 + a3)] (up mi9 27 ((16 + x9).toNatClampNeg) (x7 + a3)) ml9 z9 (fun mi12 ml12 z12 => Q (x7 + a3) mi12 ml12 z12))) ∧ (¬ (x7 + a3) ≤ 9 → Q (-12) mi7 ml7 z7)))) ∧ (¬ a3 ≤ 9 → Q (-11) mi3 ml3 z3))))))))))) : CI l (h + 1) m_Sc_give [.ref 17, .int a1, .int a2, .int a3] mi ml z Q := by
  show Ev l (h + 1) m_Sc_give 0 ([.ref 17, .int a1, .int a2, .int a3, .retAddr 0], [], st mi ml z) (qI Q)
  refine ev_aload_n (i := 0) rfl rfl (a_dec_at dc_Sc_give 0 rfl) ?_
  refine m_getR (y := 18) fl_Sc_30 rfl sh17 (mr_17_0 _) (by decide) (a_dec_at dc_Sc_give 1 rfl) ?_
  refine ev_iload_n (i := 2) rfl rfl (a_dec_at dc_Sc_give 2 rfl) ?_
  refine cV1I cs_Sc_172 sh18 rfl (Nat.le_of_ble_eq_true rfl) (Nat.le_of_ble_eq_true rfl) (a_dec_at dc_Sc_give 3 rfl) ?_
  refine CI.mono (fun x1 mi1 ml1 z1 H => ?_) H
  refine ev_if_eq (tgt := 33) (a_dec_at dc_Sc_give 4 rfl) (by decide) (fun b2 => ?_) (fun b2 => ?_)
  · have H := H.1 b2
    refine ev_bipush (v := (-11)) rfl (a_dec_at dc_Sc_give 16 rfl) ?_
    exact m_retI (a_dec_at dc_Sc_give 17 rfl) rfl rfl H
  · have H := H.2 b2
    refine ev_aload_n (i := 0) rfl rfl (a_dec_at dc_Sc_give 5 rfl) ?_
    refine m_getR (y := 18) fl_Sc_30 rfl sh17 (mr_17_0 _) (by decide) (a_dec_at dc_Sc_give 6 rfl) ?_
    refine ev_iload_n (i := 1) rfl rfl (a_dec_at dc_Sc_give 7 rfl) ?_
    refine cV1I cs_Sc_176 sh18 rfl (Nat.le_of_ble_eq_true rfl) (Nat.le_of_ble_eq_true rfl) (a_dec_at dc_Sc_give 8 rfl) ?_
    refine CI.mono (fun x3 mi3 ml3 z3 H => ?_) H
    refine ev_if_eq (tgt := 33) (a_dec_at dc_Sc_give 9 rfl) (by decide) (fun b4 => ?_) (fun b4 => ?_)
    · have H := H.1 b4
      refine ev_bipush (v := (-11)) rfl (a_dec_at dc_Sc_give 16 rfl) ?_
      exact m_retI (a_dec_at dc_Sc_give 17 rfl) rfl rfl H
    · have H := H.2 b4
      refine ev_iload_n (i := 3) rfl rfl (a_dec_at dc_Sc_give 10 rfl) ?_
      refine ev_iconst (v := 1) rfl (a_dec_at dc_Sc_give 11 rfl) ?_
      refine ev_icmp_lt (tgt := 33) (a_dec_at dc_Sc_give 12 rfl) (by decide) (fun b5 => ?_) (fun b5 => ?_)
      · have H := H.1 b5
        refine ev_bipush (v := (-11)) rfl (a_dec_at dc_Sc_give 16 rfl) ?_
        exact m_retI (a_dec_at dc_Sc_give 17 rfl) rfl rfl H
      · have H := H.2 b5
        refine ev_iload_n (i := 3) rfl rfl (a_dec_at dc_Sc_give 13 rfl) ?_
        refine ev_bipush (v := 9) rfl (a_dec_at dc_Sc_give 14 rfl) ?_
        refine ev_icmp_le (tgt := 36) (a_dec_at dc_Sc_give 15 rfl) (by decide) (fun b6 => ?_) (fun b6 => ?_)
        · have H := H.1 b6
          refine ev_aload_n (i := 0) rfl rfl (a_dec_at dc_Sc_give 18 rfl) ?_
          refine ev_iload_n (i := 2) rfl rfl (a_dec_at dc_Sc_give 19 rfl) ?_
          refine ev_iload_n (i := 1) rfl rfl (a_dec_at dc_Sc_give 20 rfl) ?_
          refine cV2I cs_Sc_82 sh17 rfl (Nat.le_of_ble_eq_true rfl) (Nat.le_of_ble_eq_true rfl) (a_dec_at dc_Sc_give 21 rfl) ?_
          refine CI.mono (fun x7 mi7 ml7 z7 H => ?_) H
          refine ev_iload_n (i := 3) rfl rfl (a_dec_at dc_Sc_give 22 rfl) ?_
          refine ev_iadd (a_dec_at dc_Sc_give 23 rfl) ?_
          refine ev_istore (by decide) rfl (a_dec_at dc_Sc_give 24 rfl) ?_
          refine ev_iload rfl (a_dec_at dc_Sc_give 25 rfl) ?_
          refine ev_bipush (v := 9) rfl (a_dec_at dc_Sc_give 26 rfl) ?_
          refine ev_icmp_le (tgt := 56) (a_dec_at dc_Sc_give 27 rfl) (by decide) (fun b8 => ?_) (fun b8 => ?_)
          · have H := H.1 b8
            refine ev_aload_n (i := 0) rfl rfl (a_dec_at dc_Sc_give 30 rfl) ?_
            refine m_getR (y := 27) fl_Sc_11 rfl sh17 (mr_17_2 _) (by decide) (a_dec_at dc_Sc_give 31 rfl) ?_
            refine ev_bipush (v := 16) rfl (a_dec_at dc_Sc_give 32 rfl) ?_
            refine ev_iload_n (i := 2) rfl rfl (a_dec_at dc_Sc_give 33 rfl) ?_
            refine ev_iload_n (i := 1) rfl rfl (a_dec_at dc_Sc_give 34 rfl) ?_
            refine cN2I cs_Sc_71 rfl (Nat.le_of_ble_eq_true rfl) (Nat.le_of_ble_eq_true rfl) (a_dec_at dc_Sc_give 35 rfl) ?_
            refine CI.mono (fun x9 mi9 ml9 z9 H => ?_) H
            refine ev_iadd (a_dec_at dc_Sc_give 36 rfl) ?_
            refine ev_iload rfl (a_dec_at dc_Sc_give 37 rfl) ?_
            obtain ⟨c10, H⟩ := H
            refine w_iast (k := (16 + x9).toNatClampNeg) sh27 c10 rfl (a_dec_at dc_Sc_give 38 rfl) ?_
            refine ev_aload_n (i := 0) rfl rfl (a_dec_at dc_Sc_give 39 rfl) ?_
            refine ev_iload_n (i := 2) rfl rfl (a_dec_at dc_Sc_give 40 rfl) ?_
            refine ev_iload_n (i := 1) rfl rfl (a_dec_at dc_Sc_give 41 rfl) ?_
            refine ev_aload_n (i := 0) rfl rfl (a_dec_at dc_Sc_give 42 rfl) ?_
            refine m_getR (y := 18) fl_Sc_30 rfl sh17 (mr_17_0 _) (by decide) (a_dec_at dc_Sc_give 43 rfl) ?_
            refine m_getR (y := 20) fl_Sc_75 rfl sh18 (mr_18_4 _) (by decide) (a_dec_at dc_Sc_give 44 rfl) ?_
            refine ev_iload_n (i := 2) rfl rfl (a_dec_at dc_Sc_give 45 rfl) ?_
            obtain ⟨c11, H⟩ := H
            refine w_iald (k := a2.toNatClampNeg) sh20 c11 rfl (a_dec_at dc_Sc_give 46 rfl) ?_
            refine ev_iload rfl (a_dec_at dc_Sc_give 47 rfl) ?_
            refine cV4V cs_Sc_85 sh17 rfl (Nat.le_of_ble_eq_true rfl) (Nat.le_of_ble_eq_true rfl) (a_dec_at dc_Sc_give 48 rfl) ?_
            refine CV.mono (fun mi12 ml12 z12 H => ?_) H
            refine ev_iload rfl (a_dec_at dc_Sc_give 49 rfl) ?_
            exact m_retI (a_dec_at dc_Sc_give 50 rfl) rfl rfl H
          · have H := H.2 b8
            refine ev_bipush (v := (-12)) rfl (a_dec_at dc_Sc_give 28 rfl) ?_
            exact m_retI (a_dec_at dc_Sc_give 29 rfl) rfl rfl H
        · have H := H.2 b6
          refine ev_bipush (v := (-11)) rfl (a_dec_at dc_Sc_give 16 rfl) ?_
          exact m_retI (a_dec_at dc_Sc_give 17 rfl) rfl rfl H
set_option maxRecDepth 20000 in
theorem t_Sc_pour_17 {l : Launch} {h : Nat} (mi : TMi) (ml : TMl) (z : Nat) (a1 : Int32) (a2 : Int32) {Q : Int32 → TMi → TMl → Nat → Prop} (H : CI l h m_La_hasBeck [.ref 18, .int a1] mi ml z (fun x1 mi1 ml1 z1 => ((x1 = 0 → Q (-11) mi1 ml1 z1) ∧ (¬ x1 = 0 → ((a2 < 0 → Q (-11) mi1 ml1 z1) ∧ (¬ a2 < 0 → ((a2 ≤ 9 → CI l h m_Sc_flowOf [.ref 17, .int a1] mi1 ml1 z1 (fun x5 mi5 ml5 z5 => (vp_in (6 + a1) 40) ∧ (vp_in a1 6) ∧ CV l h m_Sc_measureBeck [.ref 17, .int a1, .int ((up mi5 27 ((6 + a1).toNatClampNeg) a2) 20 a1.toNatClampNeg)] (up mi5 27 ((6 + a1).toNatClampNeg) a2) ml5 z5 (fun mi8 ml8 z8 => Q x5 mi8 ml8 z8))) ∧ (¬ a2 ≤ 9 → Q (-11) mi1 ml1 z1)))))))) : CI l (h + 1) m_Sc_pour [.ref 17, .int a1, .int a2] mi ml z Q := by
  show Ev l (h + 1) m_Sc_pour 0 ([.ref 17, .int a1, .int a2, .retAddr 0], [], st mi ml z) (qI Q)
  refine ev_aload_n (i := 0) rfl rfl (a_dec_at dc_Sc_pour 0 rfl) ?_
  refine m_getR (y := 18) fl_Sc_30 rfl sh17 (mr_17_0 _) (by decide) (a_dec_at dc_Sc_pour 1 rfl) ?_
  refine ev_iload_n (i := 1) rfl rfl (a_dec_at dc_Sc_pour 2 rfl) ?_
  refine cV1I cs_Sc_172 sh18 rfl (Nat.le_of_ble_eq_true rfl) (Nat.le_of_ble_eq_true rfl) (a_dec_at dc_Sc_pour 3 rfl) ?_
  refine CI.mono (fun x1 mi1 ml1 z1 H => ?_) H
  refine ev_if_eq (tgt := 21) (a_dec_at dc_Sc_pour 4 rfl) (by decide) (fun b2 => ?_) (fun b2 => ?_)
  · have H := H.1 b2
    refine ev_bipush (v := (-11)) rfl (a_dec_at dc_Sc_pour 10 rfl) ?_
    exact m_retI (a_dec_at dc_Sc_pour 11 rfl) rfl rfl H
  · have H := H.2 b2
    refine ev_iload_n (i := 2) rfl rfl (a_dec_at dc_Sc_pour 5 rfl) ?_
    refine ev_if_lt (tgt := 21) (a_dec_at dc_Sc_pour 6 rfl) (by decide) (fun b3 => ?_) (fun b3 => ?_)
    · have H := H.1 b3
      refine ev_bipush (v := (-11)) rfl (a_dec_at dc_Sc_pour 10 rfl) ?_
      exact m_retI (a_dec_at dc_Sc_pour 11 rfl) rfl rfl H
    · have H := H.2 b3
      refine ev_iload_n (i := 2) rfl rfl (a_dec_at dc_Sc_pour 7 rfl) ?_
      refine ev_bipush (v := 9) rfl (a_dec_at dc_Sc_pour 8 rfl) ?_
      refine ev_icmp_le (tgt := 24) (a_dec_at dc_Sc_pour 9 rfl) (by decide) (fun b4 => ?_) (fun b4 => ?_)
      · have H := H.1 b4
        refine ev_aload_n (i := 0) rfl rfl (a_dec_at dc_Sc_pour 12 rfl) ?_
        refine ev_iload_n (i := 1) rfl rfl (a_dec_at dc_Sc_pour 13 rfl) ?_
        refine cV1I cs_Sc_89 sh17 rfl (Nat.le_of_ble_eq_true rfl) (Nat.le_of_ble_eq_true rfl) (a_dec_at dc_Sc_pour 14 rfl) ?_
        refine CI.mono (fun x5 mi5 ml5 z5 H => ?_) H
        refine ev_istore_n (i := 3) rfl (by decide) rfl (a_dec_at dc_Sc_pour 15 rfl) ?_
        refine ev_aload_n (i := 0) rfl rfl (a_dec_at dc_Sc_pour 16 rfl) ?_
        refine m_getR (y := 27) fl_Sc_11 rfl sh17 (mr_17_2 _) (by decide) (a_dec_at dc_Sc_pour 17 rfl) ?_
        refine ev_bipush (v := 6) rfl (a_dec_at dc_Sc_pour 18 rfl) ?_
        refine ev_iload_n (i := 1) rfl rfl (a_dec_at dc_Sc_pour 19 rfl) ?_
        refine ev_iadd (a_dec_at dc_Sc_pour 20 rfl) ?_
        refine ev_iload_n (i := 2) rfl rfl (a_dec_at dc_Sc_pour 21 rfl) ?_
        obtain ⟨c6, H⟩ := H
        refine w_iast (k := (6 + a1).toNatClampNeg) sh27 c6 rfl (a_dec_at dc_Sc_pour 22 rfl) ?_
        refine ev_aload_n (i := 0) rfl rfl (a_dec_at dc_Sc_pour 23 rfl) ?_
        refine ev_iload_n (i := 1) rfl rfl (a_dec_at dc_Sc_pour 24 rfl) ?_
        refine ev_aload_n (i := 0) rfl rfl (a_dec_at dc_Sc_pour 25 rfl) ?_
        refine m_getR (y := 18) fl_Sc_30 rfl sh17 (mr_17_0 _) (by decide) (a_dec_at dc_Sc_pour 26 rfl) ?_
        refine m_getR (y := 20) fl_Sc_75 rfl sh18 (mr_18_4 _) (by decide) (a_dec_at dc_Sc_pour 27 rfl) ?_
        refine ev_iload_n (i := 1) rfl rfl (a_dec_at dc_Sc_pour 28 rfl) ?_
        obtain ⟨c7, H⟩ := H
        refine w_iald (k := a1.toNatClampNeg) sh20 c7 rfl (a_dec_at dc_Sc_pour 29 rfl) ?_
        refine cV2V cs_Sc_78 sh17 rfl (Nat.le_of_ble_eq_true rfl) (Nat.le_of_ble_eq_true rfl) (a_dec_at dc_Sc_pour 30 rfl) ?_
        refine CV.mono (fun mi8 ml8 z8 H => ?_) H
        refine ev_iload_n (i := 3) rfl rfl (a_dec_at dc_Sc_pour 31 rfl) ?_
        exact m_retI (a_dec_at dc_Sc_pour 32 rfl) rfl rfl H
      · have H := H.2 b4
        refine ev_bipush (v := (-11)) rfl (a_dec_at dc_Sc_pour 10 rfl) ?_
        exact m_retI (a_dec_at dc_Sc_pour 11 rfl) rfl rfl H
set_option maxRecDepth 20000 in
theorem t_Sc_widen_17 {l : Launch} {h : Nat} (mi : TMi) (ml : TMl) (z : Nat) (a1 : Int32) (a2 : Int32) {Q : Int32 → TMi → TMl → Nat → Prop} (H : CI l h m_La_hasRiver [.ref 18, .int a1] mi ml z (fun x1 mi1 ml1 z1 => ((x1 = 0 → Q (-11) mi1 ml1 z1) ∧ (¬ x1 = 0 → ((a2 < 0 → Q (-11) mi1 ml1 z1) ∧ (¬ a2 < 0 → ((a2 ≤ 6 → (vp_in (12 + a1) 40) ∧ CI l h m_Sc_becksIn [.ref 17, .ref 27, .int a1] (up mi1 27 ((12 + a1).toNatClampNeg) a2) ml1 z1 (fun x6 mi6 ml6 z6 => Ev l (h + 1) m_Sc_widen 50 ([.ref 17, .int a1, .int a2, .int x6, .int 0, .int 0, .retAddr 0], [], st mi6 ml6 z6) (qI Q))) ∧ (¬ a2 ≤ 6 → Q (-11) mi1 ml1 z1)))))))) : CI l (h + 1) m_Sc_widen [.ref 17, .int a1, .int a2] mi ml z Q := by
  show Ev l (h + 1) m_Sc_widen 0 ([.ref 17, .int a1, .int a2, .retAddr 0, .retAddr 0, .retAddr 0, .retAddr 0], [], st mi ml z) (qI Q)
  refine ev_aload_n (i := 0) rfl rfl (a_dec_at dc_Sc_widen 0 rfl) ?_
  refine m_getR (y := 18) fl_Sc_30 rfl sh17 (mr_17_0 _) (by decide) (a_dec_at dc_Sc_widen 1 rfl) ?_
  refine ev_iload_n (i := 1) rfl rfl (a_dec_at dc_Sc_widen 2 rfl) ?_
  refine cV1I cs_Sc_176 sh18 rfl (Nat.le_of_ble_eq_true rfl) (Nat.le_of_ble_eq_true rfl) (a_dec_at dc_Sc_widen 3 rfl) ?_
  refine CI.mono (fun x1 mi1 ml1 z1 H => ?_) H
  refine ev_if_eq (tgt := 21) (a_dec_at dc_Sc_widen 4 rfl) (by decide) (fun b2 => ?_) (fun b2 => ?_)
  · have H := H.1 b2
    refine ev_bipush (v := (-11)) rfl (a_dec_at dc_Sc_widen 10 rfl) ?_
    exact m_retI (a_dec_at dc_Sc_widen 11 rfl) rfl rfl H
  · have H := H.2 b2
    refine ev_iload_n (i := 2) rfl rfl (a_dec_at dc_Sc_widen 5 rfl) ?_
    refine ev_if_lt (tgt := 21) (a_dec_at dc_Sc_widen 6 rfl) (by decide) (fun b3 => ?_) (fun b3 => ?_)
    · have H := H.1 b3
      refine ev_bipush (v := (-11)) rfl (a_dec_at dc_Sc_widen 10 rfl) ?_
      exact m_retI (a_dec_at dc_Sc_widen 11 rfl) rfl rfl H
    · have H := H.2 b3
      refine ev_iload_n (i := 2) rfl rfl (a_dec_at dc_Sc_widen 7 rfl) ?_
      refine ev_bipush (v := 6) rfl (a_dec_at dc_Sc_widen 8 rfl) ?_
      refine ev_icmp_le (tgt := 24) (a_dec_at dc_Sc_widen 9 rfl) (by decide) (fun b4 => ?_) (fun b4 => ?_)
      · have H := H.1 b4
        refine ev_aload_n (i := 0) rfl rfl (a_dec_at dc_Sc_widen 12 rfl) ?_
        refine m_getR (y := 27) fl_Sc_11 rfl sh17 (mr_17_2 _) (by decide) (a_dec_at dc_Sc_widen 13 rfl) ?_
        refine ev_bipush (v := 12) rfl (a_dec_at dc_Sc_widen 14 rfl) ?_
        refine ev_iload_n (i := 1) rfl rfl (a_dec_at dc_Sc_widen 15 rfl) ?_
        refine ev_iadd (a_dec_at dc_Sc_widen 16 rfl) ?_
        refine ev_iload_n (i := 2) rfl rfl (a_dec_at dc_Sc_widen 17 rfl) ?_
        obtain ⟨c5, H⟩ := H
        refine w_iast (k := (12 + a1).toNatClampNeg) sh27 c5 rfl (a_dec_at dc_Sc_widen 18 rfl) ?_
        refine ev_aload_n (i := 0) rfl rfl (a_dec_at dc_Sc_widen 19 rfl) ?_
        refine ev_aload_n (i := 0) rfl rfl (a_dec_at dc_Sc_widen 20 rfl) ?_
        refine m_getR (y := 27) fl_Sc_11 rfl sh17 (mr_17_2 _) (by decide) (a_dec_at dc_Sc_widen 21 rfl) ?_
        refine ev_iload_n (i := 1) rfl rfl (a_dec_at dc_Sc_widen 22 rfl) ?_
        refine cV2I cs_Sc_125 sh17 rfl (Nat.le_of_ble_eq_true rfl) (Nat.le_of_ble_eq_true rfl) (a_dec_at dc_Sc_widen 23 rfl) ?_
        refine CI.mono (fun x6 mi6 ml6 z6 H => ?_) H
        refine ev_istore_n (i := 3) rfl (by decide) rfl (a_dec_at dc_Sc_widen 24 rfl) ?_
        refine ev_iconst (v := 0) rfl (a_dec_at dc_Sc_widen 25 rfl) ?_
        refine ev_istore (by decide) rfl (a_dec_at dc_Sc_widen 26 rfl) ?_
        refine ev_iconst (v := 0) rfl (a_dec_at dc_Sc_widen 27 rfl) ?_
        refine ev_istore (by decide) rfl (a_dec_at dc_Sc_widen 28 rfl) ?_
        exact Ev.drop (L' := [.ref 17, .int a1, .int a2, .int x6, .int 0, .int 0, .retAddr 0]) (And.intro rfl (And.intro rfl (And.intro rfl (And.intro rfl (And.intro rfl (And.intro rfl trivial)))))) H
      · have H := H.2 b4
        refine ev_bipush (v := (-11)) rfl (a_dec_at dc_Sc_widen 10 rfl) ?_
        exact m_retI (a_dec_at dc_Sc_widen 11 rfl) rfl rfl H
set_option maxRecDepth 20000 in
theorem t_Sc_widen_17_50 {l : Launch} {h : Nat} (mi : TMi) (ml : TMl) (z : Nat) (v1 : Int32) (v2 : Int32) (v3 : Int32) (v4 : Int32) (v5 : Int32) {Q : Int32 → TMi → TMl → Nat → Prop} (H : ((6 ≤ v5 → Q v4 mi ml z) ∧ (¬ 6 ≤ v5 → CI l h m_JI_bitCount [.int v3] mi ml z (fun x2 mi2 ml2 z2 => ((x2 ≤ v2 → Q v4 mi2 ml2 z2) ∧ (¬ x2 ≤ v2 → CI l h m_Sc_leastLiked [.ref 17, .int v1, .int v3] mi2 ml2 z2 (fun x4 mi4 ml4 z4 => ((x4 = (-1) → Ev l (h + 1) m_Sc_widen 50 ([.ref 17, .int v1, .int v2, .int v3, .int v4, .int (v5 + 1), .retAddr 0], [], st mi4 ml4 z4) (qI Q)) ∧ (¬ x4 = (-1) → (vp_in x4 40) ∧ Ev l (h + 1) m_Sc_widen 50 ([.ref 17, .int v1, .int v2, .int (v3 &&& (((1 : Int32) <<< (x4 &&& 31)) ^^^ (-1))), .int (v4 + 1), .int (v5 + 1), .retAddr 0], [], st (up mi4 27 x4.toNatClampNeg (-1)) ml4 z4) (qI Q)))))))))) : Ev l (h + 1) m_Sc_widen 50 ([.ref 17, .int v1, .int v2, .int v3, .int v4, .int v5, .retAddr 0], [], st mi ml z) (qI Q) := by
  refine ev_iload rfl (a_dec_at dc_Sc_widen 29 rfl) ?_
  refine ev_bipush (v := 6) rfl (a_dec_at dc_Sc_widen 30 rfl) ?_
  refine ev_icmp_ge (tgt := 105) (a_dec_at dc_Sc_widen 31 rfl) (by decide) (fun b1 => ?_) (fun b1 => ?_)
  · have H := H.1 b1
    refine ev_iload rfl (a_dec_at dc_Sc_widen 60 rfl) ?_
    exact m_retI (a_dec_at dc_Sc_widen 61 rfl) rfl rfl H
  · have H := H.2 b1
    refine ev_iload_n (i := 3) rfl rfl (a_dec_at dc_Sc_widen 32 rfl) ?_
    refine cS1I cs_Sc_145 rfl (Nat.le_of_ble_eq_true rfl) (Nat.le_of_ble_eq_true rfl) (a_dec_at dc_Sc_widen 33 rfl) ?_
    refine CI.mono (fun x2 mi2 ml2 z2 H => ?_) H
    refine ev_iload_n (i := 2) rfl rfl (a_dec_at dc_Sc_widen 34 rfl) ?_
    refine ev_icmp_le (tgt := 105) (a_dec_at dc_Sc_widen 35 rfl) (by decide) (fun b3 => ?_) (fun b3 => ?_)
    · have H := H.1 b3
      refine ev_iload rfl (a_dec_at dc_Sc_widen 60 rfl) ?_
      exact m_retI (a_dec_at dc_Sc_widen 61 rfl) rfl rfl H
    · have H := H.2 b3
      refine ev_aload_n (i := 0) rfl rfl (a_dec_at dc_Sc_widen 36 rfl) ?_
      refine ev_iload_n (i := 1) rfl rfl (a_dec_at dc_Sc_widen 37 rfl) ?_
      refine ev_iload_n (i := 3) rfl rfl (a_dec_at dc_Sc_widen 38 rfl) ?_
      refine cV2I cs_Sc_166 sh17 rfl (Nat.le_of_ble_eq_true rfl) (Nat.le_of_ble_eq_true rfl) (a_dec_at dc_Sc_widen 39 rfl) ?_
      refine CI.mono (fun x4 mi4 ml4 z4 H => ?_) H
      refine ev_istore (by decide) rfl (a_dec_at dc_Sc_widen 40 rfl) ?_
      refine ev_iload rfl (a_dec_at dc_Sc_widen 41 rfl) ?_
      refine ev_iconst (v := (-1)) rfl (a_dec_at dc_Sc_widen 42 rfl) ?_
      refine ev_icmp_eq (tgt := 99) (a_dec_at dc_Sc_widen 43 rfl) (by decide) (fun b5 => ?_) (fun b5 => ?_)
      · have H := H.1 b5
        refine ev_iinc (v := 1) rfl rfl (by decide) rfl (a_dec_at dc_Sc_widen 58 rfl) ?_
        refine ev_goto (tgt := 50) (a_dec_at dc_Sc_widen 59 rfl) (by decide) ?_
        exact Ev.drop (L' := [.ref 17, .int v1, .int v2, .int v3, .int v4, .int (v5 + 1), .retAddr 0]) (And.intro rfl (And.intro rfl (And.intro rfl (And.intro rfl (And.intro rfl (And.intro rfl trivial)))))) H
      · have H := H.2 b5
        refine ev_aload_n (i := 0) rfl rfl (a_dec_at dc_Sc_widen 44 rfl) ?_
        refine m_getR (y := 27) fl_Sc_11 rfl sh17 (mr_17_2 _) (by decide) (a_dec_at dc_Sc_widen 45 rfl) ?_
        refine ev_iload rfl (a_dec_at dc_Sc_widen 46 rfl) ?_
        refine ev_iconst (v := (-1)) rfl (a_dec_at dc_Sc_widen 47 rfl) ?_
        obtain ⟨c6, H⟩ := H
        refine w_iast (k := x4.toNatClampNeg) sh27 c6 rfl (a_dec_at dc_Sc_widen 48 rfl) ?_
        refine ev_iload_n (i := 3) rfl rfl (a_dec_at dc_Sc_widen 49 rfl) ?_
        refine ev_iconst (v := 1) rfl (a_dec_at dc_Sc_widen 50 rfl) ?_
        refine ev_iload rfl (a_dec_at dc_Sc_widen 51 rfl) ?_
        refine ev_ishl (a_dec_at dc_Sc_widen 52 rfl) ?_
        refine ev_iconst (v := (-1)) rfl (a_dec_at dc_Sc_widen 53 rfl) ?_
        refine ev_ixor (a_dec_at dc_Sc_widen 54 rfl) ?_
        refine ev_iand (a_dec_at dc_Sc_widen 55 rfl) ?_
        refine ev_istore_n (i := 3) rfl (by decide) rfl (a_dec_at dc_Sc_widen 56 rfl) ?_
        refine ev_iinc (v := 1) rfl rfl (by decide) rfl (a_dec_at dc_Sc_widen 57 rfl) ?_
        refine ev_iinc (v := 1) rfl rfl (by decide) rfl (a_dec_at dc_Sc_widen 58 rfl) ?_
        refine ev_goto (tgt := 50) (a_dec_at dc_Sc_widen 59 rfl) (by decide) ?_
        exact Ev.drop (L' := [.ref 17, .int v1, .int v2, .int (v3 &&& (((1 : Int32) <<< (x4 &&& 31)) ^^^ (-1))), .int (v4 + 1), .int (v5 + 1), .retAddr 0]) (And.intro rfl (And.intro rfl (And.intro rfl (And.intro rfl (And.intro rfl (And.intro rfl trivial)))))) H
set_option maxRecDepth 20000 in
theorem t_Sc_whyNot_17 {l : Launch} {h : Nat} (mi : TMi) (ml : TMl) (z : Nat) (a1 : Int64) {Q : Int32 → TMi → TMl → Nat → Prop} (H : (((lg_cmp a1 0) < 0 → Q ((-10 : Int32) - (-11)) mi ml z) ∧ (¬ (lg_cmp a1 0) < 0 → (((lg_cmp a1 499) ≤ 0 → ((0 ≤ a1.toInt32 → (((a1.toInt32 / 100) = 0 → CI l h m_Sc_goInto [.ref 17, .int (a_rem (a1.toInt32 / 10) 10), .int (a_rem a1.toInt32 10)] mi ml z (fun x5 mi5 ml5 z5 => (((-1) ≤ x5 → Q 0 mi5 ml5 z5) ∧ (¬ (-1) ≤ x5 → Q ((-10) - x5) mi5 ml5 z5)))) ∧ (((a1.toInt32 / 100) = 1 → ((¬ (a_rem (a1.toInt32 / 10) 10) = 0 → Q ((-10 : Int32) - (-11)) mi ml z) ∧ ((a_rem (a1.toInt32 / 10) 10) = 0 → CI l h m_Sc_goOut [.ref 17, .int (a_rem a1.toInt32 10)] mi ml z (fun x9 mi9 ml9 z9 => (((-1) ≤ x9 → Q 0 mi9 ml9 z9) ∧ (¬ (-1) ≤ x9 → Q ((-10) - x9) mi9 ml9 z9)))))) ∧ (((a1.toInt32 / 100) = 2 → CI l h m_Sc_give [.ref 17, .int (a_rem (a1.toInt32 / 10) 10), .int (a_rem a1.toInt32 10), .int 1] mi ml z (fun x12 mi12 ml12 z12 => (((-1) ≤ x12 → Q 0 mi12 ml12 z12) ∧ (¬ (-1) ≤ x12 → Q ((-10) - x12) mi12 ml12 z12)))) ∧ (((a1.toInt32 / 100) = 3 → CI l h m_Sc_pour [.ref 17, .int (a_rem (a1.toInt32 / 10) 10), .int (a_rem a1.toInt32 10)] mi ml z (fun x15 mi15 ml15 z15 => (((-1) ≤ x15 → Q 0 mi15 ml15 z15) ∧ (¬ (-1) ≤ x15 → Q ((-10) - x15) mi15 ml15 z15)))) ∧ (((a1.toInt32 / 100) = 4 → CI l h m_Sc_widen [.ref 17, .int (a_rem (a1.toInt32 / 10) 10), .int (a_rem a1.toInt32 10)] mi ml z (fun x18 mi18 ml18 z18 => (((-1) ≤ x18 → Q 0 mi18 ml18 z18) ∧ (¬ (-1) ≤ x18 → Q ((-10) - x18) mi18 ml18 z18)))) ∧ (¬ (a1.toInt32 / 100) = 0 → ¬ (a1.toInt32 / 100) = 1 → ¬ (a1.toInt32 / 100) = 2 → ¬ (a1.toInt32 / 100) = 3 → ¬ (a1.toInt32 / 100) = 4 → Q ((-10 : Int32) - (-11)) mi ml z))))))) ∧ (¬ 0 ≤ a1.toInt32 → Q ((-10 : Int32) - (-11)) mi ml z))) ∧ (¬ (lg_cmp a1 499) ≤ 0 → Q ((-10 : Int32) - (-11)) mi ml z))))) : CI l (h + 1) m_Sc_whyNot [.ref 17, .long a1] mi ml z Q := by
  show Ev l (h + 1) m_Sc_whyNot 0 ([.ref 17, .long a1, .retAddr 0, .retAddr 0, .retAddr 0, .retAddr 0, .retAddr 0], [], st mi ml z) (qI Q)
  refine ev_lload_n (i := 1) rfl rfl (a_dec_at dc_Sc_whyNot 0 rfl) ?_
  refine ev_lconst (v := 0) rfl (a_dec_at dc_Sc_whyNot 1 rfl) ?_
  refine ev_lcmp (a_dec_at dc_Sc_whyNot 2 rfl) ?_
  refine ev_if_lt (tgt := 14) (a_dec_at dc_Sc_whyNot 3 rfl) (by decide) (fun b1 => ?_) (fun b1 => ?_)
  · have H := H.1 b1
    refine ev_iconst (v := (-1)) rfl (a_dec_at dc_Sc_whyNot 8 rfl) ?_
    refine ev_goto (tgt := 20) (a_dec_at dc_Sc_whyNot 9 rfl) (by decide) ?_
    refine ev_istore_n (i := 3) rfl (by decide) rfl (a_dec_at dc_Sc_whyNot 12 rfl) ?_
    refine ev_iload_n (i := 3) rfl rfl (a_dec_at dc_Sc_whyNot 13 rfl) ?_
    refine ev_bipush (v := 10) rfl (a_dec_at dc_Sc_whyNot 14 rfl) ?_
    refine ev_idiv (by decide) (a_dec_at dc_Sc_whyNot 15 rfl) ?_
    refine ev_bipush (v := 10) rfl (a_dec_at dc_Sc_whyNot 16 rfl) ?_
    refine ev_irem (by decide) (a_dec_at dc_Sc_whyNot 17 rfl) ?_
    refine ev_istore (by decide) rfl (a_dec_at dc_Sc_whyNot 18 rfl) ?_
    refine ev_iload_n (i := 3) rfl rfl (a_dec_at dc_Sc_whyNot 19 rfl) ?_
    refine ev_bipush (v := 10) rfl (a_dec_at dc_Sc_whyNot 20 rfl) ?_
    refine ev_irem (by decide) (a_dec_at dc_Sc_whyNot 21 rfl) ?_
    refine ev_istore (by decide) rfl (a_dec_at dc_Sc_whyNot 22 rfl) ?_
    refine ev_bipush (v := (-11)) rfl (a_dec_at dc_Sc_whyNot 23 rfl) ?_
    refine ev_istore (by decide) rfl (a_dec_at dc_Sc_whyNot 24 rfl) ?_
    refine ev_iload_n (i := 3) rfl rfl (a_dec_at dc_Sc_whyNot 25 rfl) ?_
    refine ev_if_ge (tgt := 48) (a_dec_at dc_Sc_whyNot 26 rfl) (by decide) (fun q => absurd q (by decide)) (fun _ => ?_)
    refine ev_iconst (v := (-1)) rfl (a_dec_at dc_Sc_whyNot 27 rfl) ?_
    refine ev_goto (tgt := 52) (a_dec_at dc_Sc_whyNot 28 rfl) (by decide) ?_
    refine w_tableOut (tgt := 162) [0, 1, 2, 3, 4] (a_dec_at dc_Sc_whyNot 32 rfl) (by decide) (by decide) (by decide) ?_
    refine ev_iload rfl (a_dec_at dc_Sc_whyNot 67 rfl) ?_
    refine ev_iconst (v := (-1)) rfl (a_dec_at dc_Sc_whyNot 68 rfl) ?_
    refine ev_icmp_ge (tgt := 176) (a_dec_at dc_Sc_whyNot 69 rfl) (by decide) (fun q => absurd q (by decide)) (fun _ => ?_)
    refine ev_bipush (v := (-10)) rfl (a_dec_at dc_Sc_whyNot 70 rfl) ?_
    refine ev_iload rfl (a_dec_at dc_Sc_whyNot 71 rfl) ?_
    refine ev_isub (a_dec_at dc_Sc_whyNot 72 rfl) ?_
    refine ev_goto (tgt := 177) (a_dec_at dc_Sc_whyNot 73 rfl) (by decide) ?_
    exact m_retI (a_dec_at dc_Sc_whyNot 75 rfl) rfl rfl H
  · have H := H.2 b1
    refine ev_lload_n (i := 1) rfl rfl (a_dec_at dc_Sc_whyNot 4 rfl) ?_
    refine ev_ldc2 kc_Sc_179 (a_dec_at dc_Sc_whyNot 5 rfl) ?_
    refine ev_lcmp (a_dec_at dc_Sc_whyNot 6 rfl) ?_
    refine ev_if_le (tgt := 18) (a_dec_at dc_Sc_whyNot 7 rfl) (by decide) (fun b2 => ?_) (fun b2 => ?_)
    · have H := H.1 b2
      refine ev_lload_n (i := 1) rfl rfl (a_dec_at dc_Sc_whyNot 10 rfl) ?_
      refine ev_l2i (a_dec_at dc_Sc_whyNot 11 rfl) ?_
      refine ev_istore_n (i := 3) rfl (by decide) rfl (a_dec_at dc_Sc_whyNot 12 rfl) ?_
      refine ev_iload_n (i := 3) rfl rfl (a_dec_at dc_Sc_whyNot 13 rfl) ?_
      refine ev_bipush (v := 10) rfl (a_dec_at dc_Sc_whyNot 14 rfl) ?_
      refine ev_idiv (by decide) (a_dec_at dc_Sc_whyNot 15 rfl) ?_
      refine ev_bipush (v := 10) rfl (a_dec_at dc_Sc_whyNot 16 rfl) ?_
      refine ev_irem (by decide) (a_dec_at dc_Sc_whyNot 17 rfl) ?_
      refine ev_istore (by decide) rfl (a_dec_at dc_Sc_whyNot 18 rfl) ?_
      refine ev_iload_n (i := 3) rfl rfl (a_dec_at dc_Sc_whyNot 19 rfl) ?_
      refine ev_bipush (v := 10) rfl (a_dec_at dc_Sc_whyNot 20 rfl) ?_
      refine ev_irem (by decide) (a_dec_at dc_Sc_whyNot 21 rfl) ?_
      refine ev_istore (by decide) rfl (a_dec_at dc_Sc_whyNot 22 rfl) ?_
      refine ev_bipush (v := (-11)) rfl (a_dec_at dc_Sc_whyNot 23 rfl) ?_
      refine ev_istore (by decide) rfl (a_dec_at dc_Sc_whyNot 24 rfl) ?_
      refine ev_iload_n (i := 3) rfl rfl (a_dec_at dc_Sc_whyNot 25 rfl) ?_
      refine ev_if_ge (tgt := 48) (a_dec_at dc_Sc_whyNot 26 rfl) (by decide) (fun b3 => ?_) (fun b3 => ?_)
      · have H := H.1 b3
        refine ev_iload_n (i := 3) rfl rfl (a_dec_at dc_Sc_whyNot 29 rfl) ?_
        refine ev_bipush (v := 100) rfl (a_dec_at dc_Sc_whyNot 30 rfl) ?_
        refine ev_idiv (by decide) (a_dec_at dc_Sc_whyNot 31 rfl) ?_
        by_cases e4 : (a1.toInt32 / 100) = 0
        · have H := H.1 e4
          refine w_tableIn (c := 0) (off := 36) (tgt := 88) (a_dec_at dc_Sc_whyNot 32 rfl) e4 (by decide) (by decide) (by decide) (by decide) ?_
          refine ev_aload_n (i := 0) rfl rfl (a_dec_at dc_Sc_whyNot 33 rfl) ?_
          refine ev_iload rfl (a_dec_at dc_Sc_whyNot 34 rfl) ?_
          refine ev_iload rfl (a_dec_at dc_Sc_whyNot 35 rfl) ?_
          refine cV2I cs_Sc_181 sh17 rfl (Nat.le_of_ble_eq_true rfl) (Nat.le_of_ble_eq_true rfl) (a_dec_at dc_Sc_whyNot 36 rfl) ?_
          refine CI.mono (fun x5 mi5 ml5 z5 H => ?_) H
          refine ev_istore (by decide) rfl (a_dec_at dc_Sc_whyNot 37 rfl) ?_
          refine ev_goto (tgt := 162) (a_dec_at dc_Sc_whyNot 38 rfl) (by decide) ?_
          refine ev_iload rfl (a_dec_at dc_Sc_whyNot 67 rfl) ?_
          refine ev_iconst (v := (-1)) rfl (a_dec_at dc_Sc_whyNot 68 rfl) ?_
          refine ev_icmp_ge (tgt := 176) (a_dec_at dc_Sc_whyNot 69 rfl) (by decide) (fun b6 => ?_) (fun b6 => ?_)
          · have H := H.1 b6
            refine ev_iconst (v := 0) rfl (a_dec_at dc_Sc_whyNot 74 rfl) ?_
            exact m_retI (a_dec_at dc_Sc_whyNot 75 rfl) rfl rfl H
          · have H := H.2 b6
            refine ev_bipush (v := (-10)) rfl (a_dec_at dc_Sc_whyNot 70 rfl) ?_
            refine ev_iload rfl (a_dec_at dc_Sc_whyNot 71 rfl) ?_
            refine ev_isub (a_dec_at dc_Sc_whyNot 72 rfl) ?_
            refine ev_goto (tgt := 177) (a_dec_at dc_Sc_whyNot 73 rfl) (by decide) ?_
            exact m_retI (a_dec_at dc_Sc_whyNot 75 rfl) rfl rfl H
        have H := H.2
        by_cases e7 : (a1.toInt32 / 100) = 1
        · have H := H.1 e7
          refine w_tableIn (c := 1) (off := 49) (tgt := 101) (a_dec_at dc_Sc_whyNot 32 rfl) e7 (by decide) (by decide) (by decide) (by decide) ?_
          refine ev_iload rfl (a_dec_at dc_Sc_whyNot 39 rfl) ?_
          refine ev_if_ne (tgt := 115) (a_dec_at dc_Sc_whyNot 40 rfl) (by decide) (fun b8 => ?_) (fun b8 => ?_)
          · have H := H.1 b8
            refine ev_bipush (v := (-11)) rfl (a_dec_at dc_Sc_whyNot 45 rfl) ?_
            refine ev_istore (by decide) rfl (a_dec_at dc_Sc_whyNot 46 rfl) ?_
            refine ev_goto (tgt := 162) (a_dec_at dc_Sc_whyNot 47 rfl) (by decide) ?_
            refine ev_iload rfl (a_dec_at dc_Sc_whyNot 67 rfl) ?_
            refine ev_iconst (v := (-1)) rfl (a_dec_at dc_Sc_whyNot 68 rfl) ?_
            refine ev_icmp_ge (tgt := 176) (a_dec_at dc_Sc_whyNot 69 rfl) (by decide) (fun q => absurd q (by decide)) (fun _ => ?_)
            refine ev_bipush (v := (-10)) rfl (a_dec_at dc_Sc_whyNot 70 rfl) ?_
            refine ev_iload rfl (a_dec_at dc_Sc_whyNot 71 rfl) ?_
            refine ev_isub (a_dec_at dc_Sc_whyNot 72 rfl) ?_
            refine ev_goto (tgt := 177) (a_dec_at dc_Sc_whyNot 73 rfl) (by decide) ?_
            exact m_retI (a_dec_at dc_Sc_whyNot 75 rfl) rfl rfl H
          · have H := H.2 b8
            refine ev_aload_n (i := 0) rfl rfl (a_dec_at dc_Sc_whyNot 41 rfl) ?_
            refine ev_iload rfl (a_dec_at dc_Sc_whyNot 42 rfl) ?_
            refine cV1I cs_Sc_184 sh17 rfl (Nat.le_of_ble_eq_true rfl) (Nat.le_of_ble_eq_true rfl) (a_dec_at dc_Sc_whyNot 43 rfl) ?_
            refine CI.mono (fun x9 mi9 ml9 z9 H => ?_) H
            refine ev_goto (tgt := 117) (a_dec_at dc_Sc_whyNot 44 rfl) (by decide) ?_
            refine ev_istore (by decide) rfl (a_dec_at dc_Sc_whyNot 46 rfl) ?_
            refine ev_goto (tgt := 162) (a_dec_at dc_Sc_whyNot 47 rfl) (by decide) ?_
            refine ev_iload rfl (a_dec_at dc_Sc_whyNot 67 rfl) ?_
            refine ev_iconst (v := (-1)) rfl (a_dec_at dc_Sc_whyNot 68 rfl) ?_
            refine ev_icmp_ge (tgt := 176) (a_dec_at dc_Sc_whyNot 69 rfl) (by decide) (fun b10 => ?_) (fun b10 => ?_)
            · have H := H.1 b10
              refine ev_iconst (v := 0) rfl (a_dec_at dc_Sc_whyNot 74 rfl) ?_
              exact m_retI (a_dec_at dc_Sc_whyNot 75 rfl) rfl rfl H
            · have H := H.2 b10
              refine ev_bipush (v := (-10)) rfl (a_dec_at dc_Sc_whyNot 70 rfl) ?_
              refine ev_iload rfl (a_dec_at dc_Sc_whyNot 71 rfl) ?_
              refine ev_isub (a_dec_at dc_Sc_whyNot 72 rfl) ?_
              refine ev_goto (tgt := 177) (a_dec_at dc_Sc_whyNot 73 rfl) (by decide) ?_
              exact m_retI (a_dec_at dc_Sc_whyNot 75 rfl) rfl rfl H
        have H := H.2
        by_cases e11 : (a1.toInt32 / 100) = 2
        · have H := H.1 e11
          refine w_tableIn (c := 2) (off := 70) (tgt := 122) (a_dec_at dc_Sc_whyNot 32 rfl) e11 (by decide) (by decide) (by decide) (by decide) ?_
          refine ev_aload_n (i := 0) rfl rfl (a_dec_at dc_Sc_whyNot 48 rfl) ?_
          refine ev_iload rfl (a_dec_at dc_Sc_whyNot 49 rfl) ?_
          refine ev_iload rfl (a_dec_at dc_Sc_whyNot 50 rfl) ?_
          refine ev_iconst (v := 1) rfl (a_dec_at dc_Sc_whyNot 51 rfl) ?_
          refine cV3I cs_Sc_187 sh17 rfl (Nat.le_of_ble_eq_true rfl) (Nat.le_of_ble_eq_true rfl) (a_dec_at dc_Sc_whyNot 52 rfl) ?_
          refine CI.mono (fun x12 mi12 ml12 z12 H => ?_) H
          refine ev_istore (by decide) rfl (a_dec_at dc_Sc_whyNot 53 rfl) ?_
          refine ev_goto (tgt := 162) (a_dec_at dc_Sc_whyNot 54 rfl) (by decide) ?_
          refine ev_iload rfl (a_dec_at dc_Sc_whyNot 67 rfl) ?_
          refine ev_iconst (v := (-1)) rfl (a_dec_at dc_Sc_whyNot 68 rfl) ?_
          refine ev_icmp_ge (tgt := 176) (a_dec_at dc_Sc_whyNot 69 rfl) (by decide) (fun b13 => ?_) (fun b13 => ?_)
          · have H := H.1 b13
            refine ev_iconst (v := 0) rfl (a_dec_at dc_Sc_whyNot 74 rfl) ?_
            exact m_retI (a_dec_at dc_Sc_whyNot 75 rfl) rfl rfl H
          · have H := H.2 b13
            refine ev_bipush (v := (-10)) rfl (a_dec_at dc_Sc_whyNot 70 rfl) ?_
            refine ev_iload rfl (a_dec_at dc_Sc_whyNot 71 rfl) ?_
            refine ev_isub (a_dec_at dc_Sc_whyNot 72 rfl) ?_
            refine ev_goto (tgt := 177) (a_dec_at dc_Sc_whyNot 73 rfl) (by decide) ?_
            exact m_retI (a_dec_at dc_Sc_whyNot 75 rfl) rfl rfl H
        have H := H.2
        by_cases e14 : (a1.toInt32 / 100) = 3
        · have H := H.1 e14
          refine w_tableIn (c := 3) (off := 84) (tgt := 136) (a_dec_at dc_Sc_whyNot 32 rfl) e14 (by decide) (by decide) (by decide) (by decide) ?_
          refine ev_aload_n (i := 0) rfl rfl (a_dec_at dc_Sc_whyNot 55 rfl) ?_
          refine ev_iload rfl (a_dec_at dc_Sc_whyNot 56 rfl) ?_
          refine ev_iload rfl (a_dec_at dc_Sc_whyNot 57 rfl) ?_
          refine cV2I cs_Sc_191 sh17 rfl (Nat.le_of_ble_eq_true rfl) (Nat.le_of_ble_eq_true rfl) (a_dec_at dc_Sc_whyNot 58 rfl) ?_
          refine CI.mono (fun x15 mi15 ml15 z15 H => ?_) H
          refine ev_istore (by decide) rfl (a_dec_at dc_Sc_whyNot 59 rfl) ?_
          refine ev_goto (tgt := 162) (a_dec_at dc_Sc_whyNot 60 rfl) (by decide) ?_
          refine ev_iload rfl (a_dec_at dc_Sc_whyNot 67 rfl) ?_
          refine ev_iconst (v := (-1)) rfl (a_dec_at dc_Sc_whyNot 68 rfl) ?_
          refine ev_icmp_ge (tgt := 176) (a_dec_at dc_Sc_whyNot 69 rfl) (by decide) (fun b16 => ?_) (fun b16 => ?_)
          · have H := H.1 b16
            refine ev_iconst (v := 0) rfl (a_dec_at dc_Sc_whyNot 74 rfl) ?_
            exact m_retI (a_dec_at dc_Sc_whyNot 75 rfl) rfl rfl H
          · have H := H.2 b16
            refine ev_bipush (v := (-10)) rfl (a_dec_at dc_Sc_whyNot 70 rfl) ?_
            refine ev_iload rfl (a_dec_at dc_Sc_whyNot 71 rfl) ?_
            refine ev_isub (a_dec_at dc_Sc_whyNot 72 rfl) ?_
            refine ev_goto (tgt := 177) (a_dec_at dc_Sc_whyNot 73 rfl) (by decide) ?_
            exact m_retI (a_dec_at dc_Sc_whyNot 75 rfl) rfl rfl H
        have H := H.2
        by_cases e17 : (a1.toInt32 / 100) = 4
        · have H := H.1 e17
          refine w_tableIn (c := 4) (off := 97) (tgt := 149) (a_dec_at dc_Sc_whyNot 32 rfl) e17 (by decide) (by decide) (by decide) (by decide) ?_
          refine ev_aload_n (i := 0) rfl rfl (a_dec_at dc_Sc_whyNot 61 rfl) ?_
          refine ev_iload rfl (a_dec_at dc_Sc_whyNot 62 rfl) ?_
          refine ev_iload rfl (a_dec_at dc_Sc_whyNot 63 rfl) ?_
          refine cV2I cs_Sc_194 sh17 rfl (Nat.le_of_ble_eq_true rfl) (Nat.le_of_ble_eq_true rfl) (a_dec_at dc_Sc_whyNot 64 rfl) ?_
          refine CI.mono (fun x18 mi18 ml18 z18 H => ?_) H
          refine ev_istore (by decide) rfl (a_dec_at dc_Sc_whyNot 65 rfl) ?_
          refine ev_goto (tgt := 162) (a_dec_at dc_Sc_whyNot 66 rfl) (by decide) ?_
          refine ev_iload rfl (a_dec_at dc_Sc_whyNot 67 rfl) ?_
          refine ev_iconst (v := (-1)) rfl (a_dec_at dc_Sc_whyNot 68 rfl) ?_
          refine ev_icmp_ge (tgt := 176) (a_dec_at dc_Sc_whyNot 69 rfl) (by decide) (fun b19 => ?_) (fun b19 => ?_)
          · have H := H.1 b19
            refine ev_iconst (v := 0) rfl (a_dec_at dc_Sc_whyNot 74 rfl) ?_
            exact m_retI (a_dec_at dc_Sc_whyNot 75 rfl) rfl rfl H
          · have H := H.2 b19
            refine ev_bipush (v := (-10)) rfl (a_dec_at dc_Sc_whyNot 70 rfl) ?_
            refine ev_iload rfl (a_dec_at dc_Sc_whyNot 71 rfl) ?_
            refine ev_isub (a_dec_at dc_Sc_whyNot 72 rfl) ?_
            refine ev_goto (tgt := 177) (a_dec_at dc_Sc_whyNot 73 rfl) (by decide) ?_
            exact m_retI (a_dec_at dc_Sc_whyNot 75 rfl) rfl rfl H
        have H := H.2
        refine w_tableOut (tgt := 162) [0, 1, 2, 3, 4] (a_dec_at dc_Sc_whyNot 32 rfl) (by decide) (by intro c hc; simp only [List.mem_cons, List.not_mem_nil, or_false] at hc; rcases hc with rfl | rfl | rfl | rfl | rfl <;> assumption) (by decide) ?_
        have H := H e4 e7 e11 e14 e17
        refine ev_iload rfl (a_dec_at dc_Sc_whyNot 67 rfl) ?_
        refine ev_iconst (v := (-1)) rfl (a_dec_at dc_Sc_whyNot 68 rfl) ?_
        refine ev_icmp_ge (tgt := 176) (a_dec_at dc_Sc_whyNot 69 rfl) (by decide) (fun q => absurd q (by decide)) (fun _ => ?_)
        refine ev_bipush (v := (-10)) rfl (a_dec_at dc_Sc_whyNot 70 rfl) ?_
        refine ev_iload rfl (a_dec_at dc_Sc_whyNot 71 rfl) ?_
        refine ev_isub (a_dec_at dc_Sc_whyNot 72 rfl) ?_
        refine ev_goto (tgt := 177) (a_dec_at dc_Sc_whyNot 73 rfl) (by decide) ?_
        exact m_retI (a_dec_at dc_Sc_whyNot 75 rfl) rfl rfl H
      · have H := H.2 b3
        refine ev_iconst (v := (-1)) rfl (a_dec_at dc_Sc_whyNot 27 rfl) ?_
        refine ev_goto (tgt := 52) (a_dec_at dc_Sc_whyNot 28 rfl) (by decide) ?_
        refine w_tableOut (tgt := 162) [0, 1, 2, 3, 4] (a_dec_at dc_Sc_whyNot 32 rfl) (by decide) (by decide) (by decide) ?_
        refine ev_iload rfl (a_dec_at dc_Sc_whyNot 67 rfl) ?_
        refine ev_iconst (v := (-1)) rfl (a_dec_at dc_Sc_whyNot 68 rfl) ?_
        refine ev_icmp_ge (tgt := 176) (a_dec_at dc_Sc_whyNot 69 rfl) (by decide) (fun q => absurd q (by decide)) (fun _ => ?_)
        refine ev_bipush (v := (-10)) rfl (a_dec_at dc_Sc_whyNot 70 rfl) ?_
        refine ev_iload rfl (a_dec_at dc_Sc_whyNot 71 rfl) ?_
        refine ev_isub (a_dec_at dc_Sc_whyNot 72 rfl) ?_
        refine ev_goto (tgt := 177) (a_dec_at dc_Sc_whyNot 73 rfl) (by decide) ?_
        exact m_retI (a_dec_at dc_Sc_whyNot 75 rfl) rfl rfl H
    · have H := H.2 b2
      refine ev_iconst (v := (-1)) rfl (a_dec_at dc_Sc_whyNot 8 rfl) ?_
      refine ev_goto (tgt := 20) (a_dec_at dc_Sc_whyNot 9 rfl) (by decide) ?_
      refine ev_istore_n (i := 3) rfl (by decide) rfl (a_dec_at dc_Sc_whyNot 12 rfl) ?_
      refine ev_iload_n (i := 3) rfl rfl (a_dec_at dc_Sc_whyNot 13 rfl) ?_
      refine ev_bipush (v := 10) rfl (a_dec_at dc_Sc_whyNot 14 rfl) ?_
      refine ev_idiv (by decide) (a_dec_at dc_Sc_whyNot 15 rfl) ?_
      refine ev_bipush (v := 10) rfl (a_dec_at dc_Sc_whyNot 16 rfl) ?_
      refine ev_irem (by decide) (a_dec_at dc_Sc_whyNot 17 rfl) ?_
      refine ev_istore (by decide) rfl (a_dec_at dc_Sc_whyNot 18 rfl) ?_
      refine ev_iload_n (i := 3) rfl rfl (a_dec_at dc_Sc_whyNot 19 rfl) ?_
      refine ev_bipush (v := 10) rfl (a_dec_at dc_Sc_whyNot 20 rfl) ?_
      refine ev_irem (by decide) (a_dec_at dc_Sc_whyNot 21 rfl) ?_
      refine ev_istore (by decide) rfl (a_dec_at dc_Sc_whyNot 22 rfl) ?_
      refine ev_bipush (v := (-11)) rfl (a_dec_at dc_Sc_whyNot 23 rfl) ?_
      refine ev_istore (by decide) rfl (a_dec_at dc_Sc_whyNot 24 rfl) ?_
      refine ev_iload_n (i := 3) rfl rfl (a_dec_at dc_Sc_whyNot 25 rfl) ?_
      refine ev_if_ge (tgt := 48) (a_dec_at dc_Sc_whyNot 26 rfl) (by decide) (fun q => absurd q (by decide)) (fun _ => ?_)
      refine ev_iconst (v := (-1)) rfl (a_dec_at dc_Sc_whyNot 27 rfl) ?_
      refine ev_goto (tgt := 52) (a_dec_at dc_Sc_whyNot 28 rfl) (by decide) ?_
      refine w_tableOut (tgt := 162) [0, 1, 2, 3, 4] (a_dec_at dc_Sc_whyNot 32 rfl) (by decide) (by decide) (by decide) ?_
      refine ev_iload rfl (a_dec_at dc_Sc_whyNot 67 rfl) ?_
      refine ev_iconst (v := (-1)) rfl (a_dec_at dc_Sc_whyNot 68 rfl) ?_
      refine ev_icmp_ge (tgt := 176) (a_dec_at dc_Sc_whyNot 69 rfl) (by decide) (fun q => absurd q (by decide)) (fun _ => ?_)
      refine ev_bipush (v := (-10)) rfl (a_dec_at dc_Sc_whyNot 70 rfl) ?_
      refine ev_iload rfl (a_dec_at dc_Sc_whyNot 71 rfl) ?_
      refine ev_isub (a_dec_at dc_Sc_whyNot 72 rfl) ?_
      refine ev_goto (tgt := 177) (a_dec_at dc_Sc_whyNot 73 rfl) (by decide) ?_
      exact m_retI (a_dec_at dc_Sc_whyNot 75 rfl) rfl rfl H
set_option maxRecDepth 20000 in
theorem t_Sc_nowhere_17 {l : Launch} {h : Nat} (mi : TMi) (ml : TMl) (z : Nat) {Q : Int32 → TMi → TMl → Nat → Prop} (H : CI l h m_Sc_becksIn [.ref 17, .ref 27, .int (-1)] mi ml z (fun x1 mi1 ml1 z1 => Q x1 mi1 ml1 z1)) : CI l (h + 1) m_Sc_nowhere [.ref 17] mi ml z Q := by
  show Ev l (h + 1) m_Sc_nowhere 0 ([.ref 17], [], st mi ml z) (qI Q)
  refine ev_aload_n (i := 0) rfl rfl (a_dec_at dc_Sc_nowhere 0 rfl) ?_
  refine ev_aload_n (i := 0) rfl rfl (a_dec_at dc_Sc_nowhere 1 rfl) ?_
  refine m_getR (y := 27) fl_Sc_11 rfl sh17 (mr_17_2 _) (by decide) (a_dec_at dc_Sc_nowhere 2 rfl) ?_
  refine ev_iconst (v := (-1)) rfl (a_dec_at dc_Sc_nowhere 3 rfl) ?_
  refine cV2I cs_Sc_125 sh17 rfl (Nat.le_of_ble_eq_true rfl) (Nat.le_of_ble_eq_true rfl) (a_dec_at dc_Sc_nowhere 4 rfl) ?_
  refine CI.mono (fun x1 mi1 ml1 z1 H => ?_) H
  exact m_retI (a_dec_at dc_Sc_nowhere 5 rfl) rfl rfl H
set_option maxRecDepth 20000 in
theorem t_Sc_flooded_17 {l : Launch} {h : Nat} (mi : TMi) (ml : TMl) (z : Nat) {Q : Int32 → TMi → TMl → Nat → Prop} (H : CI l h m_La_allBecks [.ref 18] mi ml z (fun x1 mi1 ml1 z1 => CI l h m_Sc_floodedOf [.ref 17, .int x1] mi1 ml1 z1 (fun x2 mi2 ml2 z2 => Q x2 mi2 ml2 z2))) : CI l (h + 1) m_Sc_flooded [.ref 17] mi ml z Q := by
  show Ev l (h + 1) m_Sc_flooded 0 ([.ref 17], [], st mi ml z) (qI Q)
  refine ev_aload_n (i := 0) rfl rfl (a_dec_at dc_Sc_flooded 0 rfl) ?_
  refine ev_aload_n (i := 0) rfl rfl (a_dec_at dc_Sc_flooded 1 rfl) ?_
  refine m_getR (y := 18) fl_Sc_30 rfl sh17 (mr_17_0 _) (by decide) (a_dec_at dc_Sc_flooded 2 rfl) ?_
  refine cV0I cs_Sc_128 sh18 rfl (Nat.le_of_ble_eq_true rfl) (Nat.le_of_ble_eq_true rfl) (a_dec_at dc_Sc_flooded 3 rfl) ?_
  refine CI.mono (fun x1 mi1 ml1 z1 H => ?_) H
  refine cV1I cs_Sc_132 sh17 rfl (Nat.le_of_ble_eq_true rfl) (Nat.le_of_ble_eq_true rfl) (a_dec_at dc_Sc_flooded 4 rfl) ?_
  refine CI.mono (fun x2 mi2 ml2 z2 H => ?_) H
  exact m_retI (a_dec_at dc_Sc_flooded 5 rfl) rfl rfl H
set_option maxRecDepth 20000 in
theorem t_Sc_floodedOf_17 {l : Launch} {h : Nat} (mi : TMi) (ml : TMl) (z : Nat) (a1 : Int32) {Q : Int32 → TMi → TMl → Nat → Prop} (H : Ev l (h + 1) m_Sc_floodedOf 4 ([.ref 17, .int a1, .int 0, .int 0], [], st mi ml z) (qI Q)) : CI l (h + 1) m_Sc_floodedOf [.ref 17, .int a1] mi ml z Q := by
  show Ev l (h + 1) m_Sc_floodedOf 0 ([.ref 17, .int a1, .retAddr 0, .retAddr 0], [], st mi ml z) (qI Q)
  refine ev_iconst (v := 0) rfl (a_dec_at dc_Sc_floodedOf 0 rfl) ?_
  refine ev_istore_n (i := 2) rfl (by decide) rfl (a_dec_at dc_Sc_floodedOf 1 rfl) ?_
  refine ev_iconst (v := 0) rfl (a_dec_at dc_Sc_floodedOf 2 rfl) ?_
  refine ev_istore_n (i := 3) rfl (by decide) rfl (a_dec_at dc_Sc_floodedOf 3 rfl) ?_
  exact Ev.drop (L' := [.ref 17, .int a1, .int 0, .int 0]) (And.intro rfl (And.intro rfl (And.intro rfl (And.intro rfl trivial)))) H
set_option maxRecDepth 20000 in
theorem t_Sc_floodedOf_17_4 {l : Launch} {h : Nat} (mi : TMi) (ml : TMl) (z : Nat) (v1 : Int32) (v2 : Int32) (v3 : Int32) {Q : Int32 → TMi → TMl → Nat → Prop} (H : (((mi 18 1) ≤ v3 → Q v2 mi ml z) ∧ (¬ (mi 18 1) ≤ v3 → CI l h m_Sc_overflows [.ref 17, .int v3, .int v1] mi ml z (fun x2 mi2 ml2 z2 => ((x2 = 0 → Ev l (h + 1) m_Sc_floodedOf 4 ([.ref 17, .int v1, .int v2, .int (v3 + 1)], [], st mi2 ml2 z2) (qI Q)) ∧ (¬ x2 = 0 → Ev l (h + 1) m_Sc_floodedOf 4 ([.ref 17, .int v1, .int (v2 ||| ((1 : Int32) <<< (v3 &&& 31))), .int (v3 + 1)], [], st mi2 ml2 z2) (qI Q))))))) : Ev l (h + 1) m_Sc_floodedOf 4 ([.ref 17, .int v1, .int v2, .int v3], [], st mi ml z) (qI Q) := by
  refine ev_iload_n (i := 3) rfl rfl (a_dec_at dc_Sc_floodedOf 4 rfl) ?_
  refine ev_aload_n (i := 0) rfl rfl (a_dec_at dc_Sc_floodedOf 5 rfl) ?_
  refine m_getR (y := 18) fl_Sc_30 rfl sh17 (mr_17_0 _) (by decide) (a_dec_at dc_Sc_floodedOf 6 rfl) ?_
  refine m_getI fl_Sc_65 rfl sh18 (a_dec_at dc_Sc_floodedOf 7 rfl) ?_
  refine ev_icmp_ge (tgt := 36) (a_dec_at dc_Sc_floodedOf 8 rfl) (by decide) (fun b1 => ?_) (fun b1 => ?_)
  · have H := H.1 b1
    refine ev_iload_n (i := 2) rfl rfl (a_dec_at dc_Sc_floodedOf 22 rfl) ?_
    exact m_retI (a_dec_at dc_Sc_floodedOf 23 rfl) rfl rfl H
  · have H := H.2 b1
    refine ev_aload_n (i := 0) rfl rfl (a_dec_at dc_Sc_floodedOf 9 rfl) ?_
    refine ev_iload_n (i := 3) rfl rfl (a_dec_at dc_Sc_floodedOf 10 rfl) ?_
    refine ev_iload_n (i := 1) rfl rfl (a_dec_at dc_Sc_floodedOf 11 rfl) ?_
    refine cV2I cs_Sc_135 sh17 rfl (Nat.le_of_ble_eq_true rfl) (Nat.le_of_ble_eq_true rfl) (a_dec_at dc_Sc_floodedOf 12 rfl) ?_
    refine CI.mono (fun x2 mi2 ml2 z2 H => ?_) H
    refine ev_if_eq (tgt := 30) (a_dec_at dc_Sc_floodedOf 13 rfl) (by decide) (fun b3 => ?_) (fun b3 => ?_)
    · have H := H.1 b3
      refine ev_iinc (v := 1) rfl rfl (by decide) rfl (a_dec_at dc_Sc_floodedOf 20 rfl) ?_
      refine ev_goto (tgt := 4) (a_dec_at dc_Sc_floodedOf 21 rfl) (by decide) ?_
      exact Ev.drop (L' := [.ref 17, .int v1, .int v2, .int (v3 + 1)]) (And.intro rfl (And.intro rfl (And.intro rfl (And.intro rfl trivial)))) H
    · have H := H.2 b3
      refine ev_iload_n (i := 2) rfl rfl (a_dec_at dc_Sc_floodedOf 14 rfl) ?_
      refine ev_iconst (v := 1) rfl (a_dec_at dc_Sc_floodedOf 15 rfl) ?_
      refine ev_iload_n (i := 3) rfl rfl (a_dec_at dc_Sc_floodedOf 16 rfl) ?_
      refine ev_ishl (a_dec_at dc_Sc_floodedOf 17 rfl) ?_
      refine ev_ior (a_dec_at dc_Sc_floodedOf 18 rfl) ?_
      refine ev_istore_n (i := 2) rfl (by decide) rfl (a_dec_at dc_Sc_floodedOf 19 rfl) ?_
      refine ev_iinc (v := 1) rfl rfl (by decide) rfl (a_dec_at dc_Sc_floodedOf 20 rfl) ?_
      refine ev_goto (tgt := 4) (a_dec_at dc_Sc_floodedOf 21 rfl) (by decide) ?_
      exact Ev.drop (L' := [.ref 17, .int v1, .int (v2 ||| ((1 : Int32) <<< (v3 &&& 31))), .int (v3 + 1)]) (And.intro rfl (And.intro rfl (And.intro rfl (And.intro rfl trivial)))) H
set_option maxRecDepth 20000 in
theorem t_Sc_overflows_17 {l : Launch} {h : Nat} (mi : TMi) (ml : TMl) (z : Nat) (a1 : Int32) (a2 : Int32) {Q : Int32 → TMi → TMl → Nat → Prop} (H : CI l h m_Sc_becksIn [.ref 17, .ref 27, .int a1] mi ml z (fun x1 mi1 ml1 z1 => CI l h m_Sc_flowOfSet [.ref 17, .int (x1 &&& a2)] mi1 ml1 z1 (fun x2 mi2 ml2 z2 => (vp_in a1 4) ∧ ((x2 ≤ (mi2 25 a1.toNatClampNeg) → Q 0 mi2 ml2 z2) ∧ (¬ x2 ≤ (mi2 25 a1.toNatClampNeg) → Q 1 mi2 ml2 z2))))) : CI l (h + 1) m_Sc_overflows [.ref 17, .int a1, .int a2] mi ml z Q := by
  show Ev l (h + 1) m_Sc_overflows 0 ([.ref 17, .int a1, .int a2], [], st mi ml z) (qI Q)
  refine ev_aload_n (i := 0) rfl rfl (a_dec_at dc_Sc_overflows 0 rfl) ?_
  refine ev_aload_n (i := 0) rfl rfl (a_dec_at dc_Sc_overflows 1 rfl) ?_
  refine ev_aload_n (i := 0) rfl rfl (a_dec_at dc_Sc_overflows 2 rfl) ?_
  refine m_getR (y := 27) fl_Sc_11 rfl sh17 (mr_17_2 _) (by decide) (a_dec_at dc_Sc_overflows 3 rfl) ?_
  refine ev_iload_n (i := 1) rfl rfl (a_dec_at dc_Sc_overflows 4 rfl) ?_
  refine cV2I cs_Sc_125 sh17 rfl (Nat.le_of_ble_eq_true rfl) (Nat.le_of_ble_eq_true rfl) (a_dec_at dc_Sc_overflows 5 rfl) ?_
  refine CI.mono (fun x1 mi1 ml1 z1 H => ?_) H
  refine ev_iload_n (i := 2) rfl rfl (a_dec_at dc_Sc_overflows 6 rfl) ?_
  refine ev_iand (a_dec_at dc_Sc_overflows 7 rfl) ?_
  refine cV1I cs_Sc_139 sh17 rfl (Nat.le_of_ble_eq_true rfl) (Nat.le_of_ble_eq_true rfl) (a_dec_at dc_Sc_overflows 8 rfl) ?_
  refine CI.mono (fun x2 mi2 ml2 z2 H => ?_) H
  refine ev_aload_n (i := 0) rfl rfl (a_dec_at dc_Sc_overflows 9 rfl) ?_
  refine m_getR (y := 18) fl_Sc_30 rfl sh17 (mr_17_0 _) (by decide) (a_dec_at dc_Sc_overflows 10 rfl) ?_
  refine m_getR (y := 25) fl_Sc_142 rfl sh18 (mr_18_9 _) (by decide) (a_dec_at dc_Sc_overflows 11 rfl) ?_
  refine ev_iload_n (i := 1) rfl rfl (a_dec_at dc_Sc_overflows 12 rfl) ?_
  obtain ⟨c3, H⟩ := H
  refine w_iald (k := a1.toNatClampNeg) sh25 c3 rfl (a_dec_at dc_Sc_overflows 13 rfl) ?_
  refine ev_icmp_le (tgt := 31) (a_dec_at dc_Sc_overflows 14 rfl) (by decide) (fun b4 => ?_) (fun b4 => ?_)
  · have H := H.1 b4
    refine ev_iconst (v := 0) rfl (a_dec_at dc_Sc_overflows 17 rfl) ?_
    exact m_retI (a_dec_at dc_Sc_overflows 18 rfl) rfl rfl H
  · have H := H.2 b4
    refine ev_iconst (v := 1) rfl (a_dec_at dc_Sc_overflows 15 rfl) ?_
    refine ev_goto (tgt := 32) (a_dec_at dc_Sc_overflows 16 rfl) (by decide) ?_
    exact m_retI (a_dec_at dc_Sc_overflows 18 rfl) rfl rfl H
set_option maxRecDepth 20000 in
theorem t_Sc_isHeld_17 {l : Launch} {h : Nat} (mi : TMi) (ml : TMl) (z : Nat) (w1 lw1 : Nat) (hw1 : SH[w1]? = some (.inr (0, lw1))) {Q : Int32 → TMi → TMl → Nat → Prop} (H : Ev l (h + 1) m_Sc_isHeld 2 ([.ref 17, .ref w1, .int 0], [], st mi ml z) (qI Q)) : CI l (h + 1) m_Sc_isHeld [.ref 17, .ref w1] mi ml z Q := by
  show Ev l (h + 1) m_Sc_isHeld 0 ([.ref 17, .ref w1, .retAddr 0], [], st mi ml z) (qI Q)
  refine ev_iconst (v := 0) rfl (a_dec_at dc_Sc_isHeld 0 rfl) ?_
  refine ev_istore_n (i := 2) rfl (by decide) rfl (a_dec_at dc_Sc_isHeld 1 rfl) ?_
  exact Ev.drop (L' := [.ref 17, .ref w1, .int 0]) (And.intro rfl (And.intro rfl (And.intro rfl trivial))) H
set_option maxRecDepth 20000 in
theorem t_Sc_isHeld_17_2 {l : Launch} {h : Nat} (mi : TMi) (ml : TMl) (z : Nat) (w1 lw1 : Nat) (v2 : Int32) (hw1 : SH[w1]? = some (.inr (0, lw1))) {Q : Int32 → TMi → TMl → Nat → Prop} (H : (((mi 18 0) ≤ v2 → Q 1 mi ml z) ∧ (¬ (mi 18 0) ≤ v2 → (vp_in v2 lw1) ∧ (((mi w1 v2.toNatClampNeg) = (-1) → CI l h m_Sc_breakersOf [.ref 17, .ref w1, .int v2] mi ml z (fun x4 mi4 ml4 z4 => ((x4 = 0 → Ev l (h + 1) m_Sc_isHeld 2 ([.ref 17, .ref w1, .int (v2 + 1)], [], st mi4 ml4 z4) (qI Q)) ∧ (¬ x4 = 0 → Q 0 mi4 ml4 z4)))) ∧ (¬ (mi w1 v2.toNatClampNeg) = (-1) → (vp_in v2 lw1) ∧ CI l h m_Sc_bothWould [.ref 17, .int v2, .int (mi w1 v2.toNatClampNeg)] mi ml z (fun x7 mi7 ml7 z7 => ((x7 = 0 → Q 0 mi7 ml7 z7) ∧ (¬ x7 = 0 → CI l h m_Sc_breakersOf [.ref 17, .ref w1, .int v2] mi7 ml7 z7 (fun x9 mi9 ml9 z9 => ((x9 = 0 → Ev l (h + 1) m_Sc_isHeld 2 ([.ref 17, .ref w1, .int (v2 + 1)], [], st mi9 ml9 z9) (qI Q)) ∧ (¬ x9 = 0 → Q 0 mi9 ml9 z9))))))))))) : Ev l (h + 1) m_Sc_isHeld 2 ([.ref 17, .ref w1, .int v2], [], st mi ml z) (qI Q) := by
  refine ev_iload_n (i := 2) rfl rfl (a_dec_at dc_Sc_isHeld 2 rfl) ?_
  refine ev_aload_n (i := 0) rfl rfl (a_dec_at dc_Sc_isHeld 3 rfl) ?_
  refine m_getR (y := 18) fl_Sc_30 rfl sh17 (mr_17_0 _) (by decide) (a_dec_at dc_Sc_isHeld 4 rfl) ?_
  refine m_getI fl_Sc_44 rfl sh18 (a_dec_at dc_Sc_isHeld 5 rfl) ?_
  refine ev_icmp_ge (tgt := 48) (a_dec_at dc_Sc_isHeld 6 rfl) (by decide) (fun b1 => ?_) (fun b1 => ?_)
  · have H := H.1 b1
    refine ev_iconst (v := 1) rfl (a_dec_at dc_Sc_isHeld 28 rfl) ?_
    exact m_retI (a_dec_at dc_Sc_isHeld 29 rfl) rfl rfl H
  · have H := H.2 b1
    refine ev_aload_n (i := 1) rfl rfl (a_dec_at dc_Sc_isHeld 7 rfl) ?_
    refine ev_iload_n (i := 2) rfl rfl (a_dec_at dc_Sc_isHeld 8 rfl) ?_
    obtain ⟨c2, H⟩ := H
    refine w_iald (k := v2.toNatClampNeg) hw1 c2 rfl (a_dec_at dc_Sc_isHeld 9 rfl) ?_
    refine ev_iconst (v := (-1)) rfl (a_dec_at dc_Sc_isHeld 10 rfl) ?_
    refine ev_icmp_eq (tgt := 31) (a_dec_at dc_Sc_isHeld 11 rfl) (by decide) (fun b3 => ?_) (fun b3 => ?_)
    · have H := H.1 b3
      refine ev_aload_n (i := 0) rfl rfl (a_dec_at dc_Sc_isHeld 19 rfl) ?_
      refine ev_aload_n (i := 1) rfl rfl (a_dec_at dc_Sc_isHeld 20 rfl) ?_
      refine ev_iload_n (i := 2) rfl rfl (a_dec_at dc_Sc_isHeld 21 rfl) ?_
      refine cV2I cs_Sc_153 sh17 rfl (Nat.le_of_ble_eq_true rfl) (Nat.le_of_ble_eq_true rfl) (a_dec_at dc_Sc_isHeld 22 rfl) ?_
      refine CI.mono (fun x4 mi4 ml4 z4 H => ?_) H
      refine ev_if_eq (tgt := 42) (a_dec_at dc_Sc_isHeld 23 rfl) (by decide) (fun b5 => ?_) (fun b5 => ?_)
      · have H := H.1 b5
        refine ev_iinc (v := 1) rfl rfl (by decide) rfl (a_dec_at dc_Sc_isHeld 26 rfl) ?_
        refine ev_goto (tgt := 2) (a_dec_at dc_Sc_isHeld 27 rfl) (by decide) ?_
        exact Ev.drop (L' := [.ref 17, .ref w1, .int (v2 + 1)]) (And.intro rfl (And.intro rfl (And.intro rfl trivial))) H
      · have H := H.2 b5
        refine ev_iconst (v := 0) rfl (a_dec_at dc_Sc_isHeld 24 rfl) ?_
        exact m_retI (a_dec_at dc_Sc_isHeld 25 rfl) rfl rfl H
    · have H := H.2 b3
      refine ev_aload_n (i := 0) rfl rfl (a_dec_at dc_Sc_isHeld 12 rfl) ?_
      refine ev_iload_n (i := 2) rfl rfl (a_dec_at dc_Sc_isHeld 13 rfl) ?_
      refine ev_aload_n (i := 1) rfl rfl (a_dec_at dc_Sc_isHeld 14 rfl) ?_
      refine ev_iload_n (i := 2) rfl rfl (a_dec_at dc_Sc_isHeld 15 rfl) ?_
      obtain ⟨c6, H⟩ := H
      refine w_iald (k := v2.toNatClampNeg) hw1 c6 rfl (a_dec_at dc_Sc_isHeld 16 rfl) ?_
      refine cV2I cs_Sc_150 sh17 rfl (Nat.le_of_ble_eq_true rfl) (Nat.le_of_ble_eq_true rfl) (a_dec_at dc_Sc_isHeld 17 rfl) ?_
      refine CI.mono (fun x7 mi7 ml7 z7 H => ?_) H
      refine ev_if_eq (tgt := 40) (a_dec_at dc_Sc_isHeld 18 rfl) (by decide) (fun b8 => ?_) (fun b8 => ?_)
      · have H := H.1 b8
        refine ev_iconst (v := 0) rfl (a_dec_at dc_Sc_isHeld 24 rfl) ?_
        exact m_retI (a_dec_at dc_Sc_isHeld 25 rfl) rfl rfl H
      · have H := H.2 b8
        refine ev_aload_n (i := 0) rfl rfl (a_dec_at dc_Sc_isHeld 19 rfl) ?_
        refine ev_aload_n (i := 1) rfl rfl (a_dec_at dc_Sc_isHeld 20 rfl) ?_
        refine ev_iload_n (i := 2) rfl rfl (a_dec_at dc_Sc_isHeld 21 rfl) ?_
        refine cV2I cs_Sc_153 sh17 rfl (Nat.le_of_ble_eq_true rfl) (Nat.le_of_ble_eq_true rfl) (a_dec_at dc_Sc_isHeld 22 rfl) ?_
        refine CI.mono (fun x9 mi9 ml9 z9 H => ?_) H
        refine ev_if_eq (tgt := 42) (a_dec_at dc_Sc_isHeld 23 rfl) (by decide) (fun b10 => ?_) (fun b10 => ?_)
        · have H := H.1 b10
          refine ev_iinc (v := 1) rfl rfl (by decide) rfl (a_dec_at dc_Sc_isHeld 26 rfl) ?_
          refine ev_goto (tgt := 2) (a_dec_at dc_Sc_isHeld 27 rfl) (by decide) ?_
          exact Ev.drop (L' := [.ref 17, .ref w1, .int (v2 + 1)]) (And.intro rfl (And.intro rfl (And.intro rfl trivial))) H
        · have H := H.2 b10
          refine ev_iconst (v := 0) rfl (a_dec_at dc_Sc_isHeld 24 rfl) ?_
          exact m_retI (a_dec_at dc_Sc_isHeld 25 rfl) rfl rfl H
set_option maxRecDepth 20000 in
theorem t_Sc_breakersOf_17 {l : Launch} {h : Nat} (mi : TMi) (ml : TMl) (z : Nat) (w1 lw1 : Nat) (a2 : Int32) (hw1 : SH[w1]? = some (.inr (0, lw1))) {Q : Int32 → TMi → TMl → Nat → Prop} (H : Ev l (h + 1) m_Sc_breakersOf 5 ([.ref 17, .ref w1, .int a2, .int 0, .int 0], [], st mi ml z) (qI Q)) : CI l (h + 1) m_Sc_breakersOf [.ref 17, .ref w1, .int a2] mi ml z Q := by
  show Ev l (h + 1) m_Sc_breakersOf 0 ([.ref 17, .ref w1, .int a2, .retAddr 0, .retAddr 0], [], st mi ml z) (qI Q)
  refine ev_iconst (v := 0) rfl (a_dec_at dc_Sc_breakersOf 0 rfl) ?_
  refine ev_istore_n (i := 3) rfl (by decide) rfl (a_dec_at dc_Sc_breakersOf 1 rfl) ?_
  refine ev_iconst (v := 0) rfl (a_dec_at dc_Sc_breakersOf 2 rfl) ?_
  refine ev_istore (by decide) rfl (a_dec_at dc_Sc_breakersOf 3 rfl) ?_
  exact Ev.drop (L' := [.ref 17, .ref w1, .int a2, .int 0, .int 0]) (And.intro rfl (And.intro rfl (And.intro rfl (And.intro rfl (And.intro rfl trivial))))) H
set_option maxRecDepth 20000 in
theorem t_Sc_breakersOf_17_5 {l : Launch} {h : Nat} (mi : TMi) (ml : TMl) (z : Nat) (w1 lw1 : Nat) (v2 : Int32) (v3 : Int32) (v4 : Int32) (hw1 : SH[w1]? = some (.inr (0, lw1))) {Q : Int32 → TMi → TMl → Nat → Prop} (H : (((mi 18 1) ≤ v4 → Q v3 mi ml z) ∧ (¬ (mi 18 1) ≤ v4 → CI l h m_Sc_bothWould [.ref 17, .int v2, .int v4] mi ml z (fun x2 mi2 ml2 z2 => ((x2 = 0 → Ev l (h + 1) m_Sc_breakersOf 5 ([.ref 17, .ref w1, .int v2, .int v3, .int (v4 + 1)], [], st mi2 ml2 z2) (qI Q)) ∧ (¬ x2 = 0 → (vp_in v2 lw1) ∧ CI l h m_Sc_wouldMove [.ref 17, .int (mi2 w1 v2.toNatClampNeg), .int v2, .int v4] mi2 ml2 z2 (fun x5 mi5 ml5 z5 => ((x5 = 0 → Ev l (h + 1) m_Sc_breakersOf 5 ([.ref 17, .ref w1, .int v2, .int v3, .int (v4 + 1)], [], st mi5 ml5 z5) (qI Q)) ∧ (¬ x5 = 0 → CI l h m_Sc_wouldAdmit [.ref 17, .ref w1, .int v4, .int v2] mi5 ml5 z5 (fun x7 mi7 ml7 z7 => ((x7 = 0 → Ev l (h + 1) m_Sc_breakersOf 5 ([.ref 17, .ref w1, .int v2, .int v3, .int (v4 + 1)], [], st mi7 ml7 z7) (qI Q)) ∧ (¬ x7 = 0 → Ev l (h + 1) m_Sc_breakersOf 5 ([.ref 17, .ref w1, .int v2, .int (v3 ||| ((1 : Int32) <<< (v4 &&& 31))), .int (v4 + 1)], [], st mi7 ml7 z7) (qI Q))))))))))))) : Ev l (h + 1) m_Sc_breakersOf 5 ([.ref 17, .ref w1, .int v2, .int v3, .int v4], [], st mi ml z) (qI Q) := by
  refine ev_iload rfl (a_dec_at dc_Sc_breakersOf 4 rfl) ?_
  refine ev_aload_n (i := 0) rfl rfl (a_dec_at dc_Sc_breakersOf 5 rfl) ?_
  refine m_getR (y := 18) fl_Sc_30 rfl sh17 (mr_17_0 _) (by decide) (a_dec_at dc_Sc_breakersOf 6 rfl) ?_
  refine m_getI fl_Sc_65 rfl sh18 (a_dec_at dc_Sc_breakersOf 7 rfl) ?_
  refine ev_icmp_ge (tgt := 64) (a_dec_at dc_Sc_breakersOf 8 rfl) (by decide) (fun b1 => ?_) (fun b1 => ?_)
  · have H := H.1 b1
    refine ev_iload_n (i := 3) rfl rfl (a_dec_at dc_Sc_breakersOf 36 rfl) ?_
    exact m_retI (a_dec_at dc_Sc_breakersOf 37 rfl) rfl rfl H
  · have H := H.2 b1
    refine ev_aload_n (i := 0) rfl rfl (a_dec_at dc_Sc_breakersOf 9 rfl) ?_
    refine ev_iload_n (i := 2) rfl rfl (a_dec_at dc_Sc_breakersOf 10 rfl) ?_
    refine ev_iload rfl (a_dec_at dc_Sc_breakersOf 11 rfl) ?_
    refine cV2I cs_Sc_150 sh17 rfl (Nat.le_of_ble_eq_true rfl) (Nat.le_of_ble_eq_true rfl) (a_dec_at dc_Sc_breakersOf 12 rfl) ?_
    refine CI.mono (fun x2 mi2 ml2 z2 H => ?_) H
    refine ev_if_eq (tgt := 58) (a_dec_at dc_Sc_breakersOf 13 rfl) (by decide) (fun b3 => ?_) (fun b3 => ?_)
    · have H := H.1 b3
      refine ev_iinc (v := 1) rfl rfl (by decide) rfl (a_dec_at dc_Sc_breakersOf 34 rfl) ?_
      refine ev_goto (tgt := 5) (a_dec_at dc_Sc_breakersOf 35 rfl) (by decide) ?_
      exact Ev.drop (L' := [.ref 17, .ref w1, .int v2, .int v3, .int (v4 + 1)]) (And.intro rfl (And.intro rfl (And.intro rfl (And.intro rfl (And.intro rfl trivial))))) H
    · have H := H.2 b3
      refine ev_aload_n (i := 0) rfl rfl (a_dec_at dc_Sc_breakersOf 14 rfl) ?_
      refine ev_aload_n (i := 1) rfl rfl (a_dec_at dc_Sc_breakersOf 15 rfl) ?_
      refine ev_iload_n (i := 2) rfl rfl (a_dec_at dc_Sc_breakersOf 16 rfl) ?_
      obtain ⟨c4, H⟩ := H
      refine w_iald (k := v2.toNatClampNeg) hw1 c4 rfl (a_dec_at dc_Sc_breakersOf 17 rfl) ?_
      refine ev_iload_n (i := 2) rfl rfl (a_dec_at dc_Sc_breakersOf 18 rfl) ?_
      refine ev_iload rfl (a_dec_at dc_Sc_breakersOf 19 rfl) ?_
      refine cV3I cs_Sc_156 sh17 rfl (Nat.le_of_ble_eq_true rfl) (Nat.le_of_ble_eq_true rfl) (a_dec_at dc_Sc_breakersOf 20 rfl) ?_
      refine CI.mono (fun x5 mi5 ml5 z5 H => ?_) H
      refine ev_if_eq (tgt := 58) (a_dec_at dc_Sc_breakersOf 21 rfl) (by decide) (fun b6 => ?_) (fun b6 => ?_)
      · have H := H.1 b6
        refine ev_iinc (v := 1) rfl rfl (by decide) rfl (a_dec_at dc_Sc_breakersOf 34 rfl) ?_
        refine ev_goto (tgt := 5) (a_dec_at dc_Sc_breakersOf 35 rfl) (by decide) ?_
        exact Ev.drop (L' := [.ref 17, .ref w1, .int v2, .int v3, .int (v4 + 1)]) (And.intro rfl (And.intro rfl (And.intro rfl (And.intro rfl (And.intro rfl trivial))))) H
      · have H := H.2 b6
        refine ev_aload_n (i := 0) rfl rfl (a_dec_at dc_Sc_breakersOf 22 rfl) ?_
        refine ev_aload_n (i := 1) rfl rfl (a_dec_at dc_Sc_breakersOf 23 rfl) ?_
        refine ev_iload rfl (a_dec_at dc_Sc_breakersOf 24 rfl) ?_
        refine ev_iload_n (i := 2) rfl rfl (a_dec_at dc_Sc_breakersOf 25 rfl) ?_
        refine cV3I cs_Sc_159 sh17 rfl (Nat.le_of_ble_eq_true rfl) (Nat.le_of_ble_eq_true rfl) (a_dec_at dc_Sc_breakersOf 26 rfl) ?_
        refine CI.mono (fun x7 mi7 ml7 z7 H => ?_) H
        refine ev_if_eq (tgt := 58) (a_dec_at dc_Sc_breakersOf 27 rfl) (by decide) (fun b8 => ?_) (fun b8 => ?_)
        · have H := H.1 b8
          refine ev_iinc (v := 1) rfl rfl (by decide) rfl (a_dec_at dc_Sc_breakersOf 34 rfl) ?_
          refine ev_goto (tgt := 5) (a_dec_at dc_Sc_breakersOf 35 rfl) (by decide) ?_
          exact Ev.drop (L' := [.ref 17, .ref w1, .int v2, .int v3, .int (v4 + 1)]) (And.intro rfl (And.intro rfl (And.intro rfl (And.intro rfl (And.intro rfl trivial))))) H
        · have H := H.2 b8
          refine ev_iload_n (i := 3) rfl rfl (a_dec_at dc_Sc_breakersOf 28 rfl) ?_
          refine ev_iconst (v := 1) rfl (a_dec_at dc_Sc_breakersOf 29 rfl) ?_
          refine ev_iload rfl (a_dec_at dc_Sc_breakersOf 30 rfl) ?_
          refine ev_ishl (a_dec_at dc_Sc_breakersOf 31 rfl) ?_
          refine ev_ior (a_dec_at dc_Sc_breakersOf 32 rfl) ?_
          refine ev_istore_n (i := 3) rfl (by decide) rfl (a_dec_at dc_Sc_breakersOf 33 rfl) ?_
          refine ev_iinc (v := 1) rfl rfl (by decide) rfl (a_dec_at dc_Sc_breakersOf 34 rfl) ?_
          refine ev_goto (tgt := 5) (a_dec_at dc_Sc_breakersOf 35 rfl) (by decide) ?_
          exact Ev.drop (L' := [.ref 17, .ref w1, .int v2, .int (v3 ||| ((1 : Int32) <<< (v4 &&& 31))), .int (v4 + 1)]) (And.intro rfl (And.intro rfl (And.intro rfl (And.intro rfl (And.intro rfl trivial))))) H
set_option maxRecDepth 20000 in
theorem t_Sc_wouldMove_17 {l : Launch} {h : Nat} (mi : TMi) (ml : TMl) (z : Nat) (a1 : Int32) (a2 : Int32) (a3 : Int32) {Q : Int32 → TMi → TMl → Nat → Prop} (H : ((a1 = (-1) → Q 1 mi ml z) ∧ (¬ a1 = (-1) → ((a1 = a3 → Q 0 mi ml z) ∧ (¬ a1 = a3 → CI l h m_Sc_likesBetter [.ref 17, .int a2, .int a3, .int a1] mi ml z (fun x3 mi3 ml3 z3 => ((x3 = 0 → Q 0 mi3 ml3 z3) ∧ (¬ x3 = 0 → Q 1 mi3 ml3 z3)))))))) : CI l (h + 1) m_Sc_wouldMove [.ref 17, .int a1, .int a2, .int a3] mi ml z Q := by
  show Ev l (h + 1) m_Sc_wouldMove 0 ([.ref 17, .int a1, .int a2, .int a3], [], st mi ml z) (qI Q)
  refine ev_iload_n (i := 1) rfl rfl (a_dec_at dc_Sc_wouldMove 0 rfl) ?_
  refine ev_iconst (v := (-1)) rfl (a_dec_at dc_Sc_wouldMove 1 rfl) ?_
  refine ev_icmp_eq (tgt := 20) (a_dec_at dc_Sc_wouldMove 2 rfl) (by decide) (fun b1 => ?_) (fun b1 => ?_)
  · have H := H.1 b1
    refine ev_iconst (v := 1) rfl (a_dec_at dc_Sc_wouldMove 12 rfl) ?_
    refine ev_goto (tgt := 25) (a_dec_at dc_Sc_wouldMove 13 rfl) (by decide) ?_
    exact m_retI (a_dec_at dc_Sc_wouldMove 15 rfl) rfl rfl H
  · have H := H.2 b1
    refine ev_iload_n (i := 1) rfl rfl (a_dec_at dc_Sc_wouldMove 3 rfl) ?_
    refine ev_iload_n (i := 3) rfl rfl (a_dec_at dc_Sc_wouldMove 4 rfl) ?_
    refine ev_icmp_eq (tgt := 24) (a_dec_at dc_Sc_wouldMove 5 rfl) (by decide) (fun b2 => ?_) (fun b2 => ?_)
    · have H := H.1 b2
      refine ev_iconst (v := 0) rfl (a_dec_at dc_Sc_wouldMove 14 rfl) ?_
      exact m_retI (a_dec_at dc_Sc_wouldMove 15 rfl) rfl rfl H
    · have H := H.2 b2
      refine ev_aload_n (i := 0) rfl rfl (a_dec_at dc_Sc_wouldMove 6 rfl) ?_
      refine ev_iload_n (i := 2) rfl rfl (a_dec_at dc_Sc_wouldMove 7 rfl) ?_
      refine ev_iload_n (i := 3) rfl rfl (a_dec_at dc_Sc_wouldMove 8 rfl) ?_
      refine ev_iload_n (i := 1) rfl rfl (a_dec_at dc_Sc_wouldMove 9 rfl) ?_
      refine cV3I cs_Sc_121 sh17 rfl (Nat.le_of_ble_eq_true rfl) (Nat.le_of_ble_eq_true rfl) (a_dec_at dc_Sc_wouldMove 10 rfl) ?_
      refine CI.mono (fun x3 mi3 ml3 z3 H => ?_) H
      refine ev_if_eq (tgt := 24) (a_dec_at dc_Sc_wouldMove 11 rfl) (by decide) (fun b4 => ?_) (fun b4 => ?_)
      · have H := H.1 b4
        refine ev_iconst (v := 0) rfl (a_dec_at dc_Sc_wouldMove 14 rfl) ?_
        exact m_retI (a_dec_at dc_Sc_wouldMove 15 rfl) rfl rfl H
      · have H := H.2 b4
        refine ev_iconst (v := 1) rfl (a_dec_at dc_Sc_wouldMove 12 rfl) ?_
        refine ev_goto (tgt := 25) (a_dec_at dc_Sc_wouldMove 13 rfl) (by decide) ?_
        exact m_retI (a_dec_at dc_Sc_wouldMove 15 rfl) rfl rfl H
set_option maxRecDepth 20000 in
theorem t_Sc_likesBetter_17 {l : Launch} {h : Nat} (mi : TMi) (ml : TMl) (z : Nat) (a1 : Int32) (a2 : Int32) (a3 : Int32) {Q : Int32 → TMi → TMl → Nat → Prop} (H : CI l h m_B_pair [.int a1, .int a2] mi ml z (fun x1 mi1 ml1 z1 => (vp_in x1 24) ∧ CI l h m_B_pair [.int a1, .int a3] mi1 ml1 z1 (fun x3 mi3 ml3 z3 => (vp_in x3 24) ∧ (((mi1 30 x1.toNatClampNeg) ≤ (mi3 30 x3.toNatClampNeg) → Q 0 mi3 ml3 z3) ∧ (¬ (mi1 30 x1.toNatClampNeg) ≤ (mi3 30 x3.toNatClampNeg) → Q 1 mi3 ml3 z3))))) : CI l (h + 1) m_Sc_likesBetter [.ref 17, .int a1, .int a2, .int a3] mi ml z Q := by
  show Ev l (h + 1) m_Sc_likesBetter 0 ([.ref 17, .int a1, .int a2, .int a3], [], st mi ml z) (qI Q)
  refine ev_aload_n (i := 0) rfl rfl (a_dec_at dc_Sc_likesBetter 0 rfl) ?_
  refine m_getR (y := 30) fl_Sc_21 rfl sh17 (mr_17_5 _) (by decide) (a_dec_at dc_Sc_likesBetter 1 rfl) ?_
  refine ev_iload_n (i := 1) rfl rfl (a_dec_at dc_Sc_likesBetter 2 rfl) ?_
  refine ev_iload_n (i := 2) rfl rfl (a_dec_at dc_Sc_likesBetter 3 rfl) ?_
  refine cN2I cs_Sc_71 rfl (Nat.le_of_ble_eq_true rfl) (Nat.le_of_ble_eq_true rfl) (a_dec_at dc_Sc_likesBetter 4 rfl) ?_
  refine CI.mono (fun x1 mi1 ml1 z1 H => ?_) H
  obtain ⟨c2, H⟩ := H
  refine w_iald (k := x1.toNatClampNeg) sh30 c2 rfl (a_dec_at dc_Sc_likesBetter 5 rfl) ?_
  refine ev_aload_n (i := 0) rfl rfl (a_dec_at dc_Sc_likesBetter 6 rfl) ?_
  refine m_getR (y := 30) fl_Sc_21 rfl sh17 (mr_17_5 _) (by decide) (a_dec_at dc_Sc_likesBetter 7 rfl) ?_
  refine ev_iload_n (i := 1) rfl rfl (a_dec_at dc_Sc_likesBetter 8 rfl) ?_
  refine ev_iload_n (i := 3) rfl rfl (a_dec_at dc_Sc_likesBetter 9 rfl) ?_
  refine cN2I cs_Sc_71 rfl (Nat.le_of_ble_eq_true rfl) (Nat.le_of_ble_eq_true rfl) (a_dec_at dc_Sc_likesBetter 10 rfl) ?_
  refine CI.mono (fun x3 mi3 ml3 z3 H => ?_) H
  obtain ⟨c4, H⟩ := H
  refine w_iald (k := x3.toNatClampNeg) sh30 c4 rfl (a_dec_at dc_Sc_likesBetter 11 rfl) ?_
  refine ev_icmp_le (tgt := 27) (a_dec_at dc_Sc_likesBetter 12 rfl) (by decide) (fun b5 => ?_) (fun b5 => ?_)
  · have H := H.1 b5
    refine ev_iconst (v := 0) rfl (a_dec_at dc_Sc_likesBetter 15 rfl) ?_
    exact m_retI (a_dec_at dc_Sc_likesBetter 16 rfl) rfl rfl H
  · have H := H.2 b5
    refine ev_iconst (v := 1) rfl (a_dec_at dc_Sc_likesBetter 13 rfl) ?_
    refine ev_goto (tgt := 28) (a_dec_at dc_Sc_likesBetter 14 rfl) (by decide) ?_
    exact m_retI (a_dec_at dc_Sc_likesBetter 16 rfl) rfl rfl H
set_option maxRecDepth 20000 in
theorem t_Sc_rankOf_17 {l : Launch} {h : Nat} (mi : TMi) (ml : TMl) (z : Nat) (a1 : Int32) (a2 : Int32) {Q : Int32 → TMi → TMl → Nat → Prop} (H : Ev l (h + 1) m_Sc_rankOf 5 ([.ref 17, .int a1, .int a2, .int 0, .int 0], [], st mi ml z) (qI Q)) : CI l (h + 1) m_Sc_rankOf [.ref 17, .int a1, .int a2] mi ml z Q := by
  show Ev l (h + 1) m_Sc_rankOf 0 ([.ref 17, .int a1, .int a2, .retAddr 0, .retAddr 0], [], st mi ml z) (qI Q)
  refine ev_iconst (v := 0) rfl (a_dec_at dc_Sc_rankOf 0 rfl) ?_
  refine ev_istore_n (i := 3) rfl (by decide) rfl (a_dec_at dc_Sc_rankOf 1 rfl) ?_
  refine ev_iconst (v := 0) rfl (a_dec_at dc_Sc_rankOf 2 rfl) ?_
  refine ev_istore (by decide) rfl (a_dec_at dc_Sc_rankOf 3 rfl) ?_
  exact Ev.drop (L' := [.ref 17, .int a1, .int a2, .int 0, .int 0]) (And.intro rfl (And.intro rfl (And.intro rfl (And.intro rfl (And.intro rfl trivial))))) H
set_option maxRecDepth 20000 in
theorem t_Sc_rankOf_17_5 {l : Launch} {h : Nat} (mi : TMi) (ml : TMl) (z : Nat) (v1 : Int32) (v2 : Int32) (v3 : Int32) (v4 : Int32) {Q : Int32 → TMi → TMl → Nat → Prop} (H : (((mi 18 1) ≤ v4 → Q v3 mi ml z) ∧ (¬ (mi 18 1) ≤ v4 → CI l h m_Sc_likesBetter [.ref 17, .int v1, .int v4, .int v2] mi ml z (fun x2 mi2 ml2 z2 => ((x2 = 0 → Ev l (h + 1) m_Sc_rankOf 5 ([.ref 17, .int v1, .int v2, .int v3, .int (v4 + 1)], [], st mi2 ml2 z2) (qI Q)) ∧ (¬ x2 = 0 → Ev l (h + 1) m_Sc_rankOf 5 ([.ref 17, .int v1, .int v2, .int (v3 + 1), .int (v4 + 1)], [], st mi2 ml2 z2) (qI Q))))))) : Ev l (h + 1) m_Sc_rankOf 5 ([.ref 17, .int v1, .int v2, .int v3, .int v4], [], st mi ml z) (qI Q) := by
  refine ev_iload rfl (a_dec_at dc_Sc_rankOf 4 rfl) ?_
  refine ev_aload_n (i := 0) rfl rfl (a_dec_at dc_Sc_rankOf 5 rfl) ?_
  refine m_getR (y := 18) fl_Sc_30 rfl sh17 (mr_17_0 _) (by decide) (a_dec_at dc_Sc_rankOf 6 rfl) ?_
  refine m_getI fl_Sc_65 rfl sh18 (a_dec_at dc_Sc_rankOf 7 rfl) ?_
  refine ev_icmp_ge (tgt := 37) (a_dec_at dc_Sc_rankOf 8 rfl) (by decide) (fun b1 => ?_) (fun b1 => ?_)
  · have H := H.1 b1
    refine ev_iload_n (i := 3) rfl rfl (a_dec_at dc_Sc_rankOf 18 rfl) ?_
    exact m_retI (a_dec_at dc_Sc_rankOf 19 rfl) rfl rfl H
  · have H := H.2 b1
    refine ev_aload_n (i := 0) rfl rfl (a_dec_at dc_Sc_rankOf 9 rfl) ?_
    refine ev_iload_n (i := 1) rfl rfl (a_dec_at dc_Sc_rankOf 10 rfl) ?_
    refine ev_iload rfl (a_dec_at dc_Sc_rankOf 11 rfl) ?_
    refine ev_iload_n (i := 2) rfl rfl (a_dec_at dc_Sc_rankOf 12 rfl) ?_
    refine cV3I cs_Sc_121 sh17 rfl (Nat.le_of_ble_eq_true rfl) (Nat.le_of_ble_eq_true rfl) (a_dec_at dc_Sc_rankOf 13 rfl) ?_
    refine CI.mono (fun x2 mi2 ml2 z2 H => ?_) H
    refine ev_if_eq (tgt := 31) (a_dec_at dc_Sc_rankOf 14 rfl) (by decide) (fun b3 => ?_) (fun b3 => ?_)
    · have H := H.1 b3
      refine ev_iinc (v := 1) rfl rfl (by decide) rfl (a_dec_at dc_Sc_rankOf 16 rfl) ?_
      refine ev_goto (tgt := 5) (a_dec_at dc_Sc_rankOf 17 rfl) (by decide) ?_
      exact Ev.drop (L' := [.ref 17, .int v1, .int v2, .int v3, .int (v4 + 1)]) (And.intro rfl (And.intro rfl (And.intro rfl (And.intro rfl (And.intro rfl trivial))))) H
    · have H := H.2 b3
      refine ev_iinc (v := 1) rfl rfl (by decide) rfl (a_dec_at dc_Sc_rankOf 15 rfl) ?_
      refine ev_iinc (v := 1) rfl rfl (by decide) rfl (a_dec_at dc_Sc_rankOf 16 rfl) ?_
      refine ev_goto (tgt := 5) (a_dec_at dc_Sc_rankOf 17 rfl) (by decide) ?_
      exact Ev.drop (L' := [.ref 17, .int v1, .int v2, .int (v3 + 1), .int (v4 + 1)]) (And.intro rfl (And.intro rfl (And.intro rfl (And.intro rfl (And.intro rfl trivial))))) H
set_option maxRecDepth 20000 in
theorem t_Sc_fewestToTurnOff_17 {l : Launch} {h : Nat} (mi : TMi) (ml : TMl) (z : Nat) {Q : Int32 → TMi → TMl → Nat → Prop} (H : CI l h m_La_allBecks [.ref 18] mi ml z (fun x1 mi1 ml1 z1 => Ev l (h + 1) m_Sc_fewestToTurnOff 12 ([.ref 17, .int x1, .int x1, .int 0], [], st mi1 ml1 z1) (qI Q))) : CI l (h + 1) m_Sc_fewestToTurnOff [.ref 17] mi ml z Q := by
  show Ev l (h + 1) m_Sc_fewestToTurnOff 0 ([.ref 17, .retAddr 0, .retAddr 0, .retAddr 0], [], st mi ml z) (qI Q)
  refine ev_aload_n (i := 0) rfl rfl (a_dec_at dc_Sc_fewestToTurnOff 0 rfl) ?_
  refine m_getR (y := 18) fl_Sc_30 rfl sh17 (mr_17_0 _) (by decide) (a_dec_at dc_Sc_fewestToTurnOff 1 rfl) ?_
  refine cV0I cs_Sc_128 sh18 rfl (Nat.le_of_ble_eq_true rfl) (Nat.le_of_ble_eq_true rfl) (a_dec_at dc_Sc_fewestToTurnOff 2 rfl) ?_
  refine CI.mono (fun x1 mi1 ml1 z1 H => ?_) H
  refine ev_istore_n (i := 1) rfl (by decide) rfl (a_dec_at dc_Sc_fewestToTurnOff 3 rfl) ?_
  refine ev_iload_n (i := 1) rfl rfl (a_dec_at dc_Sc_fewestToTurnOff 4 rfl) ?_
  refine ev_istore_n (i := 2) rfl (by decide) rfl (a_dec_at dc_Sc_fewestToTurnOff 5 rfl) ?_
  refine ev_iconst (v := 0) rfl (a_dec_at dc_Sc_fewestToTurnOff 6 rfl) ?_
  refine ev_istore_n (i := 3) rfl (by decide) rfl (a_dec_at dc_Sc_fewestToTurnOff 7 rfl) ?_
  exact Ev.drop (L' := [.ref 17, .int x1, .int x1, .int 0]) (And.intro rfl (And.intro rfl (And.intro rfl (And.intro rfl trivial)))) H
set_option maxRecDepth 20000 in
theorem t_Sc_fewestToTurnOff_17_12 {l : Launch} {h : Nat} (mi : TMi) (ml : TMl) (z : Nat) (v1 : Int32) (v2 : Int32) (v3 : Int32) {Q : Int32 → TMi → TMl → Nat → Prop} (H : ((v1 ≤ v3 → Q v2 mi ml z) ∧ (¬ v1 ≤ v3 → CI l h m_JI_bitCount [.int v3] mi ml z (fun x2 mi2 ml2 z2 => CI l h m_JI_bitCount [.int v2] mi2 ml2 z2 (fun x3 mi3 ml3 z3 => ((x3 ≤ x2 → Ev l (h + 1) m_Sc_fewestToTurnOff 12 ([.ref 17, .int v1, .int v2, .int (v3 + 1)], [], st mi3 ml3 z3) (qI Q)) ∧ (¬ x3 ≤ x2 → CI l h m_Sc_floodedOf [.ref 17, .int (v1 &&& (v3 ^^^ (-1)))] mi3 ml3 z3 (fun x5 mi5 ml5 z5 => ((¬ x5 = 0 → Ev l (h + 1) m_Sc_fewestToTurnOff 12 ([.ref 17, .int v1, .int v2, .int (v3 + 1)], [], st mi5 ml5 z5) (qI Q)) ∧ (x5 = 0 → Ev l (h + 1) m_Sc_fewestToTurnOff 12 ([.ref 17, .int v1, .int v3, .int (v3 + 1)], [], st mi5 ml5 z5) (qI Q))))))))))) : Ev l (h + 1) m_Sc_fewestToTurnOff 12 ([.ref 17, .int v1, .int v2, .int v3], [], st mi ml z) (qI Q) := by
  refine ev_iload_n (i := 3) rfl rfl (a_dec_at dc_Sc_fewestToTurnOff 8 rfl) ?_
  refine ev_iload_n (i := 1) rfl rfl (a_dec_at dc_Sc_fewestToTurnOff 9 rfl) ?_
  refine ev_icmp_ge (tgt := 48) (a_dec_at dc_Sc_fewestToTurnOff 10 rfl) (by decide) (fun b1 => ?_) (fun b1 => ?_)
  · have H := H.1 b1
    refine ev_iload_n (i := 2) rfl rfl (a_dec_at dc_Sc_fewestToTurnOff 28 rfl) ?_
    exact m_retI (a_dec_at dc_Sc_fewestToTurnOff 29 rfl) rfl rfl H
  · have H := H.2 b1
    refine ev_iload_n (i := 3) rfl rfl (a_dec_at dc_Sc_fewestToTurnOff 11 rfl) ?_
    refine cS1I cs_Sc_145 rfl (Nat.le_of_ble_eq_true rfl) (Nat.le_of_ble_eq_true rfl) (a_dec_at dc_Sc_fewestToTurnOff 12 rfl) ?_
    refine CI.mono (fun x2 mi2 ml2 z2 H => ?_) H
    refine ev_iload_n (i := 2) rfl rfl (a_dec_at dc_Sc_fewestToTurnOff 13 rfl) ?_
    refine cS1I cs_Sc_145 rfl (Nat.le_of_ble_eq_true rfl) (Nat.le_of_ble_eq_true rfl) (a_dec_at dc_Sc_fewestToTurnOff 14 rfl) ?_
    refine CI.mono (fun x3 mi3 ml3 z3 H => ?_) H
    refine ev_icmp_ge (tgt := 42) (a_dec_at dc_Sc_fewestToTurnOff 15 rfl) (by decide) (fun b4 => ?_) (fun b4 => ?_)
    · have H := H.1 b4
      refine ev_iinc (v := 1) rfl rfl (by decide) rfl (a_dec_at dc_Sc_fewestToTurnOff 26 rfl) ?_
      refine ev_goto (tgt := 12) (a_dec_at dc_Sc_fewestToTurnOff 27 rfl) (by decide) ?_
      exact Ev.drop (L' := [.ref 17, .int v1, .int v2, .int (v3 + 1)]) (And.intro rfl (And.intro rfl (And.intro rfl (And.intro rfl trivial)))) H
    · have H := H.2 b4
      refine ev_aload_n (i := 0) rfl rfl (a_dec_at dc_Sc_fewestToTurnOff 16 rfl) ?_
      refine ev_iload_n (i := 1) rfl rfl (a_dec_at dc_Sc_fewestToTurnOff 17 rfl) ?_
      refine ev_iload_n (i := 3) rfl rfl (a_dec_at dc_Sc_fewestToTurnOff 18 rfl) ?_
      refine ev_iconst (v := (-1)) rfl (a_dec_at dc_Sc_fewestToTurnOff 19 rfl) ?_
      refine ev_ixor (a_dec_at dc_Sc_fewestToTurnOff 20 rfl) ?_
      refine ev_iand (a_dec_at dc_Sc_fewestToTurnOff 21 rfl) ?_
      refine cV1I cs_Sc_132 sh17 rfl (Nat.le_of_ble_eq_true rfl) (Nat.le_of_ble_eq_true rfl) (a_dec_at dc_Sc_fewestToTurnOff 22 rfl) ?_
      refine CI.mono (fun x5 mi5 ml5 z5 H => ?_) H
      refine ev_if_ne (tgt := 42) (a_dec_at dc_Sc_fewestToTurnOff 23 rfl) (by decide) (fun b6 => ?_) (fun b6 => ?_)
      · have H := H.1 b6
        refine ev_iinc (v := 1) rfl rfl (by decide) rfl (a_dec_at dc_Sc_fewestToTurnOff 26 rfl) ?_
        refine ev_goto (tgt := 12) (a_dec_at dc_Sc_fewestToTurnOff 27 rfl) (by decide) ?_
        exact Ev.drop (L' := [.ref 17, .int v1, .int v2, .int (v3 + 1)]) (And.intro rfl (And.intro rfl (And.intro rfl (And.intro rfl trivial)))) H
      · have H := H.2 b6
        refine ev_iload_n (i := 3) rfl rfl (a_dec_at dc_Sc_fewestToTurnOff 24 rfl) ?_
        refine ev_istore_n (i := 2) rfl (by decide) rfl (a_dec_at dc_Sc_fewestToTurnOff 25 rfl) ?_
        refine ev_iinc (v := 1) rfl rfl (by decide) rfl (a_dec_at dc_Sc_fewestToTurnOff 26 rfl) ?_
        refine ev_goto (tgt := 12) (a_dec_at dc_Sc_fewestToTurnOff 27 rfl) (by decide) ?_
        exact Ev.drop (L' := [.ref 17, .int v1, .int v3, .int (v3 + 1)]) (And.intro rfl (And.intro rfl (And.intro rfl (And.intro rfl trivial)))) H
set_option maxRecDepth 20000 in
theorem t_Sc_total_17 {l : Launch} {h : Nat} (mi : TMi) (ml : TMl) (z : Nat) (a1 : Int32) (a2 : Int32) {Q : Int32 → TMi → TMl → Nat → Prop} (H : Ev l (h + 1) m_Sc_total 5 ([.ref 17, .int a1, .int a2, .int 0, .int a1], [], st mi ml z) (qI Q)) : CI l (h + 1) m_Sc_total [.ref 17, .int a1, .int a2] mi ml z Q := by
  show Ev l (h + 1) m_Sc_total 0 ([.ref 17, .int a1, .int a2, .retAddr 0, .retAddr 0], [], st mi ml z) (qI Q)
  refine ev_iconst (v := 0) rfl (a_dec_at dc_Sc_total 0 rfl) ?_
  refine ev_istore_n (i := 3) rfl (by decide) rfl (a_dec_at dc_Sc_total 1 rfl) ?_
  refine ev_iload_n (i := 1) rfl rfl (a_dec_at dc_Sc_total 2 rfl) ?_
  refine ev_istore (by decide) rfl (a_dec_at dc_Sc_total 3 rfl) ?_
  exact Ev.drop (L' := [.ref 17, .int a1, .int a2, .int 0, .int a1]) (And.intro rfl (And.intro rfl (And.intro rfl (And.intro rfl (And.intro rfl trivial))))) H
set_option maxRecDepth 20000 in
theorem t_Sc_total_17_5 {l : Launch} {h : Nat} (mi : TMi) (ml : TMl) (z : Nat) (v1 : Int32) (v2 : Int32) (v3 : Int32) (v4 : Int32) {Q : Int32 → TMi → TMl → Nat → Prop} (H : (((v1 + v2) ≤ v4 → Q v3 mi ml z) ∧ (¬ (v1 + v2) ≤ v4 → ((40 ≤ v4 → Q v3 mi ml z) ∧ (¬ 40 ≤ v4 → (vp_in v4 40) ∧ Ev l (h + 1) m_Sc_total 5 ([.ref 17, .int v1, .int v2, .int (v3 + (mi 27 v4.toNatClampNeg)), .int (v4 + 1)], [], st mi ml z) (qI Q)))))) : Ev l (h + 1) m_Sc_total 5 ([.ref 17, .int v1, .int v2, .int v3, .int v4], [], st mi ml z) (qI Q) := by
  refine ev_iload rfl (a_dec_at dc_Sc_total 4 rfl) ?_
  refine ev_iload_n (i := 1) rfl rfl (a_dec_at dc_Sc_total 5 rfl) ?_
  refine ev_iload_n (i := 2) rfl rfl (a_dec_at dc_Sc_total 6 rfl) ?_
  refine ev_iadd (a_dec_at dc_Sc_total 7 rfl) ?_
  refine ev_icmp_ge (tgt := 36) (a_dec_at dc_Sc_total 8 rfl) (by decide) (fun b1 => ?_) (fun b1 => ?_)
  · have H := H.1 b1
    refine ev_iload_n (i := 3) rfl rfl (a_dec_at dc_Sc_total 21 rfl) ?_
    exact m_retI (a_dec_at dc_Sc_total 22 rfl) rfl rfl H
  · have H := H.2 b1
    refine ev_iload rfl (a_dec_at dc_Sc_total 9 rfl) ?_
    refine ev_bipush (v := 40) rfl (a_dec_at dc_Sc_total 10 rfl) ?_
    refine ev_icmp_ge (tgt := 36) (a_dec_at dc_Sc_total 11 rfl) (by decide) (fun b2 => ?_) (fun b2 => ?_)
    · have H := H.1 b2
      refine ev_iload_n (i := 3) rfl rfl (a_dec_at dc_Sc_total 21 rfl) ?_
      exact m_retI (a_dec_at dc_Sc_total 22 rfl) rfl rfl H
    · have H := H.2 b2
      refine ev_iload_n (i := 3) rfl rfl (a_dec_at dc_Sc_total 12 rfl) ?_
      refine ev_aload_n (i := 0) rfl rfl (a_dec_at dc_Sc_total 13 rfl) ?_
      refine m_getR (y := 27) fl_Sc_11 rfl sh17 (mr_17_2 _) (by decide) (a_dec_at dc_Sc_total 14 rfl) ?_
      refine ev_iload rfl (a_dec_at dc_Sc_total 15 rfl) ?_
      obtain ⟨c3, H⟩ := H
      refine w_iald (k := v4.toNatClampNeg) sh27 c3 rfl (a_dec_at dc_Sc_total 16 rfl) ?_
      refine ev_iadd (a_dec_at dc_Sc_total 17 rfl) ?_
      refine ev_istore_n (i := 3) rfl (by decide) rfl (a_dec_at dc_Sc_total 18 rfl) ?_
      refine ev_iinc (v := 1) rfl rfl (by decide) rfl (a_dec_at dc_Sc_total 19 rfl) ?_
      refine ev_goto (tgt := 5) (a_dec_at dc_Sc_total 20 rfl) (by decide) ?_
      exact Ev.drop (L' := [.ref 17, .int v1, .int v2, .int (v3 + (mi 27 v4.toNatClampNeg)), .int (v4 + 1)]) (And.intro rfl (And.intro rfl (And.intro rfl (And.intro rfl (And.intro rfl trivial))))) H
set_option maxRecDepth 20000 in
theorem t_Sc_doAll_17_111 {l : Launch} {h : Nat} (mi : TMi) (ml : TMl) (z : Nat) {Q : Int32 → TMi → TMl → Nat → Prop} (H : Ev l (h + 1) m_Sc_doAll 2 ([.ref 17, .ref 111, .int 0], [], st mi ml z) (qI Q)) : CI l (h + 1) m_Sc_doAll [.ref 17, .ref 111] mi ml z Q := by
  show Ev l (h + 1) m_Sc_doAll 0 ([.ref 17, .ref 111, .retAddr 0], [], st mi ml z) (qI Q)
  refine ev_iconst (v := 0) rfl (a_dec_at dc_Sc_doAll 0 rfl) ?_
  refine ev_istore_n (i := 2) rfl (by decide) rfl (a_dec_at dc_Sc_doAll 1 rfl) ?_
  exact Ev.drop (L' := [.ref 17, .ref 111, .int 0]) (And.intro rfl (And.intro rfl (And.intro rfl trivial))) H
set_option maxRecDepth 20000 in
theorem t_Sc_doAll_17_111_2 {l : Launch} {h : Nat} (mi : TMi) (ml : TMl) (z : Nat) (v2 : Int32) {Q : Int32 → TMi → TMl → Nat → Prop} (H : (((mi 111 2) ≤ v2 → Q v2 mi ml z) ∧ (¬ (mi 111 2) ≤ v2 → CLg l h m_Tr_at [.ref 111, .int v2] mi ml z (fun x2 mi2 ml2 z2 => CI l h m_Sc_whyNot [.ref 17, .long x2] mi2 ml2 z2 (fun x3 mi3 ml3 z3 => ((¬ x3 = 0 → Q v2 mi3 ml3 z3) ∧ (x3 = 0 → Ev l (h + 1) m_Sc_doAll 2 ([.ref 17, .ref 111, .int (v2 + 1)], [], st mi3 ml3 z3) (qI Q)))))))) : Ev l (h + 1) m_Sc_doAll 2 ([.ref 17, .ref 111, .int v2], [], st mi ml z) (qI Q) := by
  refine ev_iload_n (i := 2) rfl rfl (a_dec_at dc_Sc_doAll 2 rfl) ?_
  refine ev_aload_n (i := 1) rfl rfl (a_dec_at dc_Sc_doAll 3 rfl) ?_
  refine m_getI fl_Sc_197 rfl sh111 (a_dec_at dc_Sc_doAll 4 rfl) ?_
  refine ev_icmp_ge (tgt := 28) (a_dec_at dc_Sc_doAll 5 rfl) (by decide) (fun b1 => ?_) (fun b1 => ?_)
  · have H := H.1 b1
    refine ev_iload_n (i := 2) rfl rfl (a_dec_at dc_Sc_doAll 14 rfl) ?_
    exact m_retI (a_dec_at dc_Sc_doAll 15 rfl) rfl rfl H
  · have H := H.2 b1
    refine ev_aload_n (i := 0) rfl rfl (a_dec_at dc_Sc_doAll 6 rfl) ?_
    refine ev_aload_n (i := 1) rfl rfl (a_dec_at dc_Sc_doAll 7 rfl) ?_
    refine ev_iload_n (i := 2) rfl rfl (a_dec_at dc_Sc_doAll 8 rfl) ?_
    refine cV1L cs_Sc_202 sh111 rfl (Nat.le_of_ble_eq_true rfl) (Nat.le_of_ble_eq_true rfl) (a_dec_at dc_Sc_doAll 9 rfl) ?_
    refine CLg.mono (fun x2 mi2 ml2 z2 H => ?_) H
    refine cV1I cs_Sc_206 sh17 rfl (Nat.le_of_ble_eq_true rfl) (Nat.le_of_ble_eq_true rfl) (a_dec_at dc_Sc_doAll 10 rfl) ?_
    refine CI.mono (fun x3 mi3 ml3 z3 H => ?_) H
    refine ev_if_ne (tgt := 28) (a_dec_at dc_Sc_doAll 11 rfl) (by decide) (fun b4 => ?_) (fun b4 => ?_)
    · have H := H.1 b4
      refine ev_iload_n (i := 2) rfl rfl (a_dec_at dc_Sc_doAll 14 rfl) ?_
      exact m_retI (a_dec_at dc_Sc_doAll 15 rfl) rfl rfl H
    · have H := H.2 b4
      refine ev_iinc (v := 1) rfl rfl (by decide) rfl (a_dec_at dc_Sc_doAll 12 rfl) ?_
      refine ev_goto (tgt := 2) (a_dec_at dc_Sc_doAll 13 rfl) (by decide) ?_
      exact Ev.drop (L' := [.ref 17, .ref 111, .int (v2 + 1)]) (And.intro rfl (And.intro rfl (And.intro rfl trivial))) H
set_option maxRecDepth 20000 in
theorem t_Sc_doAll_17_113 {l : Launch} {h : Nat} (mi : TMi) (ml : TMl) (z : Nat) {Q : Int32 → TMi → TMl → Nat → Prop} (H : Ev l (h + 1) m_Sc_doAll 2 ([.ref 17, .ref 113, .int 0], [], st mi ml z) (qI Q)) : CI l (h + 1) m_Sc_doAll [.ref 17, .ref 113] mi ml z Q := by
  show Ev l (h + 1) m_Sc_doAll 0 ([.ref 17, .ref 113, .retAddr 0], [], st mi ml z) (qI Q)
  refine ev_iconst (v := 0) rfl (a_dec_at dc_Sc_doAll 0 rfl) ?_
  refine ev_istore_n (i := 2) rfl (by decide) rfl (a_dec_at dc_Sc_doAll 1 rfl) ?_
  exact Ev.drop (L' := [.ref 17, .ref 113, .int 0]) (And.intro rfl (And.intro rfl (And.intro rfl trivial))) H
set_option maxRecDepth 20000 in
theorem t_Sc_doAll_17_113_2 {l : Launch} {h : Nat} (mi : TMi) (ml : TMl) (z : Nat) (v2 : Int32) {Q : Int32 → TMi → TMl → Nat → Prop} (H : (((mi 113 2) ≤ v2 → Q v2 mi ml z) ∧ (¬ (mi 113 2) ≤ v2 → CLg l h m_Tr_at [.ref 113, .int v2] mi ml z (fun x2 mi2 ml2 z2 => CI l h m_Sc_whyNot [.ref 17, .long x2] mi2 ml2 z2 (fun x3 mi3 ml3 z3 => ((¬ x3 = 0 → Q v2 mi3 ml3 z3) ∧ (x3 = 0 → Ev l (h + 1) m_Sc_doAll 2 ([.ref 17, .ref 113, .int (v2 + 1)], [], st mi3 ml3 z3) (qI Q)))))))) : Ev l (h + 1) m_Sc_doAll 2 ([.ref 17, .ref 113, .int v2], [], st mi ml z) (qI Q) := by
  refine ev_iload_n (i := 2) rfl rfl (a_dec_at dc_Sc_doAll 2 rfl) ?_
  refine ev_aload_n (i := 1) rfl rfl (a_dec_at dc_Sc_doAll 3 rfl) ?_
  refine m_getI fl_Sc_197 rfl sh113 (a_dec_at dc_Sc_doAll 4 rfl) ?_
  refine ev_icmp_ge (tgt := 28) (a_dec_at dc_Sc_doAll 5 rfl) (by decide) (fun b1 => ?_) (fun b1 => ?_)
  · have H := H.1 b1
    refine ev_iload_n (i := 2) rfl rfl (a_dec_at dc_Sc_doAll 14 rfl) ?_
    exact m_retI (a_dec_at dc_Sc_doAll 15 rfl) rfl rfl H
  · have H := H.2 b1
    refine ev_aload_n (i := 0) rfl rfl (a_dec_at dc_Sc_doAll 6 rfl) ?_
    refine ev_aload_n (i := 1) rfl rfl (a_dec_at dc_Sc_doAll 7 rfl) ?_
    refine ev_iload_n (i := 2) rfl rfl (a_dec_at dc_Sc_doAll 8 rfl) ?_
    refine cV1L cs_Sc_202 sh113 rfl (Nat.le_of_ble_eq_true rfl) (Nat.le_of_ble_eq_true rfl) (a_dec_at dc_Sc_doAll 9 rfl) ?_
    refine CLg.mono (fun x2 mi2 ml2 z2 H => ?_) H
    refine cV1I cs_Sc_206 sh17 rfl (Nat.le_of_ble_eq_true rfl) (Nat.le_of_ble_eq_true rfl) (a_dec_at dc_Sc_doAll 10 rfl) ?_
    refine CI.mono (fun x3 mi3 ml3 z3 H => ?_) H
    refine ev_if_ne (tgt := 28) (a_dec_at dc_Sc_doAll 11 rfl) (by decide) (fun b4 => ?_) (fun b4 => ?_)
    · have H := H.1 b4
      refine ev_iload_n (i := 2) rfl rfl (a_dec_at dc_Sc_doAll 14 rfl) ?_
      exact m_retI (a_dec_at dc_Sc_doAll 15 rfl) rfl rfl H
    · have H := H.2 b4
      refine ev_iinc (v := 1) rfl rfl (by decide) rfl (a_dec_at dc_Sc_doAll 12 rfl) ?_
      refine ev_goto (tgt := 2) (a_dec_at dc_Sc_doAll 13 rfl) (by decide) ?_
      exact Ev.drop (L' := [.ref 17, .ref 113, .int (v2 + 1)]) (And.intro rfl (And.intro rfl (And.intro rfl trivial))) H
set_option maxRecDepth 20000 in
theorem t_Sc_doAll_17_115 {l : Launch} {h : Nat} (mi : TMi) (ml : TMl) (z : Nat) {Q : Int32 → TMi → TMl → Nat → Prop} (H : Ev l (h + 1) m_Sc_doAll 2 ([.ref 17, .ref 115, .int 0], [], st mi ml z) (qI Q)) : CI l (h + 1) m_Sc_doAll [.ref 17, .ref 115] mi ml z Q := by
  show Ev l (h + 1) m_Sc_doAll 0 ([.ref 17, .ref 115, .retAddr 0], [], st mi ml z) (qI Q)
  refine ev_iconst (v := 0) rfl (a_dec_at dc_Sc_doAll 0 rfl) ?_
  refine ev_istore_n (i := 2) rfl (by decide) rfl (a_dec_at dc_Sc_doAll 1 rfl) ?_
  exact Ev.drop (L' := [.ref 17, .ref 115, .int 0]) (And.intro rfl (And.intro rfl (And.intro rfl trivial))) H
set_option maxRecDepth 20000 in
theorem t_Sc_doAll_17_115_2 {l : Launch} {h : Nat} (mi : TMi) (ml : TMl) (z : Nat) (v2 : Int32) {Q : Int32 → TMi → TMl → Nat → Prop} (H : (((mi 115 2) ≤ v2 → Q v2 mi ml z) ∧ (¬ (mi 115 2) ≤ v2 → CLg l h m_Tr_at [.ref 115, .int v2] mi ml z (fun x2 mi2 ml2 z2 => CI l h m_Sc_whyNot [.ref 17, .long x2] mi2 ml2 z2 (fun x3 mi3 ml3 z3 => ((¬ x3 = 0 → Q v2 mi3 ml3 z3) ∧ (x3 = 0 → Ev l (h + 1) m_Sc_doAll 2 ([.ref 17, .ref 115, .int (v2 + 1)], [], st mi3 ml3 z3) (qI Q)))))))) : Ev l (h + 1) m_Sc_doAll 2 ([.ref 17, .ref 115, .int v2], [], st mi ml z) (qI Q) := by
  refine ev_iload_n (i := 2) rfl rfl (a_dec_at dc_Sc_doAll 2 rfl) ?_
  refine ev_aload_n (i := 1) rfl rfl (a_dec_at dc_Sc_doAll 3 rfl) ?_
  refine m_getI fl_Sc_197 rfl sh115 (a_dec_at dc_Sc_doAll 4 rfl) ?_
  refine ev_icmp_ge (tgt := 28) (a_dec_at dc_Sc_doAll 5 rfl) (by decide) (fun b1 => ?_) (fun b1 => ?_)
  · have H := H.1 b1
    refine ev_iload_n (i := 2) rfl rfl (a_dec_at dc_Sc_doAll 14 rfl) ?_
    exact m_retI (a_dec_at dc_Sc_doAll 15 rfl) rfl rfl H
  · have H := H.2 b1
    refine ev_aload_n (i := 0) rfl rfl (a_dec_at dc_Sc_doAll 6 rfl) ?_
    refine ev_aload_n (i := 1) rfl rfl (a_dec_at dc_Sc_doAll 7 rfl) ?_
    refine ev_iload_n (i := 2) rfl rfl (a_dec_at dc_Sc_doAll 8 rfl) ?_
    refine cV1L cs_Sc_202 sh115 rfl (Nat.le_of_ble_eq_true rfl) (Nat.le_of_ble_eq_true rfl) (a_dec_at dc_Sc_doAll 9 rfl) ?_
    refine CLg.mono (fun x2 mi2 ml2 z2 H => ?_) H
    refine cV1I cs_Sc_206 sh17 rfl (Nat.le_of_ble_eq_true rfl) (Nat.le_of_ble_eq_true rfl) (a_dec_at dc_Sc_doAll 10 rfl) ?_
    refine CI.mono (fun x3 mi3 ml3 z3 H => ?_) H
    refine ev_if_ne (tgt := 28) (a_dec_at dc_Sc_doAll 11 rfl) (by decide) (fun b4 => ?_) (fun b4 => ?_)
    · have H := H.1 b4
      refine ev_iload_n (i := 2) rfl rfl (a_dec_at dc_Sc_doAll 14 rfl) ?_
      exact m_retI (a_dec_at dc_Sc_doAll 15 rfl) rfl rfl H
    · have H := H.2 b4
      refine ev_iinc (v := 1) rfl rfl (by decide) rfl (a_dec_at dc_Sc_doAll 12 rfl) ?_
      refine ev_goto (tgt := 2) (a_dec_at dc_Sc_doAll 13 rfl) (by decide) ?_
      exact Ev.drop (L' := [.ref 17, .ref 115, .int (v2 + 1)]) (And.intro rfl (And.intro rfl (And.intro rfl trivial))) H
set_option maxRecDepth 20000 in
theorem t_Sc_doAll_17_117 {l : Launch} {h : Nat} (mi : TMi) (ml : TMl) (z : Nat) {Q : Int32 → TMi → TMl → Nat → Prop} (H : Ev l (h + 1) m_Sc_doAll 2 ([.ref 17, .ref 117, .int 0], [], st mi ml z) (qI Q)) : CI l (h + 1) m_Sc_doAll [.ref 17, .ref 117] mi ml z Q := by
  show Ev l (h + 1) m_Sc_doAll 0 ([.ref 17, .ref 117, .retAddr 0], [], st mi ml z) (qI Q)
  refine ev_iconst (v := 0) rfl (a_dec_at dc_Sc_doAll 0 rfl) ?_
  refine ev_istore_n (i := 2) rfl (by decide) rfl (a_dec_at dc_Sc_doAll 1 rfl) ?_
  exact Ev.drop (L' := [.ref 17, .ref 117, .int 0]) (And.intro rfl (And.intro rfl (And.intro rfl trivial))) H
set_option maxRecDepth 20000 in
theorem t_Sc_doAll_17_117_2 {l : Launch} {h : Nat} (mi : TMi) (ml : TMl) (z : Nat) (v2 : Int32) {Q : Int32 → TMi → TMl → Nat → Prop} (H : (((mi 117 2) ≤ v2 → Q v2 mi ml z) ∧ (¬ (mi 117 2) ≤ v2 → CLg l h m_Tr_at [.ref 117, .int v2] mi ml z (fun x2 mi2 ml2 z2 => CI l h m_Sc_whyNot [.ref 17, .long x2] mi2 ml2 z2 (fun x3 mi3 ml3 z3 => ((¬ x3 = 0 → Q v2 mi3 ml3 z3) ∧ (x3 = 0 → Ev l (h + 1) m_Sc_doAll 2 ([.ref 17, .ref 117, .int (v2 + 1)], [], st mi3 ml3 z3) (qI Q)))))))) : Ev l (h + 1) m_Sc_doAll 2 ([.ref 17, .ref 117, .int v2], [], st mi ml z) (qI Q) := by
  refine ev_iload_n (i := 2) rfl rfl (a_dec_at dc_Sc_doAll 2 rfl) ?_
  refine ev_aload_n (i := 1) rfl rfl (a_dec_at dc_Sc_doAll 3 rfl) ?_
  refine m_getI fl_Sc_197 rfl sh117 (a_dec_at dc_Sc_doAll 4 rfl) ?_
  refine ev_icmp_ge (tgt := 28) (a_dec_at dc_Sc_doAll 5 rfl) (by decide) (fun b1 => ?_) (fun b1 => ?_)
  · have H := H.1 b1
    refine ev_iload_n (i := 2) rfl rfl (a_dec_at dc_Sc_doAll 14 rfl) ?_
    exact m_retI (a_dec_at dc_Sc_doAll 15 rfl) rfl rfl H
  · have H := H.2 b1
    refine ev_aload_n (i := 0) rfl rfl (a_dec_at dc_Sc_doAll 6 rfl) ?_
    refine ev_aload_n (i := 1) rfl rfl (a_dec_at dc_Sc_doAll 7 rfl) ?_
    refine ev_iload_n (i := 2) rfl rfl (a_dec_at dc_Sc_doAll 8 rfl) ?_
    refine cV1L cs_Sc_202 sh117 rfl (Nat.le_of_ble_eq_true rfl) (Nat.le_of_ble_eq_true rfl) (a_dec_at dc_Sc_doAll 9 rfl) ?_
    refine CLg.mono (fun x2 mi2 ml2 z2 H => ?_) H
    refine cV1I cs_Sc_206 sh17 rfl (Nat.le_of_ble_eq_true rfl) (Nat.le_of_ble_eq_true rfl) (a_dec_at dc_Sc_doAll 10 rfl) ?_
    refine CI.mono (fun x3 mi3 ml3 z3 H => ?_) H
    refine ev_if_ne (tgt := 28) (a_dec_at dc_Sc_doAll 11 rfl) (by decide) (fun b4 => ?_) (fun b4 => ?_)
    · have H := H.1 b4
      refine ev_iload_n (i := 2) rfl rfl (a_dec_at dc_Sc_doAll 14 rfl) ?_
      exact m_retI (a_dec_at dc_Sc_doAll 15 rfl) rfl rfl H
    · have H := H.2 b4
      refine ev_iinc (v := 1) rfl rfl (by decide) rfl (a_dec_at dc_Sc_doAll 12 rfl) ?_
      refine ev_goto (tgt := 2) (a_dec_at dc_Sc_doAll 13 rfl) (by decide) ?_
      exact Ev.drop (L' := [.ref 17, .ref 117, .int (v2 + 1)]) (And.intro rfl (And.intro rfl (And.intro rfl trivial))) H
set_option maxRecDepth 20000 in
theorem t_Sc_measureAll_33 {l : Launch} {h : Nat} (mi : TMi) (ml : TMl) (z : Nat) {Q : TMi → TMl → Nat → Prop} (H : Ev l (h + 1) m_Sc_measureAll 2 ([.ref 33, .int 0], [], st mi ml z) (qV Q)) : CV l (h + 1) m_Sc_measureAll [.ref 33] mi ml z Q := by
  show Ev l (h + 1) m_Sc_measureAll 0 ([.ref 33, .retAddr 0], [], st mi ml z) (qV Q)
  refine ev_iconst (v := 0) rfl (a_dec_at dc_Sc_measureAll 0 rfl) ?_
  refine ev_istore_n (i := 1) rfl (by decide) rfl (a_dec_at dc_Sc_measureAll 1 rfl) ?_
  exact Ev.drop (L' := [.ref 33, .int 0]) (And.intro rfl (And.intro rfl trivial)) H
set_option maxRecDepth 20000 in
theorem t_Sc_measureAll_33_2 {l : Launch} {h : Nat} (mi : TMi) (ml : TMl) (z : Nat) (v1 : Int32) {Q : TMi → TMl → Nat → Prop} (H : (((mi 18 0) ≤ v1 → Q mi ml z) ∧ (¬ (mi 18 0) ≤ v1 → (vp_in v1 6) ∧ CV l h m_Sc_measureBeck [.ref 33, .int v1, .int (mi 20 v1.toNatClampNeg)] mi ml z (fun mi3 ml3 z3 => Ev l (h + 1) m_Sc_measureAll 2 ([.ref 33, .int (v1 + 1)], [], st mi3 ml3 z3) (qV Q))))) : Ev l (h + 1) m_Sc_measureAll 2 ([.ref 33, .int v1], [], st mi ml z) (qV Q) := by
  refine ev_iload_n (i := 1) rfl rfl (a_dec_at dc_Sc_measureAll 2 rfl) ?_
  refine ev_aload_n (i := 0) rfl rfl (a_dec_at dc_Sc_measureAll 3 rfl) ?_
  refine m_getR (y := 18) fl_Sc_30 rfl sh33 (mr_33_0 _) (by decide) (a_dec_at dc_Sc_measureAll 4 rfl) ?_
  refine m_getI fl_Sc_44 rfl sh18 (a_dec_at dc_Sc_measureAll 5 rfl) ?_
  refine ev_icmp_ge (tgt := 33) (a_dec_at dc_Sc_measureAll 6 rfl) (by decide) (fun b1 => ?_) (fun b1 => ?_)
  · have H := H.1 b1
    exact m_retV (a_dec_at dc_Sc_measureAll 17 rfl) rfl H
  · have H := H.2 b1
    refine ev_aload_n (i := 0) rfl rfl (a_dec_at dc_Sc_measureAll 7 rfl) ?_
    refine ev_iload_n (i := 1) rfl rfl (a_dec_at dc_Sc_measureAll 8 rfl) ?_
    refine ev_aload_n (i := 0) rfl rfl (a_dec_at dc_Sc_measureAll 9 rfl) ?_
    refine m_getR (y := 18) fl_Sc_30 rfl sh33 (mr_33_0 _) (by decide) (a_dec_at dc_Sc_measureAll 10 rfl) ?_
    refine m_getR (y := 20) fl_Sc_75 rfl sh18 (mr_18_4 _) (by decide) (a_dec_at dc_Sc_measureAll 11 rfl) ?_
    refine ev_iload_n (i := 1) rfl rfl (a_dec_at dc_Sc_measureAll 12 rfl) ?_
    obtain ⟨c2, H⟩ := H
    refine w_iald (k := v1.toNatClampNeg) sh20 c2 rfl (a_dec_at dc_Sc_measureAll 13 rfl) ?_
    refine cV2V cs_Sc_78 sh33 rfl (Nat.le_of_ble_eq_true rfl) (Nat.le_of_ble_eq_true rfl) (a_dec_at dc_Sc_measureAll 14 rfl) ?_
    refine CV.mono (fun mi3 ml3 z3 H => ?_) H
    refine ev_iinc (v := 1) rfl rfl (by decide) rfl (a_dec_at dc_Sc_measureAll 15 rfl) ?_
    refine ev_goto (tgt := 2) (a_dec_at dc_Sc_measureAll 16 rfl) (by decide) ?_
    exact Ev.drop (L' := [.ref 33, .int (v1 + 1)]) (And.intro rfl (And.intro rfl trivial)) H
set_option maxRecDepth 20000 in
theorem t_Sc_measureBeck_33 {l : Launch} {h : Nat} (mi : TMi) (ml : TMl) (z : Nat) (a1 : Int32) (a2 : Int32) {Q : TMi → TMl → Nat → Prop} (H : Ev l (h + 1) m_Sc_measureBeck 2 ([.ref 33, .int a1, .int a2, .int 0], [], st mi ml z) (qV Q)) : CV l (h + 1) m_Sc_measureBeck [.ref 33, .int a1, .int a2] mi ml z Q := by
  show Ev l (h + 1) m_Sc_measureBeck 0 ([.ref 33, .int a1, .int a2, .retAddr 0], [], st mi ml z) (qV Q)
  refine ev_iconst (v := 0) rfl (a_dec_at dc_Sc_measureBeck 0 rfl) ?_
  refine ev_istore_n (i := 3) rfl (by decide) rfl (a_dec_at dc_Sc_measureBeck 1 rfl) ?_
  exact Ev.drop (L' := [.ref 33, .int a1, .int a2, .int 0]) (And.intro rfl (And.intro rfl (And.intro rfl (And.intro rfl trivial)))) H
set_option maxRecDepth 20000 in
theorem t_Sc_measureBeck_33_2 {l : Launch} {h : Nat} (mi : TMi) (ml : TMl) (z : Nat) (v1 : Int32) (v2 : Int32) (v3 : Int32) {Q : TMi → TMl → Nat → Prop} (H : (((mi 18 1) ≤ v3 → Q mi ml z) ∧ (¬ (mi 18 1) ≤ v3 → CI l h m_Sc_giftsOf [.ref 33, .int v1, .int v3] mi ml z (fun x2 mi2 ml2 z2 => CV l h m_Sc_measure [.ref 33, .int v1, .int v3, .int v2, .int x2] mi2 ml2 z2 (fun mi3 ml3 z3 => Ev l (h + 1) m_Sc_measureBeck 2 ([.ref 33, .int v1, .int v2, .int (v3 + 1)], [], st mi3 ml3 z3) (qV Q)))))) : Ev l (h + 1) m_Sc_measureBeck 2 ([.ref 33, .int v1, .int v2, .int v3], [], st mi ml z) (qV Q) := by
  refine ev_iload_n (i := 3) rfl rfl (a_dec_at dc_Sc_measureBeck 2 rfl) ?_
  refine ev_aload_n (i := 0) rfl rfl (a_dec_at dc_Sc_measureBeck 3 rfl) ?_
  refine m_getR (y := 18) fl_Sc_30 rfl sh33 (mr_33_0 _) (by decide) (a_dec_at dc_Sc_measureBeck 4 rfl) ?_
  refine m_getI fl_Sc_65 rfl sh18 (a_dec_at dc_Sc_measureBeck 5 rfl) ?_
  refine ev_icmp_ge (tgt := 32) (a_dec_at dc_Sc_measureBeck 6 rfl) (by decide) (fun b1 => ?_) (fun b1 => ?_)
  · have H := H.1 b1
    exact m_retV (a_dec_at dc_Sc_measureBeck 18 rfl) rfl H
  · have H := H.2 b1
    refine ev_aload_n (i := 0) rfl rfl (a_dec_at dc_Sc_measureBeck 7 rfl) ?_
    refine ev_iload_n (i := 1) rfl rfl (a_dec_at dc_Sc_measureBeck 8 rfl) ?_
    refine ev_iload_n (i := 3) rfl rfl (a_dec_at dc_Sc_measureBeck 9 rfl) ?_
    refine ev_iload_n (i := 2) rfl rfl (a_dec_at dc_Sc_measureBeck 10 rfl) ?_
    refine ev_aload_n (i := 0) rfl rfl (a_dec_at dc_Sc_measureBeck 11 rfl) ?_
    refine ev_iload_n (i := 1) rfl rfl (a_dec_at dc_Sc_measureBeck 12 rfl) ?_
    refine ev_iload_n (i := 3) rfl rfl (a_dec_at dc_Sc_measureBeck 13 rfl) ?_
    refine cV2I cs_Sc_82 sh33 rfl (Nat.le_of_ble_eq_true rfl) (Nat.le_of_ble_eq_true rfl) (a_dec_at dc_Sc_measureBeck 14 rfl) ?_
    refine CI.mono (fun x2 mi2 ml2 z2 H => ?_) H
    refine cV4V cs_Sc_85 sh33 rfl (Nat.le_of_ble_eq_true rfl) (Nat.le_of_ble_eq_true rfl) (a_dec_at dc_Sc_measureBeck 15 rfl) ?_
    refine CV.mono (fun mi3 ml3 z3 H => ?_) H
    refine ev_iinc (v := 1) rfl rfl (by decide) rfl (a_dec_at dc_Sc_measureBeck 16 rfl) ?_
    refine ev_goto (tgt := 2) (a_dec_at dc_Sc_measureBeck 17 rfl) (by decide) ?_
    exact Ev.drop (L' := [.ref 33, .int v1, .int v2, .int (v3 + 1)]) (And.intro rfl (And.intro rfl (And.intro rfl (And.intro rfl trivial)))) H
set_option maxRecDepth 20000 in
theorem t_Sc_giftsOf_33 {l : Launch} {h : Nat} (mi : TMi) (ml : TMl) (z : Nat) (a1 : Int32) (a2 : Int32) {Q : Int32 → TMi → TMl → Nat → Prop} (H : CI l h m_B_pair [.int a1, .int a2] mi ml z (fun x1 mi1 ml1 z1 => (vp_in (16 + x1) 40) ∧ Q (mi1 34 ((16 + x1).toNatClampNeg)) mi1 ml1 z1)) : CI l (h + 1) m_Sc_giftsOf [.ref 33, .int a1, .int a2] mi ml z Q := by
  show Ev l (h + 1) m_Sc_giftsOf 0 ([.ref 33, .int a1, .int a2], [], st mi ml z) (qI Q)
  refine ev_aload_n (i := 0) rfl rfl (a_dec_at dc_Sc_giftsOf 0 rfl) ?_
  refine m_getR (y := 34) fl_Sc_11 rfl sh33 (mr_33_2 _) (by decide) (a_dec_at dc_Sc_giftsOf 1 rfl) ?_
  refine ev_bipush (v := 16) rfl (a_dec_at dc_Sc_giftsOf 2 rfl) ?_
  refine ev_iload_n (i := 1) rfl rfl (a_dec_at dc_Sc_giftsOf 3 rfl) ?_
  refine ev_iload_n (i := 2) rfl rfl (a_dec_at dc_Sc_giftsOf 4 rfl) ?_
  refine cN2I cs_Sc_71 rfl (Nat.le_of_ble_eq_true rfl) (Nat.le_of_ble_eq_true rfl) (a_dec_at dc_Sc_giftsOf 5 rfl) ?_
  refine CI.mono (fun x1 mi1 ml1 z1 H => ?_) H
  refine ev_iadd (a_dec_at dc_Sc_giftsOf 6 rfl) ?_
  obtain ⟨c2, H⟩ := H
  refine w_iald (k := (16 + x1).toNatClampNeg) sh34 c2 rfl (a_dec_at dc_Sc_giftsOf 7 rfl) ?_
  exact m_retI (a_dec_at dc_Sc_giftsOf 8 rfl) rfl rfl H
set_option maxRecDepth 20000 in
theorem t_Sc_measure_33 {l : Launch} {h : Nat} (mi : TMi) (ml : TMl) (z : Nat) (a1 : Int32) (a2 : Int32) (a3 : Int32) (a4 : Int32) {Q : TMi → TMl → Nat → Prop} (H : CI l h m_Sc_flowOf [.ref 33, .int a1] mi ml z (fun x1 mi1 ml1 z1 => CV l h m_Lw_setBeck [.ref 14, .int a1, .int x1, .int a3] mi1 ml1 z1 (fun mi2 ml2 z2 => (vp_in a2 4) ∧ CV l h m_Lw_setRiver [.ref 14, .int a2, .int (mi2 24 a2.toNatClampNeg), .int a4] mi2 ml2 z2 (fun mi4 ml4 z4 => CI l h m_Lw_value [.ref 14, .ref 26, .int (mi4 18 12)] mi4 ml4 z4 (fun x5 mi5 ml5 z5 => CI l h m_Lw_value [.ref 14, .ref 26, .int (mi5 18 13)] mi5 ml5 z5 (fun x6 mi6 ml6 z6 => CV l h m_Sc_setLiking [.ref 33, .int a1, .int a2, .int x5, .int x6] mi6 ml6 z6 (fun mi7 ml7 z7 => Q mi7 ml7 z7))))))) : CV l (h + 1) m_Sc_measure [.ref 33, .int a1, .int a2, .int a3, .int a4] mi ml z Q := by
  show Ev l (h + 1) m_Sc_measure 0 ([.ref 33, .int a1, .int a2, .int a3, .int a4], [], st mi ml z) (qV Q)
  refine ev_aload_n (i := 0) rfl rfl (a_dec_at dc_Sc_measure 0 rfl) ?_
  refine m_getR (y := 14) fl_Sc_34 rfl sh33 (mr_33_1 _) (by decide) (a_dec_at dc_Sc_measure 1 rfl) ?_
  refine ev_iload_n (i := 1) rfl rfl (a_dec_at dc_Sc_measure 2 rfl) ?_
  refine ev_aload_n (i := 0) rfl rfl (a_dec_at dc_Sc_measure 3 rfl) ?_
  refine ev_iload_n (i := 1) rfl rfl (a_dec_at dc_Sc_measure 4 rfl) ?_
  refine cV1I cs_Sc_89 sh33 rfl (Nat.le_of_ble_eq_true rfl) (Nat.le_of_ble_eq_true rfl) (a_dec_at dc_Sc_measure 5 rfl) ?_
  refine CI.mono (fun x1 mi1 ml1 z1 H => ?_) H
  refine ev_iload_n (i := 3) rfl rfl (a_dec_at dc_Sc_measure 6 rfl) ?_
  refine cV3V cs_Sc_93 sh14 rfl (Nat.le_of_ble_eq_true rfl) (Nat.le_of_ble_eq_true rfl) (a_dec_at dc_Sc_measure 7 rfl) ?_
  refine CV.mono (fun mi2 ml2 z2 H => ?_) H
  refine ev_aload_n (i := 0) rfl rfl (a_dec_at dc_Sc_measure 8 rfl) ?_
  refine m_getR (y := 14) fl_Sc_34 rfl sh33 (mr_33_1 _) (by decide) (a_dec_at dc_Sc_measure 9 rfl) ?_
  refine ev_iload_n (i := 2) rfl rfl (a_dec_at dc_Sc_measure 10 rfl) ?_
  refine ev_aload_n (i := 0) rfl rfl (a_dec_at dc_Sc_measure 11 rfl) ?_
  refine m_getR (y := 18) fl_Sc_30 rfl sh33 (mr_33_0 _) (by decide) (a_dec_at dc_Sc_measure 12 rfl) ?_
  refine m_getR (y := 24) fl_Sc_99 rfl sh18 (mr_18_8 _) (by decide) (a_dec_at dc_Sc_measure 13 rfl) ?_
  refine ev_iload_n (i := 2) rfl rfl (a_dec_at dc_Sc_measure 14 rfl) ?_
  obtain ⟨c3, H⟩ := H
  refine w_iald (k := a2.toNatClampNeg) sh24 c3 rfl (a_dec_at dc_Sc_measure 15 rfl) ?_
  refine ev_iload rfl (a_dec_at dc_Sc_measure 16 rfl) ?_
  refine cV3V cs_Sc_102 sh14 rfl (Nat.le_of_ble_eq_true rfl) (Nat.le_of_ble_eq_true rfl) (a_dec_at dc_Sc_measure 17 rfl) ?_
  refine CV.mono (fun mi4 ml4 z4 H => ?_) H
  refine ev_aload_n (i := 0) rfl rfl (a_dec_at dc_Sc_measure 18 rfl) ?_
  refine ev_iload_n (i := 1) rfl rfl (a_dec_at dc_Sc_measure 19 rfl) ?_
  refine ev_iload_n (i := 2) rfl rfl (a_dec_at dc_Sc_measure 20 rfl) ?_
  refine ev_aload_n (i := 0) rfl rfl (a_dec_at dc_Sc_measure 21 rfl) ?_
  refine m_getR (y := 14) fl_Sc_34 rfl sh33 (mr_33_1 _) (by decide) (a_dec_at dc_Sc_measure 22 rfl) ?_
  refine ev_aload_n (i := 0) rfl rfl (a_dec_at dc_Sc_measure 23 rfl) ?_
  refine m_getR (y := 18) fl_Sc_30 rfl sh33 (mr_33_0 _) (by decide) (a_dec_at dc_Sc_measure 24 rfl) ?_
  refine m_getR (y := 26) fl_Sc_105 rfl sh18 (mr_18_10 _) (by decide) (a_dec_at dc_Sc_measure 25 rfl) ?_
  refine ev_aload_n (i := 0) rfl rfl (a_dec_at dc_Sc_measure 26 rfl) ?_
  refine m_getR (y := 18) fl_Sc_30 rfl sh33 (mr_33_0 _) (by decide) (a_dec_at dc_Sc_measure 27 rfl) ?_
  refine m_getI fl_Sc_108 rfl sh18 (a_dec_at dc_Sc_measure 28 rfl) ?_
  refine cV2I cs_Sc_111 sh14 rfl (Nat.le_of_ble_eq_true rfl) (Nat.le_of_ble_eq_true rfl) (a_dec_at dc_Sc_measure 29 rfl) ?_
  refine CI.mono (fun x5 mi5 ml5 z5 H => ?_) H
  refine ev_aload_n (i := 0) rfl rfl (a_dec_at dc_Sc_measure 30 rfl) ?_
  refine m_getR (y := 14) fl_Sc_34 rfl sh33 (mr_33_1 _) (by decide) (a_dec_at dc_Sc_measure 31 rfl) ?_
  refine ev_aload_n (i := 0) rfl rfl (a_dec_at dc_Sc_measure 32 rfl) ?_
  refine m_getR (y := 18) fl_Sc_30 rfl sh33 (mr_33_0 _) (by decide) (a_dec_at dc_Sc_measure 33 rfl) ?_
  refine m_getR (y := 26) fl_Sc_105 rfl sh18 (mr_18_10 _) (by decide) (a_dec_at dc_Sc_measure 34 rfl) ?_
  refine ev_aload_n (i := 0) rfl rfl (a_dec_at dc_Sc_measure 35 rfl) ?_
  refine m_getR (y := 18) fl_Sc_30 rfl sh33 (mr_33_0 _) (by decide) (a_dec_at dc_Sc_measure 36 rfl) ?_
  refine m_getI fl_Sc_115 rfl sh18 (a_dec_at dc_Sc_measure 37 rfl) ?_
  refine cV2I cs_Sc_111 sh14 rfl (Nat.le_of_ble_eq_true rfl) (Nat.le_of_ble_eq_true rfl) (a_dec_at dc_Sc_measure 38 rfl) ?_
  refine CI.mono (fun x6 mi6 ml6 z6 H => ?_) H
  refine cV4V cs_Sc_118 sh33 rfl (Nat.le_of_ble_eq_true rfl) (Nat.le_of_ble_eq_true rfl) (a_dec_at dc_Sc_measure 39 rfl) ?_
  refine CV.mono (fun mi7 ml7 z7 H => ?_) H
  exact m_retV (a_dec_at dc_Sc_measure 40 rfl) rfl H
set_option maxRecDepth 20000 in
theorem t_Sc_flowOf_33 {l : Launch} {h : Nat} (mi : TMi) (ml : TMl) (z : Nat) (a1 : Int32) {Q : Int32 → TMi → TMl → Nat → Prop} (H : (vp_in (6 + a1) 40) ∧ Q (mi 34 ((6 + a1).toNatClampNeg)) mi ml z) : CI l (h + 1) m_Sc_flowOf [.ref 33, .int a1] mi ml z Q := by
  show Ev l (h + 1) m_Sc_flowOf 0 ([.ref 33, .int a1], [], st mi ml z) (qI Q)
  refine ev_aload_n (i := 0) rfl rfl (a_dec_at dc_Sc_flowOf 0 rfl) ?_
  refine m_getR (y := 34) fl_Sc_11 rfl sh33 (mr_33_2 _) (by decide) (a_dec_at dc_Sc_flowOf 1 rfl) ?_
  refine ev_bipush (v := 6) rfl (a_dec_at dc_Sc_flowOf 2 rfl) ?_
  refine ev_iload_n (i := 1) rfl rfl (a_dec_at dc_Sc_flowOf 3 rfl) ?_
  refine ev_iadd (a_dec_at dc_Sc_flowOf 4 rfl) ?_
  obtain ⟨c1, H⟩ := H
  refine w_iald (k := (6 + a1).toNatClampNeg) sh34 c1 rfl (a_dec_at dc_Sc_flowOf 5 rfl) ?_
  exact m_retI (a_dec_at dc_Sc_flowOf 6 rfl) rfl rfl H
set_option maxRecDepth 20000 in
theorem t_Sc_setLiking_33 {l : Launch} {h : Nat} (mi : TMi) (ml : TMl) (z : Nat) (a1 : Int32) (a2 : Int32) (a3 : Int32) (a4 : Int32) {Q : TMi → TMl → Nat → Prop} (H : CI l h m_B_pair [.int a1, .int a2] mi ml z (fun x1 mi1 ml1 z1 => (vp_in x1 24) ∧ (vp_in x1 24) ∧ (vp_in x1 24) ∧ (vp_in x1 24) ∧ ((a3 ≤ 0 → (vp_in a1 6) ∧ (vp_in a1 6) ∧ Q (up (up (up (up (up mi1 35 x1.toNatClampNeg a3) 36 x1.toNatClampNeg a4) 37 x1.toNatClampNeg ((a3 * 4) - a2)) 38 x1.toNatClampNeg ((a4 * 6) - a1)) 39 a1.toNatClampNeg (((up (up (up (up mi1 35 x1.toNatClampNeg a3) 36 x1.toNatClampNeg a4) 37 x1.toNatClampNeg ((a3 * 4) - a2)) 38 x1.toNatClampNeg ((a4 * 6) - a1)) 39 a1.toNatClampNeg) &&& (((1 : Int32) <<< (a2 &&& 31)) ^^^ (-1)))) ml1 z1) ∧ (¬ a3 ≤ 0 → ((a4 ≤ 0 → (vp_in a1 6) ∧ (vp_in a1 6) ∧ Q (up (up (up (up (up mi1 35 x1.toNatClampNeg a3) 36 x1.toNatClampNeg a4) 37 x1.toNatClampNeg ((a3 * 4) - a2)) 38 x1.toNatClampNeg ((a4 * 6) - a1)) 39 a1.toNatClampNeg (((up (up (up (up mi1 35 x1.toNatClampNeg a3) 36 x1.toNatClampNeg a4) 37 x1.toNatClampNeg ((a3 * 4) - a2)) 38 x1.toNatClampNeg ((a4 * 6) - a1)) 39 a1.toNatClampNeg) &&& (((1 : Int32) <<< (a2 &&& 31)) ^^^ (-1)))) ml1 z1) ∧ (¬ a4 ≤ 0 → (vp_in a1 6) ∧ (vp_in a1 6) ∧ Q (up (up (up (up (up mi1 35 x1.toNatClampNeg a3) 36 x1.toNatClampNeg a4) 37 x1.toNatClampNeg ((a3 * 4) - a2)) 38 x1.toNatClampNeg ((a4 * 6) - a1)) 39 a1.toNatClampNeg (((up (up (up (up mi1 35 x1.toNatClampNeg a3) 36 x1.toNatClampNeg a4) 37 x1.toNatClampNeg ((a3 * 4) - a2)) 38 x1.toNatClampNeg ((a4 * 6) - a1)) 39 a1.toNatClampNeg) ||| ((1 : Int32) <<< (a2 &&& 31)))) ml1 z1)))))) : CV l (h + 1) m_Sc_setLiking [.ref 33, .int a1, .int a2, .int a3, .int a4] mi ml z Q := by
  show Ev l (h + 1) m_Sc_setLiking 0 ([.ref 33, .int a1, .int a2, .int a3, .int a4, .retAddr 0], [], st mi ml z) (qV Q)
  refine ev_iload_n (i := 1) rfl rfl (a_dec_at dc_Sc_setLiking 0 rfl) ?_
  refine ev_iload_n (i := 2) rfl rfl (a_dec_at dc_Sc_setLiking 1 rfl) ?_
  refine cN2I cs_Sc_71 rfl (Nat.le_of_ble_eq_true rfl) (Nat.le_of_ble_eq_true rfl) (a_dec_at dc_Sc_setLiking 2 rfl) ?_
  refine CI.mono (fun x1 mi1 ml1 z1 H => ?_) H
  refine ev_istore (by decide) rfl (a_dec_at dc_Sc_setLiking 3 rfl) ?_
  refine ev_aload_n (i := 0) rfl rfl (a_dec_at dc_Sc_setLiking 4 rfl) ?_
  refine m_getR (y := 35) fl_Sc_15 rfl sh33 (mr_33_3 _) (by decide) (a_dec_at dc_Sc_setLiking 5 rfl) ?_
  refine ev_iload rfl (a_dec_at dc_Sc_setLiking 6 rfl) ?_
  refine ev_iload_n (i := 3) rfl rfl (a_dec_at dc_Sc_setLiking 7 rfl) ?_
  obtain ⟨c2, H⟩ := H
  refine w_iast (k := x1.toNatClampNeg) sh35 c2 rfl (a_dec_at dc_Sc_setLiking 8 rfl) ?_
  refine ev_aload_n (i := 0) rfl rfl (a_dec_at dc_Sc_setLiking 9 rfl) ?_
  refine m_getR (y := 36) fl_Sc_18 rfl sh33 (mr_33_4 _) (by decide) (a_dec_at dc_Sc_setLiking 10 rfl) ?_
  refine ev_iload rfl (a_dec_at dc_Sc_setLiking 11 rfl) ?_
  refine ev_iload rfl (a_dec_at dc_Sc_setLiking 12 rfl) ?_
  obtain ⟨c3, H⟩ := H
  refine w_iast (k := x1.toNatClampNeg) sh36 c3 rfl (a_dec_at dc_Sc_setLiking 13 rfl) ?_
  refine ev_aload_n (i := 0) rfl rfl (a_dec_at dc_Sc_setLiking 14 rfl) ?_
  refine m_getR (y := 37) fl_Sc_21 rfl sh33 (mr_33_5 _) (by decide) (a_dec_at dc_Sc_setLiking 15 rfl) ?_
  refine ev_iload rfl (a_dec_at dc_Sc_setLiking 16 rfl) ?_
  refine ev_iload_n (i := 3) rfl rfl (a_dec_at dc_Sc_setLiking 17 rfl) ?_
  refine ev_iconst (v := 4) rfl (a_dec_at dc_Sc_setLiking 18 rfl) ?_
  refine ev_imul (a_dec_at dc_Sc_setLiking 19 rfl) ?_
  refine ev_iload_n (i := 2) rfl rfl (a_dec_at dc_Sc_setLiking 20 rfl) ?_
  refine ev_isub (a_dec_at dc_Sc_setLiking 21 rfl) ?_
  obtain ⟨c4, H⟩ := H
  refine w_iast (k := x1.toNatClampNeg) sh37 c4 rfl (a_dec_at dc_Sc_setLiking 22 rfl) ?_
  refine ev_aload_n (i := 0) rfl rfl (a_dec_at dc_Sc_setLiking 23 rfl) ?_
  refine m_getR (y := 38) fl_Sc_24 rfl sh33 (mr_33_6 _) (by decide) (a_dec_at dc_Sc_setLiking 24 rfl) ?_
  refine ev_iload rfl (a_dec_at dc_Sc_setLiking 25 rfl) ?_
  refine ev_iload rfl (a_dec_at dc_Sc_setLiking 26 rfl) ?_
  refine ev_bipush (v := 6) rfl (a_dec_at dc_Sc_setLiking 27 rfl) ?_
  refine ev_imul (a_dec_at dc_Sc_setLiking 28 rfl) ?_
  refine ev_iload_n (i := 1) rfl rfl (a_dec_at dc_Sc_setLiking 29 rfl) ?_
  refine ev_isub (a_dec_at dc_Sc_setLiking 30 rfl) ?_
  obtain ⟨c5, H⟩ := H
  refine w_iast (k := x1.toNatClampNeg) sh38 c5 rfl (a_dec_at dc_Sc_setLiking 31 rfl) ?_
  refine ev_iload_n (i := 3) rfl rfl (a_dec_at dc_Sc_setLiking 32 rfl) ?_
  refine ev_if_le (tgt := 74) (a_dec_at dc_Sc_setLiking 33 rfl) (by decide) (fun b6 => ?_) (fun b6 => ?_)
  · have H := H.1 b6
    refine ev_aload_n (i := 0) rfl rfl (a_dec_at dc_Sc_setLiking 47 rfl) ?_
    refine m_getR (y := 39) fl_Sc_27 rfl sh33 (mr_33_7 _) (by decide) (a_dec_at dc_Sc_setLiking 48 rfl) ?_
    refine ev_iload_n (i := 1) rfl rfl (a_dec_at dc_Sc_setLiking 49 rfl) ?_
    refine ev_dup2 rfl rfl (a_dec_at dc_Sc_setLiking 50 rfl) ?_
    obtain ⟨c7, H⟩ := H
    refine w_iald (k := a1.toNatClampNeg) sh39 c7 rfl (a_dec_at dc_Sc_setLiking 51 rfl) ?_
    refine ev_iconst (v := 1) rfl (a_dec_at dc_Sc_setLiking 52 rfl) ?_
    refine ev_iload_n (i := 2) rfl rfl (a_dec_at dc_Sc_setLiking 53 rfl) ?_
    refine ev_ishl (a_dec_at dc_Sc_setLiking 54 rfl) ?_
    refine ev_iconst (v := (-1)) rfl (a_dec_at dc_Sc_setLiking 55 rfl) ?_
    refine ev_ixor (a_dec_at dc_Sc_setLiking 56 rfl) ?_
    refine ev_iand (a_dec_at dc_Sc_setLiking 57 rfl) ?_
    obtain ⟨c8, H⟩ := H
    refine w_iast (k := a1.toNatClampNeg) sh39 c8 rfl (a_dec_at dc_Sc_setLiking 58 rfl) ?_
    exact m_retV (a_dec_at dc_Sc_setLiking 59 rfl) rfl H
  · have H := H.2 b6
    refine ev_iload rfl (a_dec_at dc_Sc_setLiking 34 rfl) ?_
    refine ev_if_le (tgt := 74) (a_dec_at dc_Sc_setLiking 35 rfl) (by decide) (fun b9 => ?_) (fun b9 => ?_)
    · have H := H.1 b9
      refine ev_aload_n (i := 0) rfl rfl (a_dec_at dc_Sc_setLiking 47 rfl) ?_
      refine m_getR (y := 39) fl_Sc_27 rfl sh33 (mr_33_7 _) (by decide) (a_dec_at dc_Sc_setLiking 48 rfl) ?_
      refine ev_iload_n (i := 1) rfl rfl (a_dec_at dc_Sc_setLiking 49 rfl) ?_
      refine ev_dup2 rfl rfl (a_dec_at dc_Sc_setLiking 50 rfl) ?_
      obtain ⟨c10, H⟩ := H
      refine w_iald (k := a1.toNatClampNeg) sh39 c10 rfl (a_dec_at dc_Sc_setLiking 51 rfl) ?_
      refine ev_iconst (v := 1) rfl (a_dec_at dc_Sc_setLiking 52 rfl) ?_
      refine ev_iload_n (i := 2) rfl rfl (a_dec_at dc_Sc_setLiking 53 rfl) ?_
      refine ev_ishl (a_dec_at dc_Sc_setLiking 54 rfl) ?_
      refine ev_iconst (v := (-1)) rfl (a_dec_at dc_Sc_setLiking 55 rfl) ?_
      refine ev_ixor (a_dec_at dc_Sc_setLiking 56 rfl) ?_
      refine ev_iand (a_dec_at dc_Sc_setLiking 57 rfl) ?_
      obtain ⟨c11, H⟩ := H
      refine w_iast (k := a1.toNatClampNeg) sh39 c11 rfl (a_dec_at dc_Sc_setLiking 58 rfl) ?_
      exact m_retV (a_dec_at dc_Sc_setLiking 59 rfl) rfl H
    · have H := H.2 b9
      refine ev_aload_n (i := 0) rfl rfl (a_dec_at dc_Sc_setLiking 36 rfl) ?_
      refine m_getR (y := 39) fl_Sc_27 rfl sh33 (mr_33_7 _) (by decide) (a_dec_at dc_Sc_setLiking 37 rfl) ?_
      refine ev_iload_n (i := 1) rfl rfl (a_dec_at dc_Sc_setLiking 38 rfl) ?_
      refine ev_dup2 rfl rfl (a_dec_at dc_Sc_setLiking 39 rfl) ?_
      obtain ⟨c12, H⟩ := H
      refine w_iald (k := a1.toNatClampNeg) sh39 c12 rfl (a_dec_at dc_Sc_setLiking 40 rfl) ?_
      refine ev_iconst (v := 1) rfl (a_dec_at dc_Sc_setLiking 41 rfl) ?_
      refine ev_iload_n (i := 2) rfl rfl (a_dec_at dc_Sc_setLiking 42 rfl) ?_
      refine ev_ishl (a_dec_at dc_Sc_setLiking 43 rfl) ?_
      refine ev_ior (a_dec_at dc_Sc_setLiking 44 rfl) ?_
      obtain ⟨c13, H⟩ := H
      refine w_iast (k := a1.toNatClampNeg) sh39 c13 rfl (a_dec_at dc_Sc_setLiking 45 rfl) ?_
      refine ev_goto (tgt := 88) (a_dec_at dc_Sc_setLiking 46 rfl) (by decide) ?_
      exact m_retV (a_dec_at dc_Sc_setLiking 59 rfl) rfl H
set_option maxRecDepth 20000 in
theorem t_Sc_whereOf_33 {l : Launch} {h : Nat} (mi : TMi) (ml : TMl) (z : Nat) (a1 : Int32) {Q : Int32 → TMi → TMl → Nat → Prop} (H : (vp_in a1 40) ∧ Q (mi 34 a1.toNatClampNeg) mi ml z) : CI l (h + 1) m_Sc_whereOf [.ref 33, .int a1] mi ml z Q := by
  show Ev l (h + 1) m_Sc_whereOf 0 ([.ref 33, .int a1], [], st mi ml z) (qI Q)
  refine ev_aload_n (i := 0) rfl rfl (a_dec_at dc_Sc_whereOf 0 rfl) ?_
  refine m_getR (y := 34) fl_Sc_11 rfl sh33 (mr_33_2 _) (by decide) (a_dec_at dc_Sc_whereOf 1 rfl) ?_
  refine ev_iload_n (i := 1) rfl rfl (a_dec_at dc_Sc_whereOf 2 rfl) ?_
  obtain ⟨c1, H⟩ := H
  refine w_iald (k := a1.toNatClampNeg) sh34 c1 rfl (a_dec_at dc_Sc_whereOf 3 rfl) ?_
  exact m_retI (a_dec_at dc_Sc_whereOf 4 rfl) rfl rfl H
set_option maxRecDepth 20000 in
theorem t_Sc_roomOf_33 {l : Launch} {h : Nat} (mi : TMi) (ml : TMl) (z : Nat) (a1 : Int32) {Q : Int32 → TMi → TMl → Nat → Prop} (H : (vp_in (12 + a1) 40) ∧ Q (mi 34 ((12 + a1).toNatClampNeg)) mi ml z) : CI l (h + 1) m_Sc_roomOf [.ref 33, .int a1] mi ml z Q := by
  show Ev l (h + 1) m_Sc_roomOf 0 ([.ref 33, .int a1], [], st mi ml z) (qI Q)
  refine ev_aload_n (i := 0) rfl rfl (a_dec_at dc_Sc_roomOf 0 rfl) ?_
  refine m_getR (y := 34) fl_Sc_11 rfl sh33 (mr_33_2 _) (by decide) (a_dec_at dc_Sc_roomOf 1 rfl) ?_
  refine ev_bipush (v := 12) rfl (a_dec_at dc_Sc_roomOf 2 rfl) ?_
  refine ev_iload_n (i := 1) rfl rfl (a_dec_at dc_Sc_roomOf 3 rfl) ?_
  refine ev_iadd (a_dec_at dc_Sc_roomOf 4 rfl) ?_
  obtain ⟨c1, H⟩ := H
  refine w_iald (k := (12 + a1).toNatClampNeg) sh34 c1 rfl (a_dec_at dc_Sc_roomOf 5 rfl) ?_
  exact m_retI (a_dec_at dc_Sc_roomOf 6 rfl) rfl rfl H
set_option maxRecDepth 20000 in
theorem t_Sc_becksIn_33 {l : Launch} {h : Nat} (mi : TMi) (ml : TMl) (z : Nat) (w1 lw1 : Nat) (a2 : Int32) (hw1 : SH[w1]? = some (.inr (0, lw1))) {Q : Int32 → TMi → TMl → Nat → Prop} (H : Ev l (h + 1) m_Sc_becksIn 5 ([.ref 33, .ref w1, .int a2, .int 0, .int 0], [], st mi ml z) (qI Q)) : CI l (h + 1) m_Sc_becksIn [.ref 33, .ref w1, .int a2] mi ml z Q := by
  show Ev l (h + 1) m_Sc_becksIn 0 ([.ref 33, .ref w1, .int a2, .retAddr 0, .retAddr 0], [], st mi ml z) (qI Q)
  refine ev_iconst (v := 0) rfl (a_dec_at dc_Sc_becksIn 0 rfl) ?_
  refine ev_istore_n (i := 3) rfl (by decide) rfl (a_dec_at dc_Sc_becksIn 1 rfl) ?_
  refine ev_iconst (v := 0) rfl (a_dec_at dc_Sc_becksIn 2 rfl) ?_
  refine ev_istore (by decide) rfl (a_dec_at dc_Sc_becksIn 3 rfl) ?_
  exact Ev.drop (L' := [.ref 33, .ref w1, .int a2, .int 0, .int 0]) (And.intro rfl (And.intro rfl (And.intro rfl (And.intro rfl (And.intro rfl trivial))))) H
set_option maxRecDepth 20000 in
theorem t_Sc_becksIn_33_5 {l : Launch} {h : Nat} (mi : TMi) (ml : TMl) (z : Nat) (w1 lw1 : Nat) (v2 : Int32) (v3 : Int32) (v4 : Int32) (hw1 : SH[w1]? = some (.inr (0, lw1))) {Q : Int32 → TMi → TMl → Nat → Prop} (H : (((mi 18 0) ≤ v4 → Q v3 mi ml z) ∧ (¬ (mi 18 0) ≤ v4 → (vp_in v4 lw1) ∧ ((¬ (mi w1 v4.toNatClampNeg) = v2 → Ev l (h + 1) m_Sc_becksIn 5 ([.ref 33, .ref w1, .int v2, .int v3, .int (v4 + 1)], [], st mi ml z) (qI Q)) ∧ ((mi w1 v4.toNatClampNeg) = v2 → Ev l (h + 1) m_Sc_becksIn 5 ([.ref 33, .ref w1, .int v2, .int (v3 ||| ((1 : Int32) <<< (v4 &&& 31))), .int (v4 + 1)], [], st mi ml z) (qI Q)))))) : Ev l (h + 1) m_Sc_becksIn 5 ([.ref 33, .ref w1, .int v2, .int v3, .int v4], [], st mi ml z) (qI Q) := by
  refine ev_iload rfl (a_dec_at dc_Sc_becksIn 4 rfl) ?_
  refine ev_aload_n (i := 0) rfl rfl (a_dec_at dc_Sc_becksIn 5 rfl) ?_
  refine m_getR (y := 18) fl_Sc_30 rfl sh33 (mr_33_0 _) (by decide) (a_dec_at dc_Sc_becksIn 6 rfl) ?_
  refine m_getI fl_Sc_44 rfl sh18 (a_dec_at dc_Sc_becksIn 7 rfl) ?_
  refine ev_icmp_ge (tgt := 38) (a_dec_at dc_Sc_becksIn 8 rfl) (by decide) (fun b1 => ?_) (fun b1 => ?_)
  · have H := H.1 b1
    refine ev_iload_n (i := 3) rfl rfl (a_dec_at dc_Sc_becksIn 22 rfl) ?_
    exact m_retI (a_dec_at dc_Sc_becksIn 23 rfl) rfl rfl H
  · have H := H.2 b1
    refine ev_aload_n (i := 1) rfl rfl (a_dec_at dc_Sc_becksIn 9 rfl) ?_
    refine ev_iload rfl (a_dec_at dc_Sc_becksIn 10 rfl) ?_
    obtain ⟨c2, H⟩ := H
    refine w_iald (k := v4.toNatClampNeg) hw1 c2 rfl (a_dec_at dc_Sc_becksIn 11 rfl) ?_
    refine ev_iload_n (i := 2) rfl rfl (a_dec_at dc_Sc_becksIn 12 rfl) ?_
    refine ev_icmp_ne (tgt := 32) (a_dec_at dc_Sc_becksIn 13 rfl) (by decide) (fun b3 => ?_) (fun b3 => ?_)
    · have H := H.1 b3
      refine ev_iinc (v := 1) rfl rfl (by decide) rfl (a_dec_at dc_Sc_becksIn 20 rfl) ?_
      refine ev_goto (tgt := 5) (a_dec_at dc_Sc_becksIn 21 rfl) (by decide) ?_
      exact Ev.drop (L' := [.ref 33, .ref w1, .int v2, .int v3, .int (v4 + 1)]) (And.intro rfl (And.intro rfl (And.intro rfl (And.intro rfl (And.intro rfl trivial))))) H
    · have H := H.2 b3
      refine ev_iload_n (i := 3) rfl rfl (a_dec_at dc_Sc_becksIn 14 rfl) ?_
      refine ev_iconst (v := 1) rfl (a_dec_at dc_Sc_becksIn 15 rfl) ?_
      refine ev_iload rfl (a_dec_at dc_Sc_becksIn 16 rfl) ?_
      refine ev_ishl (a_dec_at dc_Sc_becksIn 17 rfl) ?_
      refine ev_ior (a_dec_at dc_Sc_becksIn 18 rfl) ?_
      refine ev_istore_n (i := 3) rfl (by decide) rfl (a_dec_at dc_Sc_becksIn 19 rfl) ?_
      refine ev_iinc (v := 1) rfl rfl (by decide) rfl (a_dec_at dc_Sc_becksIn 20 rfl) ?_
      refine ev_goto (tgt := 5) (a_dec_at dc_Sc_becksIn 21 rfl) (by decide) ?_
      exact Ev.drop (L' := [.ref 33, .ref w1, .int v2, .int (v3 ||| ((1 : Int32) <<< (v4 &&& 31))), .int (v4 + 1)]) (And.intro rfl (And.intro rfl (And.intro rfl (And.intro rfl (And.intro rfl trivial))))) H
set_option maxRecDepth 20000 in
theorem t_Sc_flowOfSet_33 {l : Launch} {h : Nat} (mi : TMi) (ml : TMl) (z : Nat) (a1 : Int32) {Q : Int32 → TMi → TMl → Nat → Prop} (H : Ev l (h + 1) m_Sc_flowOfSet 4 ([.ref 33, .int a1, .int 0, .int 0], [], st mi ml z) (qI Q)) : CI l (h + 1) m_Sc_flowOfSet [.ref 33, .int a1] mi ml z Q := by
  show Ev l (h + 1) m_Sc_flowOfSet 0 ([.ref 33, .int a1, .retAddr 0, .retAddr 0], [], st mi ml z) (qI Q)
  refine ev_iconst (v := 0) rfl (a_dec_at dc_Sc_flowOfSet 0 rfl) ?_
  refine ev_istore_n (i := 2) rfl (by decide) rfl (a_dec_at dc_Sc_flowOfSet 1 rfl) ?_
  refine ev_iconst (v := 0) rfl (a_dec_at dc_Sc_flowOfSet 2 rfl) ?_
  refine ev_istore_n (i := 3) rfl (by decide) rfl (a_dec_at dc_Sc_flowOfSet 3 rfl) ?_
  exact Ev.drop (L' := [.ref 33, .int a1, .int 0, .int 0]) (And.intro rfl (And.intro rfl (And.intro rfl (And.intro rfl trivial)))) H
set_option maxRecDepth 20000 in
theorem t_Sc_flowOfSet_33_4 {l : Launch} {h : Nat} (mi : TMi) (ml : TMl) (z : Nat) (v1 : Int32) (v2 : Int32) (v3 : Int32) {Q : Int32 → TMi → TMl → Nat → Prop} (H : (((mi 18 0) ≤ v3 → Q v2 mi ml z) ∧ (¬ (mi 18 0) ≤ v3 → ((((v1 >>> (v3 &&& 31)) &&& 1) = 0 → Ev l (h + 1) m_Sc_flowOfSet 4 ([.ref 33, .int v1, .int v2, .int (v3 + 1)], [], st mi ml z) (qI Q)) ∧ (¬ ((v1 >>> (v3 &&& 31)) &&& 1) = 0 → CI l h m_Sc_flowOf [.ref 33, .int v3] mi ml z (fun x3 mi3 ml3 z3 => Ev l (h + 1) m_Sc_flowOfSet 4 ([.ref 33, .int v1, .int (v2 + x3), .int (v3 + 1)], [], st mi3 ml3 z3) (qI Q))))))) : Ev l (h + 1) m_Sc_flowOfSet 4 ([.ref 33, .int v1, .int v2, .int v3], [], st mi ml z) (qI Q) := by
  refine ev_iload_n (i := 3) rfl rfl (a_dec_at dc_Sc_flowOfSet 4 rfl) ?_
  refine ev_aload_n (i := 0) rfl rfl (a_dec_at dc_Sc_flowOfSet 5 rfl) ?_
  refine m_getR (y := 18) fl_Sc_30 rfl sh33 (mr_33_0 _) (by decide) (a_dec_at dc_Sc_flowOfSet 6 rfl) ?_
  refine m_getI fl_Sc_44 rfl sh18 (a_dec_at dc_Sc_flowOfSet 7 rfl) ?_
  refine ev_icmp_ge (tgt := 37) (a_dec_at dc_Sc_flowOfSet 8 rfl) (by decide) (fun b1 => ?_) (fun b1 => ?_)
  · have H := H.1 b1
    refine ev_iload_n (i := 2) rfl rfl (a_dec_at dc_Sc_flowOfSet 23 rfl) ?_
    exact m_retI (a_dec_at dc_Sc_flowOfSet 24 rfl) rfl rfl H
  · have H := H.2 b1
    refine ev_iload_n (i := 1) rfl rfl (a_dec_at dc_Sc_flowOfSet 9 rfl) ?_
    refine ev_iload_n (i := 3) rfl rfl (a_dec_at dc_Sc_flowOfSet 10 rfl) ?_
    refine ev_ishr (a_dec_at dc_Sc_flowOfSet 11 rfl) ?_
    refine ev_iconst (v := 1) rfl (a_dec_at dc_Sc_flowOfSet 12 rfl) ?_
    refine ev_iand (a_dec_at dc_Sc_flowOfSet 13 rfl) ?_
    refine ev_if_eq (tgt := 31) (a_dec_at dc_Sc_flowOfSet 14 rfl) (by decide) (fun b2 => ?_) (fun b2 => ?_)
    · have H := H.1 b2
      refine ev_iinc (v := 1) rfl rfl (by decide) rfl (a_dec_at dc_Sc_flowOfSet 21 rfl) ?_
      refine ev_goto (tgt := 4) (a_dec_at dc_Sc_flowOfSet 22 rfl) (by decide) ?_
      exact Ev.drop (L' := [.ref 33, .int v1, .int v2, .int (v3 + 1)]) (And.intro rfl (And.intro rfl (And.intro rfl (And.intro rfl trivial)))) H
    · have H := H.2 b2
      refine ev_iload_n (i := 2) rfl rfl (a_dec_at dc_Sc_flowOfSet 15 rfl) ?_
      refine ev_aload_n (i := 0) rfl rfl (a_dec_at dc_Sc_flowOfSet 16 rfl) ?_
      refine ev_iload_n (i := 3) rfl rfl (a_dec_at dc_Sc_flowOfSet 17 rfl) ?_
      refine cV1I cs_Sc_89 sh33 rfl (Nat.le_of_ble_eq_true rfl) (Nat.le_of_ble_eq_true rfl) (a_dec_at dc_Sc_flowOfSet 18 rfl) ?_
      refine CI.mono (fun x3 mi3 ml3 z3 H => ?_) H
      refine ev_iadd (a_dec_at dc_Sc_flowOfSet 19 rfl) ?_
      refine ev_istore_n (i := 2) rfl (by decide) rfl (a_dec_at dc_Sc_flowOfSet 20 rfl) ?_
      refine ev_iinc (v := 1) rfl rfl (by decide) rfl (a_dec_at dc_Sc_flowOfSet 21 rfl) ?_
      refine ev_goto (tgt := 4) (a_dec_at dc_Sc_flowOfSet 22 rfl) (by decide) ?_
      exact Ev.drop (L' := [.ref 33, .int v1, .int (v2 + x3), .int (v3 + 1)]) (And.intro rfl (And.intro rfl (And.intro rfl (And.intro rfl trivial)))) H
set_option maxRecDepth 20000 in
theorem t_Sc_leastLiked_33 {l : Launch} {h : Nat} (mi : TMi) (ml : TMl) (z : Nat) (a1 : Int32) (a2 : Int32) {Q : Int32 → TMi → TMl → Nat → Prop} (H : Ev l (h + 1) m_Sc_leastLiked 11 ([.ref 33, .retAddr 0, .int a2, .int (-1), .int 0, .int a1, .int 0], [], st mi ml z) (qI Q)) : CI l (h + 1) m_Sc_leastLiked [.ref 33, .int a1, .int a2] mi ml z Q := by
  show Ev l (h + 1) m_Sc_leastLiked 0 ([.ref 33, .int a1, .int a2, .retAddr 0, .retAddr 0, .retAddr 0, .retAddr 0], [], st mi ml z) (qI Q)
  refine ev_iconst (v := (-1)) rfl (a_dec_at dc_Sc_leastLiked 0 rfl) ?_
  refine ev_istore_n (i := 3) rfl (by decide) rfl (a_dec_at dc_Sc_leastLiked 1 rfl) ?_
  refine ev_iconst (v := 0) rfl (a_dec_at dc_Sc_leastLiked 2 rfl) ?_
  refine ev_istore (by decide) rfl (a_dec_at dc_Sc_leastLiked 3 rfl) ?_
  refine ev_iload_n (i := 1) rfl rfl (a_dec_at dc_Sc_leastLiked 4 rfl) ?_
  refine ev_istore (by decide) rfl (a_dec_at dc_Sc_leastLiked 5 rfl) ?_
  refine ev_iconst (v := 0) rfl (a_dec_at dc_Sc_leastLiked 6 rfl) ?_
  refine ev_istore (by decide) rfl (a_dec_at dc_Sc_leastLiked 7 rfl) ?_
  exact Ev.drop (L' := [.ref 33, .retAddr 0, .int a2, .int (-1), .int 0, .int a1, .int 0]) (And.intro rfl (And.intro rfl (And.intro rfl (And.intro rfl (And.intro rfl (And.intro rfl trivial)))))) H
set_option maxRecDepth 20000 in
theorem t_Sc_leastLiked_33_11 {l : Launch} {h : Nat} (mi : TMi) (ml : TMl) (z : Nat) (v2 : Int32) (v3 : Int32) (v4 : Int32) (v5 : Int32) (v6 : Int32) {Q : Int32 → TMi → TMl → Nat → Prop} (H : (((mi 18 0) ≤ v6 → Q v3 mi ml z) ∧ (¬ (mi 18 0) ≤ v6 → ((((v2 >>> (v6 &&& 31)) &&& 1) = 0 → Ev l (h + 1) m_Sc_leastLiked 11 ([.ref 33, .retAddr 0, .int v2, .int v3, .int v4, .int (v5 + 4), .int (v6 + 1)], [], st mi ml z) (qI Q)) ∧ (¬ ((v2 >>> (v6 &&& 31)) &&& 1) = 0 → ((v3 = (-1) → (vp_in v5 24) ∧ Ev l (h + 1) m_Sc_leastLiked 11 ([.ref 33, .retAddr 0, .int v2, .int v6, .int (mi 38 v5.toNatClampNeg), .int (v5 + 4), .int (v6 + 1)], [], st mi ml z) (qI Q)) ∧ (¬ v3 = (-1) → (vp_in v5 24) ∧ ((v4 ≤ (mi 38 v5.toNatClampNeg) → Ev l (h + 1) m_Sc_leastLiked 11 ([.ref 33, .retAddr 0, .int v2, .int v3, .int v4, .int (v5 + 4), .int (v6 + 1)], [], st mi ml z) (qI Q)) ∧ (¬ v4 ≤ (mi 38 v5.toNatClampNeg) → (vp_in v5 24) ∧ Ev l (h + 1) m_Sc_leastLiked 11 ([.ref 33, .retAddr 0, .int v2, .int v6, .int (mi 38 v5.toNatClampNeg), .int (v5 + 4), .int (v6 + 1)], [], st mi ml z) (qI Q)))))))))) : Ev l (h + 1) m_Sc_leastLiked 11 ([.ref 33, .retAddr 0, .int v2, .int v3, .int v4, .int v5, .int v6], [], st mi ml z) (qI Q) := by
  refine ev_iload rfl (a_dec_at dc_Sc_leastLiked 8 rfl) ?_
  refine ev_aload_n (i := 0) rfl rfl (a_dec_at dc_Sc_leastLiked 9 rfl) ?_
  refine m_getR (y := 18) fl_Sc_30 rfl sh33 (mr_33_0 _) (by decide) (a_dec_at dc_Sc_leastLiked 10 rfl) ?_
  refine m_getI fl_Sc_44 rfl sh18 (a_dec_at dc_Sc_leastLiked 11 rfl) ?_
  refine ev_icmp_ge (tgt := 70) (a_dec_at dc_Sc_leastLiked 12 rfl) (by decide) (fun b1 => ?_) (fun b1 => ?_)
  · have H := H.1 b1
    refine ev_iload_n (i := 3) rfl rfl (a_dec_at dc_Sc_leastLiked 38 rfl) ?_
    exact m_retI (a_dec_at dc_Sc_leastLiked 39 rfl) rfl rfl H
  · have H := H.2 b1
    refine ev_iload_n (i := 2) rfl rfl (a_dec_at dc_Sc_leastLiked 13 rfl) ?_
    refine ev_iload rfl (a_dec_at dc_Sc_leastLiked 14 rfl) ?_
    refine ev_ishr (a_dec_at dc_Sc_leastLiked 15 rfl) ?_
    refine ev_iconst (v := 1) rfl (a_dec_at dc_Sc_leastLiked 16 rfl) ?_
    refine ev_iand (a_dec_at dc_Sc_leastLiked 17 rfl) ?_
    refine ev_if_eq (tgt := 61) (a_dec_at dc_Sc_leastLiked 18 rfl) (by decide) (fun b2 => ?_) (fun b2 => ?_)
    · have H := H.1 b2
      refine ev_iinc (v := 4) rfl rfl (by decide) rfl (a_dec_at dc_Sc_leastLiked 35 rfl) ?_
      refine ev_iinc (v := 1) rfl rfl (by decide) rfl (a_dec_at dc_Sc_leastLiked 36 rfl) ?_
      refine ev_goto (tgt := 11) (a_dec_at dc_Sc_leastLiked 37 rfl) (by decide) ?_
      exact Ev.drop (L' := [.ref 33, .retAddr 0, .int v2, .int v3, .int v4, .int (v5 + 4), .int (v6 + 1)]) (And.intro rfl (And.intro rfl (And.intro rfl (And.intro rfl (And.intro rfl (And.intro rfl trivial)))))) H
    · have H := H.2 b2
      refine ev_iload_n (i := 3) rfl rfl (a_dec_at dc_Sc_leastLiked 19 rfl) ?_
      refine ev_iconst (v := (-1)) rfl (a_dec_at dc_Sc_leastLiked 20 rfl) ?_
      refine ev_icmp_eq (tgt := 49) (a_dec_at dc_Sc_leastLiked 21 rfl) (by decide) (fun b3 => ?_) (fun b3 => ?_)
      · have H := H.1 b3
        refine ev_iload rfl (a_dec_at dc_Sc_leastLiked 28 rfl) ?_
        refine ev_istore_n (i := 3) rfl (by decide) rfl (a_dec_at dc_Sc_leastLiked 29 rfl) ?_
        refine ev_aload_n (i := 0) rfl rfl (a_dec_at dc_Sc_leastLiked 30 rfl) ?_
        refine m_getR (y := 38) fl_Sc_24 rfl sh33 (mr_33_6 _) (by decide) (a_dec_at dc_Sc_leastLiked 31 rfl) ?_
        refine ev_iload rfl (a_dec_at dc_Sc_leastLiked 32 rfl) ?_
        obtain ⟨c4, H⟩ := H
        refine w_iald (k := v5.toNatClampNeg) sh38 c4 rfl (a_dec_at dc_Sc_leastLiked 33 rfl) ?_
        refine ev_istore (by decide) rfl (a_dec_at dc_Sc_leastLiked 34 rfl) ?_
        refine ev_iinc (v := 4) rfl rfl (by decide) rfl (a_dec_at dc_Sc_leastLiked 35 rfl) ?_
        refine ev_iinc (v := 1) rfl rfl (by decide) rfl (a_dec_at dc_Sc_leastLiked 36 rfl) ?_
        refine ev_goto (tgt := 11) (a_dec_at dc_Sc_leastLiked 37 rfl) (by decide) ?_
        exact Ev.drop (L' := [.ref 33, .retAddr 0, .int v2, .int v6, .int (mi 38 v5.toNatClampNeg), .int (v5 + 4), .int (v6 + 1)]) (And.intro rfl (And.intro rfl (And.intro rfl (And.intro rfl (And.intro rfl (And.intro rfl trivial)))))) H
      · have H := H.2 b3
        refine ev_aload_n (i := 0) rfl rfl (a_dec_at dc_Sc_leastLiked 22 rfl) ?_
        refine m_getR (y := 38) fl_Sc_24 rfl sh33 (mr_33_6 _) (by decide) (a_dec_at dc_Sc_leastLiked 23 rfl) ?_
        refine ev_iload rfl (a_dec_at dc_Sc_leastLiked 24 rfl) ?_
        obtain ⟨c5, H⟩ := H
        refine w_iald (k := v5.toNatClampNeg) sh38 c5 rfl (a_dec_at dc_Sc_leastLiked 25 rfl) ?_
        refine ev_iload rfl (a_dec_at dc_Sc_leastLiked 26 rfl) ?_
        refine ev_icmp_ge (tgt := 61) (a_dec_at dc_Sc_leastLiked 27 rfl) (by decide) (fun b6 => ?_) (fun b6 => ?_)
        · have H := H.1 b6
          refine ev_iinc (v := 4) rfl rfl (by decide) rfl (a_dec_at dc_Sc_leastLiked 35 rfl) ?_
          refine ev_iinc (v := 1) rfl rfl (by decide) rfl (a_dec_at dc_Sc_leastLiked 36 rfl) ?_
          refine ev_goto (tgt := 11) (a_dec_at dc_Sc_leastLiked 37 rfl) (by decide) ?_
          exact Ev.drop (L' := [.ref 33, .retAddr 0, .int v2, .int v3, .int v4, .int (v5 + 4), .int (v6 + 1)]) (And.intro rfl (And.intro rfl (And.intro rfl (And.intro rfl (And.intro rfl (And.intro rfl trivial)))))) H
        · have H := H.2 b6
          refine ev_iload rfl (a_dec_at dc_Sc_leastLiked 28 rfl) ?_
          refine ev_istore_n (i := 3) rfl (by decide) rfl (a_dec_at dc_Sc_leastLiked 29 rfl) ?_
          refine ev_aload_n (i := 0) rfl rfl (a_dec_at dc_Sc_leastLiked 30 rfl) ?_
          refine m_getR (y := 38) fl_Sc_24 rfl sh33 (mr_33_6 _) (by decide) (a_dec_at dc_Sc_leastLiked 31 rfl) ?_
          refine ev_iload rfl (a_dec_at dc_Sc_leastLiked 32 rfl) ?_
          obtain ⟨c7, H⟩ := H
          refine w_iald (k := v5.toNatClampNeg) sh38 c7 rfl (a_dec_at dc_Sc_leastLiked 33 rfl) ?_
          refine ev_istore (by decide) rfl (a_dec_at dc_Sc_leastLiked 34 rfl) ?_
          refine ev_iinc (v := 4) rfl rfl (by decide) rfl (a_dec_at dc_Sc_leastLiked 35 rfl) ?_
          refine ev_iinc (v := 1) rfl rfl (by decide) rfl (a_dec_at dc_Sc_leastLiked 36 rfl) ?_
          refine ev_goto (tgt := 11) (a_dec_at dc_Sc_leastLiked 37 rfl) (by decide) ?_
          exact Ev.drop (L' := [.ref 33, .retAddr 0, .int v2, .int v6, .int (mi 38 v5.toNatClampNeg), .int (v5 + 4), .int (v6 + 1)]) (And.intro rfl (And.intro rfl (And.intro rfl (And.intro rfl (And.intro rfl (And.intro rfl trivial)))))) H
set_option maxRecDepth 20000 in
theorem t_Sc_goInto_33 {l : Launch} {h : Nat} (mi : TMi) (ml : TMl) (z : Nat) (a1 : Int32) (a2 : Int32) {Q : Int32 → TMi → TMl → Nat → Prop} (H : CI l h m_La_hasBeck [.ref 18, .int a1] mi ml z (fun x1 mi1 ml1 z1 => ((x1 = 0 → Q (-11) mi1 ml1 z1) ∧ (¬ x1 = 0 → CI l h m_La_hasRiver [.ref 18, .int a2] mi1 ml1 z1 (fun x3 mi3 ml3 z3 => ((¬ x3 = 0 → (vp_in a1 40) ∧ ((¬ (mi3 34 a1.toNatClampNeg) = a2 → CI l h m_Sc_bothWould [.ref 33, .int a1, .int a2] mi3 ml3 z3 (fun x7 mi7 ml7 z7 => ((¬ x7 = 0 → CI l h m_Sc_wouldAdmit [.ref 33, .ref 34, .int a2, .int a1] mi7 ml7 z7 (fun x9 mi9 ml9 z9 => ((¬ x9 = 0 → CI l h m_Sc_becksIn [.ref 33, .ref 34, .int a2] mi9 ml9 z9 (fun x11 mi11 ml11 z11 => CI l h m_JI_bitCount [.int x11] mi11 ml11 z11 (fun x12 mi12 ml12 z12 => CI l h m_Sc_roomOf [.ref 33, .int a2] mi12 ml12 z12 (fun x13 mi13 ml13 z13 => ((x13 ≤ x12 → CI l h m_Sc_leastLiked [.ref 33, .int a2, .int x11] mi13 ml13 z13 (fun x15 mi15 ml15 z15 => ((x15 = (-1) → (vp_in a1 40) ∧ Q x15 (up mi15 34 a1.toNatClampNeg a2) ml15 z15) ∧ (¬ x15 = (-1) → (vp_in x15 40) ∧ (vp_in a1 40) ∧ Q x15 (up (up mi15 34 x15.toNatClampNeg (-1)) 34 a1.toNatClampNeg a2) ml15 z15)))) ∧ (¬ x13 ≤ x12 → (vp_in a1 40) ∧ Q (-1) (up mi13 34 a1.toNatClampNeg a2) ml13 z13)))))) ∧ (x9 = 0 → Q (-14) mi9 ml9 z9)))) ∧ (x7 = 0 → Q (-13) mi7 ml7 z7)))) ∧ ((mi3 34 a1.toNatClampNeg) = a2 → Q (-12) mi3 ml3 z3))) ∧ (x3 = 0 → Q (-11) mi3 ml3 z3))))))) : CI l (h + 1) m_Sc_goInto [.ref 33, .int a1, .int a2] mi ml z Q := by
  show Ev l (h + 1) m_Sc_goInto 0 ([.ref 33, .int a1, .int a2, .retAddr 0, .retAddr 0], [], st mi ml z) (qI Q)
  refine ev_aload_n (i := 0) rfl rfl (a_dec_at dc_Sc_goInto 0 rfl) ?_
  refine m_getR (y := 18) fl_Sc_30 rfl sh33 (mr_33_0 _) (by decide) (a_dec_at dc_Sc_goInto 1 rfl) ?_
  refine ev_iload_n (i := 1) rfl rfl (a_dec_at dc_Sc_goInto 2 rfl) ?_
  refine cV1I cs_Sc_172 sh18 rfl (Nat.le_of_ble_eq_true rfl) (Nat.le_of_ble_eq_true rfl) (a_dec_at dc_Sc_goInto 3 rfl) ?_
  refine CI.mono (fun x1 mi1 ml1 z1 H => ?_) H
  refine ev_if_eq (tgt := 22) (a_dec_at dc_Sc_goInto 4 rfl) (by decide) (fun b2 => ?_) (fun b2 => ?_)
  · have H := H.1 b2
    refine ev_bipush (v := (-11)) rfl (a_dec_at dc_Sc_goInto 10 rfl) ?_
    exact m_retI (a_dec_at dc_Sc_goInto 11 rfl) rfl rfl H
  · have H := H.2 b2
    refine ev_aload_n (i := 0) rfl rfl (a_dec_at dc_Sc_goInto 5 rfl) ?_
    refine m_getR (y := 18) fl_Sc_30 rfl sh33 (mr_33_0 _) (by decide) (a_dec_at dc_Sc_goInto 6 rfl) ?_
    refine ev_iload_n (i := 2) rfl rfl (a_dec_at dc_Sc_goInto 7 rfl) ?_
    refine cV1I cs_Sc_176 sh18 rfl (Nat.le_of_ble_eq_true rfl) (Nat.le_of_ble_eq_true rfl) (a_dec_at dc_Sc_goInto 8 rfl) ?_
    refine CI.mono (fun x3 mi3 ml3 z3 H => ?_) H
    refine ev_if_ne (tgt := 25) (a_dec_at dc_Sc_goInto 9 rfl) (by decide) (fun b4 => ?_) (fun b4 => ?_)
    · have H := H.1 b4
      refine ev_aload_n (i := 0) rfl rfl (a_dec_at dc_Sc_goInto 12 rfl) ?_
      refine m_getR (y := 34) fl_Sc_11 rfl sh33 (mr_33_2 _) (by decide) (a_dec_at dc_Sc_goInto 13 rfl) ?_
      refine ev_iload_n (i := 1) rfl rfl (a_dec_at dc_Sc_goInto 14 rfl) ?_
      obtain ⟨c5, H⟩ := H
      refine w_iald (k := a1.toNatClampNeg) sh34 c5 rfl (a_dec_at dc_Sc_goInto 15 rfl) ?_
      refine ev_iload_n (i := 2) rfl rfl (a_dec_at dc_Sc_goInto 16 rfl) ?_
      refine ev_icmp_ne (tgt := 38) (a_dec_at dc_Sc_goInto 17 rfl) (by decide) (fun b6 => ?_) (fun b6 => ?_)
      · have H := H.1 b6
        refine ev_aload_n (i := 0) rfl rfl (a_dec_at dc_Sc_goInto 20 rfl) ?_
        refine ev_iload_n (i := 1) rfl rfl (a_dec_at dc_Sc_goInto 21 rfl) ?_
        refine ev_iload_n (i := 2) rfl rfl (a_dec_at dc_Sc_goInto 22 rfl) ?_
        refine cV2I cs_Sc_150 sh33 rfl (Nat.le_of_ble_eq_true rfl) (Nat.le_of_ble_eq_true rfl) (a_dec_at dc_Sc_goInto 23 rfl) ?_
        refine CI.mono (fun x7 mi7 ml7 z7 H => ?_) H
        refine ev_if_ne (tgt := 50) (a_dec_at dc_Sc_goInto 24 rfl) (by decide) (fun b8 => ?_) (fun b8 => ?_)
        · have H := H.1 b8
          refine ev_aload_n (i := 0) rfl rfl (a_dec_at dc_Sc_goInto 27 rfl) ?_
          refine ev_aload_n (i := 0) rfl rfl (a_dec_at dc_Sc_goInto 28 rfl) ?_
          refine m_getR (y := 34) fl_Sc_11 rfl sh33 (mr_33_2 _) (by decide) (a_dec_at dc_Sc_goInto 29 rfl) ?_
          refine ev_iload_n (i := 2) rfl rfl (a_dec_at dc_Sc_goInto 30 rfl) ?_
          refine ev_iload_n (i := 1) rfl rfl (a_dec_at dc_Sc_goInto 31 rfl) ?_
          refine cV3I cs_Sc_159 sh33 rfl (Nat.le_of_ble_eq_true rfl) (Nat.le_of_ble_eq_true rfl) (a_dec_at dc_Sc_goInto 32 rfl) ?_
          refine CI.mono (fun x9 mi9 ml9 z9 H => ?_) H
          refine ev_if_ne (tgt := 66) (a_dec_at dc_Sc_goInto 33 rfl) (by decide) (fun b10 => ?_) (fun b10 => ?_)
          · have H := H.1 b10
            refine ev_aload_n (i := 0) rfl rfl (a_dec_at dc_Sc_goInto 36 rfl) ?_
            refine ev_aload_n (i := 0) rfl rfl (a_dec_at dc_Sc_goInto 37 rfl) ?_
            refine m_getR (y := 34) fl_Sc_11 rfl sh33 (mr_33_2 _) (by decide) (a_dec_at dc_Sc_goInto 38 rfl) ?_
            refine ev_iload_n (i := 2) rfl rfl (a_dec_at dc_Sc_goInto 39 rfl) ?_
            refine cV2I cs_Sc_125 sh33 rfl (Nat.le_of_ble_eq_true rfl) (Nat.le_of_ble_eq_true rfl) (a_dec_at dc_Sc_goInto 40 rfl) ?_
            refine CI.mono (fun x11 mi11 ml11 z11 H => ?_) H
            refine ev_istore_n (i := 3) rfl (by decide) rfl (a_dec_at dc_Sc_goInto 41 rfl) ?_
            refine ev_iload_n (i := 3) rfl rfl (a_dec_at dc_Sc_goInto 42 rfl) ?_
            refine cS1I cs_Sc_145 rfl (Nat.le_of_ble_eq_true rfl) (Nat.le_of_ble_eq_true rfl) (a_dec_at dc_Sc_goInto 43 rfl) ?_
            refine CI.mono (fun x12 mi12 ml12 z12 H => ?_) H
            refine ev_aload_n (i := 0) rfl rfl (a_dec_at dc_Sc_goInto 44 rfl) ?_
            refine ev_iload_n (i := 2) rfl rfl (a_dec_at dc_Sc_goInto 45 rfl) ?_
            refine cV1I cs_Sc_163 sh33 rfl (Nat.le_of_ble_eq_true rfl) (Nat.le_of_ble_eq_true rfl) (a_dec_at dc_Sc_goInto 46 rfl) ?_
            refine CI.mono (fun x13 mi13 ml13 z13 H => ?_) H
            refine ev_icmp_ge (tgt := 92) (a_dec_at dc_Sc_goInto 47 rfl) (by decide) (fun b14 => ?_) (fun b14 => ?_)
            · have H := H.1 b14
              refine ev_aload_n (i := 0) rfl rfl (a_dec_at dc_Sc_goInto 50 rfl) ?_
              refine ev_iload_n (i := 2) rfl rfl (a_dec_at dc_Sc_goInto 51 rfl) ?_
              refine ev_iload_n (i := 3) rfl rfl (a_dec_at dc_Sc_goInto 52 rfl) ?_
              refine cV2I cs_Sc_166 sh33 rfl (Nat.le_of_ble_eq_true rfl) (Nat.le_of_ble_eq_true rfl) (a_dec_at dc_Sc_goInto 53 rfl) ?_
              refine CI.mono (fun x15 mi15 ml15 z15 H => ?_) H
              refine ev_istore (by decide) rfl (a_dec_at dc_Sc_goInto 54 rfl) ?_
              refine ev_iload rfl (a_dec_at dc_Sc_goInto 55 rfl) ?_
              refine ev_iconst (v := (-1)) rfl (a_dec_at dc_Sc_goInto 56 rfl) ?_
              refine ev_icmp_eq (tgt := 114) (a_dec_at dc_Sc_goInto 57 rfl) (by decide) (fun b16 => ?_) (fun b16 => ?_)
              · have H := H.1 b16
                refine ev_aload_n (i := 0) rfl rfl (a_dec_at dc_Sc_goInto 63 rfl) ?_
                refine m_getR (y := 34) fl_Sc_11 rfl sh33 (mr_33_2 _) (by decide) (a_dec_at dc_Sc_goInto 64 rfl) ?_
                refine ev_iload_n (i := 1) rfl rfl (a_dec_at dc_Sc_goInto 65 rfl) ?_
                refine ev_iload_n (i := 2) rfl rfl (a_dec_at dc_Sc_goInto 66 rfl) ?_
                obtain ⟨c17, H⟩ := H
                refine w_iast (k := a1.toNatClampNeg) sh34 c17 rfl (a_dec_at dc_Sc_goInto 67 rfl) ?_
                refine ev_iload rfl (a_dec_at dc_Sc_goInto 68 rfl) ?_
                exact m_retI (a_dec_at dc_Sc_goInto 69 rfl) rfl rfl H
              · have H := H.2 b16
                refine ev_aload_n (i := 0) rfl rfl (a_dec_at dc_Sc_goInto 58 rfl) ?_
                refine m_getR (y := 34) fl_Sc_11 rfl sh33 (mr_33_2 _) (by decide) (a_dec_at dc_Sc_goInto 59 rfl) ?_
                refine ev_iload rfl (a_dec_at dc_Sc_goInto 60 rfl) ?_
                refine ev_iconst (v := (-1)) rfl (a_dec_at dc_Sc_goInto 61 rfl) ?_
                obtain ⟨c18, H⟩ := H
                refine w_iast (k := x15.toNatClampNeg) sh34 c18 rfl (a_dec_at dc_Sc_goInto 62 rfl) ?_
                refine ev_aload_n (i := 0) rfl rfl (a_dec_at dc_Sc_goInto 63 rfl) ?_
                refine m_getR (y := 34) fl_Sc_11 rfl sh33 (mr_33_2 _) (by decide) (a_dec_at dc_Sc_goInto 64 rfl) ?_
                refine ev_iload_n (i := 1) rfl rfl (a_dec_at dc_Sc_goInto 65 rfl) ?_
                refine ev_iload_n (i := 2) rfl rfl (a_dec_at dc_Sc_goInto 66 rfl) ?_
                obtain ⟨c19, H⟩ := H
                refine w_iast (k := a1.toNatClampNeg) sh34 c19 rfl (a_dec_at dc_Sc_goInto 67 rfl) ?_
                refine ev_iload rfl (a_dec_at dc_Sc_goInto 68 rfl) ?_
                exact m_retI (a_dec_at dc_Sc_goInto 69 rfl) rfl rfl H
            · have H := H.2 b14
              refine ev_iconst (v := (-1)) rfl (a_dec_at dc_Sc_goInto 48 rfl) ?_
              refine ev_goto (tgt := 98) (a_dec_at dc_Sc_goInto 49 rfl) (by decide) ?_
              refine ev_istore (by decide) rfl (a_dec_at dc_Sc_goInto 54 rfl) ?_
              refine ev_iload rfl (a_dec_at dc_Sc_goInto 55 rfl) ?_
              refine ev_iconst (v := (-1)) rfl (a_dec_at dc_Sc_goInto 56 rfl) ?_
              refine ev_icmp_eq (tgt := 114) (a_dec_at dc_Sc_goInto 57 rfl) (by decide) (fun _ => ?_) (fun q => absurd (by decide) q)
              refine ev_aload_n (i := 0) rfl rfl (a_dec_at dc_Sc_goInto 63 rfl) ?_
              refine m_getR (y := 34) fl_Sc_11 rfl sh33 (mr_33_2 _) (by decide) (a_dec_at dc_Sc_goInto 64 rfl) ?_
              refine ev_iload_n (i := 1) rfl rfl (a_dec_at dc_Sc_goInto 65 rfl) ?_
              refine ev_iload_n (i := 2) rfl rfl (a_dec_at dc_Sc_goInto 66 rfl) ?_
              obtain ⟨c20, H⟩ := H
              refine w_iast (k := a1.toNatClampNeg) sh34 c20 rfl (a_dec_at dc_Sc_goInto 67 rfl) ?_
              refine ev_iload rfl (a_dec_at dc_Sc_goInto 68 rfl) ?_
              exact m_retI (a_dec_at dc_Sc_goInto 69 rfl) rfl rfl H
          · have H := H.2 b10
            refine ev_bipush (v := (-14)) rfl (a_dec_at dc_Sc_goInto 34 rfl) ?_
            exact m_retI (a_dec_at dc_Sc_goInto 35 rfl) rfl rfl H
        · have H := H.2 b8
          refine ev_bipush (v := (-13)) rfl (a_dec_at dc_Sc_goInto 25 rfl) ?_
          exact m_retI (a_dec_at dc_Sc_goInto 26 rfl) rfl rfl H
      · have H := H.2 b6
        refine ev_bipush (v := (-12)) rfl (a_dec_at dc_Sc_goInto 18 rfl) ?_
        exact m_retI (a_dec_at dc_Sc_goInto 19 rfl) rfl rfl H
    · have H := H.2 b4
      refine ev_bipush (v := (-11)) rfl (a_dec_at dc_Sc_goInto 10 rfl) ?_
      exact m_retI (a_dec_at dc_Sc_goInto 11 rfl) rfl rfl H
set_option maxRecDepth 20000 in
theorem t_Sc_bothWould_33 {l : Launch} {h : Nat} (mi : TMi) (ml : TMl) (z : Nat) (a1 : Int32) (a2 : Int32) {Q : Int32 → TMi → TMl → Nat → Prop} (H : (vp_in a1 6) ∧ (((((mi 39 a1.toNatClampNeg) >>> (a2 &&& 31)) &&& 1) = 0 → Q 0 mi ml z) ∧ (¬ (((mi 39 a1.toNatClampNeg) >>> (a2 &&& 31)) &&& 1) = 0 → Q 1 mi ml z))) : CI l (h + 1) m_Sc_bothWould [.ref 33, .int a1, .int a2] mi ml z Q := by
  show Ev l (h + 1) m_Sc_bothWould 0 ([.ref 33, .int a1, .int a2], [], st mi ml z) (qI Q)
  refine ev_aload_n (i := 0) rfl rfl (a_dec_at dc_Sc_bothWould 0 rfl) ?_
  refine m_getR (y := 39) fl_Sc_27 rfl sh33 (mr_33_7 _) (by decide) (a_dec_at dc_Sc_bothWould 1 rfl) ?_
  refine ev_iload_n (i := 1) rfl rfl (a_dec_at dc_Sc_bothWould 2 rfl) ?_
  obtain ⟨c1, H⟩ := H
  refine w_iald (k := a1.toNatClampNeg) sh39 c1 rfl (a_dec_at dc_Sc_bothWould 3 rfl) ?_
  refine ev_iload_n (i := 2) rfl rfl (a_dec_at dc_Sc_bothWould 4 rfl) ?_
  refine ev_ishr (a_dec_at dc_Sc_bothWould 5 rfl) ?_
  refine ev_iconst (v := 1) rfl (a_dec_at dc_Sc_bothWould 6 rfl) ?_
  refine ev_iand (a_dec_at dc_Sc_bothWould 7 rfl) ?_
  refine ev_if_eq (tgt := 17) (a_dec_at dc_Sc_bothWould 8 rfl) (by decide) (fun b2 => ?_) (fun b2 => ?_)
  · have H := H.1 b2
    refine ev_iconst (v := 0) rfl (a_dec_at dc_Sc_bothWould 11 rfl) ?_
    exact m_retI (a_dec_at dc_Sc_bothWould 12 rfl) rfl rfl H
  · have H := H.2 b2
    refine ev_iconst (v := 1) rfl (a_dec_at dc_Sc_bothWould 9 rfl) ?_
    refine ev_goto (tgt := 18) (a_dec_at dc_Sc_bothWould 10 rfl) (by decide) ?_
    exact m_retI (a_dec_at dc_Sc_bothWould 12 rfl) rfl rfl H
set_option maxRecDepth 20000 in
theorem t_Sc_wouldAdmit_33 {l : Launch} {h : Nat} (mi : TMi) (ml : TMl) (z : Nat) (w1 lw1 : Nat) (a2 : Int32) (a3 : Int32) (hw1 : SH[w1]? = some (.inr (0, lw1))) {Q : Int32 → TMi → TMl → Nat → Prop} (H : CI l h m_Sc_becksIn [.ref 33, .ref w1, .int a2] mi ml z (fun x1 mi1 ml1 z1 => CI l h m_JI_bitCount [.int x1] mi1 ml1 z1 (fun x2 mi2 ml2 z2 => CI l h m_Sc_roomOf [.ref 33, .int a2] mi2 ml2 z2 (fun x3 mi3 ml3 z3 => ((x3 ≤ x2 → CI l h m_Sc_leastLiked [.ref 33, .int a2, .int x1] mi3 ml3 z3 (fun x5 mi5 ml5 z5 => ((x5 = (-1) → Q 0 mi5 ml5 z5) ∧ (¬ x5 = (-1) → CI l h m_Sc_takesBetter [.ref 33, .int a2, .int a3, .int x5] mi5 ml5 z5 (fun x7 mi7 ml7 z7 => ((x7 = 0 → Q 0 mi7 ml7 z7) ∧ (¬ x7 = 0 → Q 1 mi7 ml7 z7))))))) ∧ (¬ x3 ≤ x2 → Q 1 mi3 ml3 z3)))))) : CI l (h + 1) m_Sc_wouldAdmit [.ref 33, .ref w1, .int a2, .int a3] mi ml z Q := by
  show Ev l (h + 1) m_Sc_wouldAdmit 0 ([.ref 33, .ref w1, .int a2, .int a3, .retAddr 0, .retAddr 0], [], st mi ml z) (qI Q)
  refine ev_aload_n (i := 0) rfl rfl (a_dec_at dc_Sc_wouldAdmit 0 rfl) ?_
  refine ev_aload_n (i := 1) rfl rfl (a_dec_at dc_Sc_wouldAdmit 1 rfl) ?_
  refine ev_iload_n (i := 2) rfl rfl (a_dec_at dc_Sc_wouldAdmit 2 rfl) ?_
  refine cV2I cs_Sc_125 sh33 rfl (Nat.le_of_ble_eq_true rfl) (Nat.le_of_ble_eq_true rfl) (a_dec_at dc_Sc_wouldAdmit 3 rfl) ?_
  refine CI.mono (fun x1 mi1 ml1 z1 H => ?_) H
  refine ev_istore (by decide) rfl (a_dec_at dc_Sc_wouldAdmit 4 rfl) ?_
  refine ev_iload rfl (a_dec_at dc_Sc_wouldAdmit 5 rfl) ?_
  refine cS1I cs_Sc_145 rfl (Nat.le_of_ble_eq_true rfl) (Nat.le_of_ble_eq_true rfl) (a_dec_at dc_Sc_wouldAdmit 6 rfl) ?_
  refine CI.mono (fun x2 mi2 ml2 z2 H => ?_) H
  refine ev_aload_n (i := 0) rfl rfl (a_dec_at dc_Sc_wouldAdmit 7 rfl) ?_
  refine ev_iload_n (i := 2) rfl rfl (a_dec_at dc_Sc_wouldAdmit 8 rfl) ?_
  refine cV1I cs_Sc_163 sh33 rfl (Nat.le_of_ble_eq_true rfl) (Nat.le_of_ble_eq_true rfl) (a_dec_at dc_Sc_wouldAdmit 9 rfl) ?_
  refine CI.mono (fun x3 mi3 ml3 z3 H => ?_) H
  refine ev_icmp_ge (tgt := 23) (a_dec_at dc_Sc_wouldAdmit 10 rfl) (by decide) (fun b4 => ?_) (fun b4 => ?_)
  · have H := H.1 b4
    refine ev_aload_n (i := 0) rfl rfl (a_dec_at dc_Sc_wouldAdmit 13 rfl) ?_
    refine ev_iload_n (i := 2) rfl rfl (a_dec_at dc_Sc_wouldAdmit 14 rfl) ?_
    refine ev_iload rfl (a_dec_at dc_Sc_wouldAdmit 15 rfl) ?_
    refine cV2I cs_Sc_166 sh33 rfl (Nat.le_of_ble_eq_true rfl) (Nat.le_of_ble_eq_true rfl) (a_dec_at dc_Sc_wouldAdmit 16 rfl) ?_
    refine CI.mono (fun x5 mi5 ml5 z5 H => ?_) H
    refine ev_istore (by decide) rfl (a_dec_at dc_Sc_wouldAdmit 17 rfl) ?_
    refine ev_iload rfl (a_dec_at dc_Sc_wouldAdmit 18 rfl) ?_
    refine ev_iconst (v := (-1)) rfl (a_dec_at dc_Sc_wouldAdmit 19 rfl) ?_
    refine ev_icmp_eq (tgt := 53) (a_dec_at dc_Sc_wouldAdmit 20 rfl) (by decide) (fun b6 => ?_) (fun b6 => ?_)
    · have H := H.1 b6
      refine ev_iconst (v := 0) rfl (a_dec_at dc_Sc_wouldAdmit 29 rfl) ?_
      exact m_retI (a_dec_at dc_Sc_wouldAdmit 30 rfl) rfl rfl H
    · have H := H.2 b6
      refine ev_aload_n (i := 0) rfl rfl (a_dec_at dc_Sc_wouldAdmit 21 rfl) ?_
      refine ev_iload_n (i := 2) rfl rfl (a_dec_at dc_Sc_wouldAdmit 22 rfl) ?_
      refine ev_iload_n (i := 3) rfl rfl (a_dec_at dc_Sc_wouldAdmit 23 rfl) ?_
      refine ev_iload rfl (a_dec_at dc_Sc_wouldAdmit 24 rfl) ?_
      refine cV3I cs_Sc_169 sh33 rfl (Nat.le_of_ble_eq_true rfl) (Nat.le_of_ble_eq_true rfl) (a_dec_at dc_Sc_wouldAdmit 25 rfl) ?_
      refine CI.mono (fun x7 mi7 ml7 z7 H => ?_) H
      refine ev_if_eq (tgt := 53) (a_dec_at dc_Sc_wouldAdmit 26 rfl) (by decide) (fun b8 => ?_) (fun b8 => ?_)
      · have H := H.1 b8
        refine ev_iconst (v := 0) rfl (a_dec_at dc_Sc_wouldAdmit 29 rfl) ?_
        exact m_retI (a_dec_at dc_Sc_wouldAdmit 30 rfl) rfl rfl H
      · have H := H.2 b8
        refine ev_iconst (v := 1) rfl (a_dec_at dc_Sc_wouldAdmit 27 rfl) ?_
        refine ev_goto (tgt := 54) (a_dec_at dc_Sc_wouldAdmit 28 rfl) (by decide) ?_
        exact m_retI (a_dec_at dc_Sc_wouldAdmit 30 rfl) rfl rfl H
  · have H := H.2 b4
    refine ev_iconst (v := 1) rfl (a_dec_at dc_Sc_wouldAdmit 11 rfl) ?_
    exact m_retI (a_dec_at dc_Sc_wouldAdmit 12 rfl) rfl rfl H
set_option maxRecDepth 20000 in
theorem t_Sc_takesBetter_33 {l : Launch} {h : Nat} (mi : TMi) (ml : TMl) (z : Nat) (a1 : Int32) (a2 : Int32) (a3 : Int32) {Q : Int32 → TMi → TMl → Nat → Prop} (H : CI l h m_B_pair [.int a2, .int a1] mi ml z (fun x1 mi1 ml1 z1 => (vp_in x1 24) ∧ CI l h m_B_pair [.int a3, .int a1] mi1 ml1 z1 (fun x3 mi3 ml3 z3 => (vp_in x3 24) ∧ (((mi1 38 x1.toNatClampNeg) ≤ (mi3 38 x3.toNatClampNeg) → Q 0 mi3 ml3 z3) ∧ (¬ (mi1 38 x1.toNatClampNeg) ≤ (mi3 38 x3.toNatClampNeg) → Q 1 mi3 ml3 z3))))) : CI l (h + 1) m_Sc_takesBetter [.ref 33, .int a1, .int a2, .int a3] mi ml z Q := by
  show Ev l (h + 1) m_Sc_takesBetter 0 ([.ref 33, .int a1, .int a2, .int a3], [], st mi ml z) (qI Q)
  refine ev_aload_n (i := 0) rfl rfl (a_dec_at dc_Sc_takesBetter 0 rfl) ?_
  refine m_getR (y := 38) fl_Sc_24 rfl sh33 (mr_33_6 _) (by decide) (a_dec_at dc_Sc_takesBetter 1 rfl) ?_
  refine ev_iload_n (i := 2) rfl rfl (a_dec_at dc_Sc_takesBetter 2 rfl) ?_
  refine ev_iload_n (i := 1) rfl rfl (a_dec_at dc_Sc_takesBetter 3 rfl) ?_
  refine cN2I cs_Sc_71 rfl (Nat.le_of_ble_eq_true rfl) (Nat.le_of_ble_eq_true rfl) (a_dec_at dc_Sc_takesBetter 4 rfl) ?_
  refine CI.mono (fun x1 mi1 ml1 z1 H => ?_) H
  obtain ⟨c2, H⟩ := H
  refine w_iald (k := x1.toNatClampNeg) sh38 c2 rfl (a_dec_at dc_Sc_takesBetter 5 rfl) ?_
  refine ev_aload_n (i := 0) rfl rfl (a_dec_at dc_Sc_takesBetter 6 rfl) ?_
  refine m_getR (y := 38) fl_Sc_24 rfl sh33 (mr_33_6 _) (by decide) (a_dec_at dc_Sc_takesBetter 7 rfl) ?_
  refine ev_iload_n (i := 3) rfl rfl (a_dec_at dc_Sc_takesBetter 8 rfl) ?_
  refine ev_iload_n (i := 1) rfl rfl (a_dec_at dc_Sc_takesBetter 9 rfl) ?_
  refine cN2I cs_Sc_71 rfl (Nat.le_of_ble_eq_true rfl) (Nat.le_of_ble_eq_true rfl) (a_dec_at dc_Sc_takesBetter 10 rfl) ?_
  refine CI.mono (fun x3 mi3 ml3 z3 H => ?_) H
  obtain ⟨c4, H⟩ := H
  refine w_iald (k := x3.toNatClampNeg) sh38 c4 rfl (a_dec_at dc_Sc_takesBetter 11 rfl) ?_
  refine ev_icmp_le (tgt := 27) (a_dec_at dc_Sc_takesBetter 12 rfl) (by decide) (fun b5 => ?_) (fun b5 => ?_)
  · have H := H.1 b5
    refine ev_iconst (v := 0) rfl (a_dec_at dc_Sc_takesBetter 15 rfl) ?_
    exact m_retI (a_dec_at dc_Sc_takesBetter 16 rfl) rfl rfl H
  · have H := H.2 b5
    refine ev_iconst (v := 1) rfl (a_dec_at dc_Sc_takesBetter 13 rfl) ?_
    refine ev_goto (tgt := 28) (a_dec_at dc_Sc_takesBetter 14 rfl) (by decide) ?_
    exact m_retI (a_dec_at dc_Sc_takesBetter 16 rfl) rfl rfl H
set_option maxRecDepth 20000 in
theorem t_Sc_goOut_33 {l : Launch} {h : Nat} (mi : TMi) (ml : TMl) (z : Nat) (a1 : Int32) {Q : Int32 → TMi → TMl → Nat → Prop} (H : CI l h m_La_hasBeck [.ref 18, .int a1] mi ml z (fun x1 mi1 ml1 z1 => ((¬ x1 = 0 → (vp_in a1 40) ∧ ((¬ (mi1 34 a1.toNatClampNeg) = (-1) → (vp_in a1 40) ∧ Q (mi1 34 a1.toNatClampNeg) (up mi1 34 a1.toNatClampNeg (-1)) ml1 z1) ∧ ((mi1 34 a1.toNatClampNeg) = (-1) → Q (-12) mi1 ml1 z1))) ∧ (x1 = 0 → Q (-11) mi1 ml1 z1)))) : CI l (h + 1) m_Sc_goOut [.ref 33, .int a1] mi ml z Q := by
  show Ev l (h + 1) m_Sc_goOut 0 ([.ref 33, .int a1, .retAddr 0], [], st mi ml z) (qI Q)
  refine ev_aload_n (i := 0) rfl rfl (a_dec_at dc_Sc_goOut 0 rfl) ?_
  refine m_getR (y := 18) fl_Sc_30 rfl sh33 (mr_33_0 _) (by decide) (a_dec_at dc_Sc_goOut 1 rfl) ?_
  refine ev_iload_n (i := 1) rfl rfl (a_dec_at dc_Sc_goOut 2 rfl) ?_
  refine cV1I cs_Sc_172 sh18 rfl (Nat.le_of_ble_eq_true rfl) (Nat.le_of_ble_eq_true rfl) (a_dec_at dc_Sc_goOut 3 rfl) ?_
  refine CI.mono (fun x1 mi1 ml1 z1 H => ?_) H
  refine ev_if_ne (tgt := 14) (a_dec_at dc_Sc_goOut 4 rfl) (by decide) (fun b2 => ?_) (fun b2 => ?_)
  · have H := H.1 b2
    refine ev_aload_n (i := 0) rfl rfl (a_dec_at dc_Sc_goOut 7 rfl) ?_
    refine m_getR (y := 34) fl_Sc_11 rfl sh33 (mr_33_2 _) (by decide) (a_dec_at dc_Sc_goOut 8 rfl) ?_
    refine ev_iload_n (i := 1) rfl rfl (a_dec_at dc_Sc_goOut 9 rfl) ?_
    obtain ⟨c3, H⟩ := H
    refine w_iald (k := a1.toNatClampNeg) sh34 c3 rfl (a_dec_at dc_Sc_goOut 10 rfl) ?_
    refine ev_istore_n (i := 2) rfl (by decide) rfl (a_dec_at dc_Sc_goOut 11 rfl) ?_
    refine ev_iload_n (i := 2) rfl rfl (a_dec_at dc_Sc_goOut 12 rfl) ?_
    refine ev_iconst (v := (-1)) rfl (a_dec_at dc_Sc_goOut 13 rfl) ?_
    refine ev_icmp_ne (tgt := 29) (a_dec_at dc_Sc_goOut 14 rfl) (by decide) (fun b4 => ?_) (fun b4 => ?_)
    · have H := H.1 b4
      refine ev_aload_n (i := 0) rfl rfl (a_dec_at dc_Sc_goOut 17 rfl) ?_
      refine m_getR (y := 34) fl_Sc_11 rfl sh33 (mr_33_2 _) (by decide) (a_dec_at dc_Sc_goOut 18 rfl) ?_
      refine ev_iload_n (i := 1) rfl rfl (a_dec_at dc_Sc_goOut 19 rfl) ?_
      refine ev_iconst (v := (-1)) rfl (a_dec_at dc_Sc_goOut 20 rfl) ?_
      obtain ⟨c5, H⟩ := H
      refine w_iast (k := a1.toNatClampNeg) sh34 c5 rfl (a_dec_at dc_Sc_goOut 21 rfl) ?_
      refine ev_iload_n (i := 2) rfl rfl (a_dec_at dc_Sc_goOut 22 rfl) ?_
      exact m_retI (a_dec_at dc_Sc_goOut 23 rfl) rfl rfl H
    · have H := H.2 b4
      refine ev_bipush (v := (-12)) rfl (a_dec_at dc_Sc_goOut 15 rfl) ?_
      exact m_retI (a_dec_at dc_Sc_goOut 16 rfl) rfl rfl H
  · have H := H.2 b2
    refine ev_bipush (v := (-11)) rfl (a_dec_at dc_Sc_goOut 5 rfl) ?_
    exact m_retI (a_dec_at dc_Sc_goOut 6 rfl) rfl rfl H
set_option maxRecDepth 20000 in
theorem t_Sc_give_33 {l : Launch} {h : Nat} (mi : TMi) (ml : TMl) (z : Nat) (a1 : Int32) (a2 : Int32) (a3 : Int32) {Q : Int32 → TMi → TMl → Nat → Prop} (H : CI l h m_La_hasBeck [.ref 18, .int a2] mi ml z (fun x1 mi1 ml1 z1 => ((x1 = 0 → Q (-11) mi1 ml1 z1) ∧ (¬ x1 = 0 → CI l h m_La_hasRiver [.ref 18, .int a1] mi1 ml1 z1 (fun x3 mi3 ml3 z3 => ((x3 = 0 → Q (-11) mi3 ml3 z3) ∧ (¬ x3 = 0 → ((a3 < 1 → Q (-11) mi3 ml3 z3) ∧ (¬ a3 < 1 → ((a3 ≤ 9 → CI l h m_Sc_giftsOf [.ref 33, .int a2, .int a1] mi3 ml3 z3 (fun x7 mi7 ml7 z7 => (((x7 + a3) ≤ 9 → CI l h m_B_pair [.int a2, .int a1] mi7 ml7 z7 (fun x9 mi9 ml9 z9 => (vp_in (16 + x9) 40) ∧ (vp_in a2 6) ∧ CV l h m_Sc_measure [.ref 33, .int a2, .int a1, .int ((up mi9 34 ((16 + x9).toNatClampNeg) (x7 + a3)) 20 a2.toNatClampNeg), .int (x7 + a3)] (up mi9 34 ((16 + x9).toNatClampNeg) (x7 + a3)) ml9 z9 (fun mi12 ml12 z12 => Q (x7 + a3) mi12 ml12 z12))) ∧ (¬ (x7 + a3) ≤ 9 → Q (-12) mi7 ml7 z7)))) ∧ (¬ a3 ≤ 9 → Q (-11) mi3 ml3 z3))))))))))) : CI l (h + 1) m_Sc_give [.ref 33, .int a1, .int a2, .int a3] mi ml z Q := by
  show Ev l (h + 1) m_Sc_give 0 ([.ref 33, .int a1, .int a2, .int a3, .retAddr 0], [], st mi ml z) (qI Q)
  refine ev_aload_n (i := 0) rfl rfl (a_dec_at dc_Sc_give 0 rfl) ?_
  refine m_getR (y := 18) fl_Sc_30 rfl sh33 (mr_33_0 _) (by decide) (a_dec_at dc_Sc_give 1 rfl) ?_
  refine ev_iload_n (i := 2) rfl rfl (a_dec_at dc_Sc_give 2 rfl) ?_
  refine cV1I cs_Sc_172 sh18 rfl (Nat.le_of_ble_eq_true rfl) (Nat.le_of_ble_eq_true rfl) (a_dec_at dc_Sc_give 3 rfl) ?_
  refine CI.mono (fun x1 mi1 ml1 z1 H => ?_) H
  refine ev_if_eq (tgt := 33) (a_dec_at dc_Sc_give 4 rfl) (by decide) (fun b2 => ?_) (fun b2 => ?_)
  · have H := H.1 b2
    refine ev_bipush (v := (-11)) rfl (a_dec_at dc_Sc_give 16 rfl) ?_
    exact m_retI (a_dec_at dc_Sc_give 17 rfl) rfl rfl H
  · have H := H.2 b2
    refine ev_aload_n (i := 0) rfl rfl (a_dec_at dc_Sc_give 5 rfl) ?_
    refine m_getR (y := 18) fl_Sc_30 rfl sh33 (mr_33_0 _) (by decide) (a_dec_at dc_Sc_give 6 rfl) ?_
    refine ev_iload_n (i := 1) rfl rfl (a_dec_at dc_Sc_give 7 rfl) ?_
    refine cV1I cs_Sc_176 sh18 rfl (Nat.le_of_ble_eq_true rfl) (Nat.le_of_ble_eq_true rfl) (a_dec_at dc_Sc_give 8 rfl) ?_
    refine CI.mono (fun x3 mi3 ml3 z3 H => ?_) H
    refine ev_if_eq (tgt := 33) (a_dec_at dc_Sc_give 9 rfl) (by decide) (fun b4 => ?_) (fun b4 => ?_)
    · have H := H.1 b4
      refine ev_bipush (v := (-11)) rfl (a_dec_at dc_Sc_give 16 rfl) ?_
      exact m_retI (a_dec_at dc_Sc_give 17 rfl) rfl rfl H
    · have H := H.2 b4
      refine ev_iload_n (i := 3) rfl rfl (a_dec_at dc_Sc_give 10 rfl) ?_
      refine ev_iconst (v := 1) rfl (a_dec_at dc_Sc_give 11 rfl) ?_
      refine ev_icmp_lt (tgt := 33) (a_dec_at dc_Sc_give 12 rfl) (by decide) (fun b5 => ?_) (fun b5 => ?_)
      · have H := H.1 b5
        refine ev_bipush (v := (-11)) rfl (a_dec_at dc_Sc_give 16 rfl) ?_
        exact m_retI (a_dec_at dc_Sc_give 17 rfl) rfl rfl H
      · have H := H.2 b5
        refine ev_iload_n (i := 3) rfl rfl (a_dec_at dc_Sc_give 13 rfl) ?_
        refine ev_bipush (v := 9) rfl (a_dec_at dc_Sc_give 14 rfl) ?_
        refine ev_icmp_le (tgt := 36) (a_dec_at dc_Sc_give 15 rfl) (by decide) (fun b6 => ?_) (fun b6 => ?_)
        · have H := H.1 b6
          refine ev_aload_n (i := 0) rfl rfl (a_dec_at dc_Sc_give 18 rfl) ?_
          refine ev_iload_n (i := 2) rfl rfl (a_dec_at dc_Sc_give 19 rfl) ?_
          refine ev_iload_n (i := 1) rfl rfl (a_dec_at dc_Sc_give 20 rfl) ?_
          refine cV2I cs_Sc_82 sh33 rfl (Nat.le_of_ble_eq_true rfl) (Nat.le_of_ble_eq_true rfl) (a_dec_at dc_Sc_give 21 rfl) ?_
          refine CI.mono (fun x7 mi7 ml7 z7 H => ?_) H
          refine ev_iload_n (i := 3) rfl rfl (a_dec_at dc_Sc_give 22 rfl) ?_
          refine ev_iadd (a_dec_at dc_Sc_give 23 rfl) ?_
          refine ev_istore (by decide) rfl (a_dec_at dc_Sc_give 24 rfl) ?_
          refine ev_iload rfl (a_dec_at dc_Sc_give 25 rfl) ?_
          refine ev_bipush (v := 9) rfl (a_dec_at dc_Sc_give 26 rfl) ?_
          refine ev_icmp_le (tgt := 56) (a_dec_at dc_Sc_give 27 rfl) (by decide) (fun b8 => ?_) (fun b8 => ?_)
          · have H := H.1 b8
            refine ev_aload_n (i := 0) rfl rfl (a_dec_at dc_Sc_give 30 rfl) ?_
            refine m_getR (y := 34) fl_Sc_11 rfl sh33 (mr_33_2 _) (by decide) (a_dec_at dc_Sc_give 31 rfl) ?_
            refine ev_bipush (v := 16) rfl (a_dec_at dc_Sc_give 32 rfl) ?_
            refine ev_iload_n (i := 2) rfl rfl (a_dec_at dc_Sc_give 33 rfl) ?_
            refine ev_iload_n (i := 1) rfl rfl (a_dec_at dc_Sc_give 34 rfl) ?_
            refine cN2I cs_Sc_71 rfl (Nat.le_of_ble_eq_true rfl) (Nat.le_of_ble_eq_true rfl) (a_dec_at dc_Sc_give 35 rfl) ?_
            refine CI.mono (fun x9 mi9 ml9 z9 H => ?_) H
            refine ev_iadd (a_dec_at dc_Sc_give 36 rfl) ?_
            refine ev_iload rfl (a_dec_at dc_Sc_give 37 rfl) ?_
            obtain ⟨c10, H⟩ := H
            refine w_iast (k := (16 + x9).toNatClampNeg) sh34 c10 rfl (a_dec_at dc_Sc_give 38 rfl) ?_
            refine ev_aload_n (i := 0) rfl rfl (a_dec_at dc_Sc_give 39 rfl) ?_
            refine ev_iload_n (i := 2) rfl rfl (a_dec_at dc_Sc_give 40 rfl) ?_
            refine ev_iload_n (i := 1) rfl rfl (a_dec_at dc_Sc_give 41 rfl) ?_
            refine ev_aload_n (i := 0) rfl rfl (a_dec_at dc_Sc_give 42 rfl) ?_
            refine m_getR (y := 18) fl_Sc_30 rfl sh33 (mr_33_0 _) (by decide) (a_dec_at dc_Sc_give 43 rfl) ?_
            refine m_getR (y := 20) fl_Sc_75 rfl sh18 (mr_18_4 _) (by decide) (a_dec_at dc_Sc_give 44 rfl) ?_
            refine ev_iload_n (i := 2) rfl rfl (a_dec_at dc_Sc_give 45 rfl) ?_
            obtain ⟨c11, H⟩ := H
            refine w_iald (k := a2.toNatClampNeg) sh20 c11 rfl (a_dec_at dc_Sc_give 46 rfl) ?_
            refine ev_iload rfl (a_dec_at dc_Sc_give 47 rfl) ?_
            refine cV4V cs_Sc_85 sh33 rfl (Nat.le_of_ble_eq_true rfl) (Nat.le_of_ble_eq_true rfl) (a_dec_at dc_Sc_give 48 rfl) ?_
            refine CV.mono (fun mi12 ml12 z12 H => ?_) H
            refine ev_iload rfl (a_dec_at dc_Sc_give 49 rfl) ?_
            exact m_retI (a_dec_at dc_Sc_give 50 rfl) rfl rfl H
          · have H := H.2 b8
            refine ev_bipush (v := (-12)) rfl (a_dec_at dc_Sc_give 28 rfl) ?_
            exact m_retI (a_dec_at dc_Sc_give 29 rfl) rfl rfl H
        · have H := H.2 b6
          refine ev_bipush (v := (-11)) rfl (a_dec_at dc_Sc_give 16 rfl) ?_
          exact m_retI (a_dec_at dc_Sc_give 17 rfl) rfl rfl H
set_option maxRecDepth 20000 in
theorem t_Sc_pour_33 {l : Launch} {h : Nat} (mi : TMi) (ml : TMl) (z : Nat) (a1 : Int32) (a2 : Int32) {Q : Int32 → TMi → TMl → Nat → Prop} (H : CI l h m_La_hasBeck [.ref 18, .int a1] mi ml z (fun x1 mi1 ml1 z1 => ((x1 = 0 → Q (-11) mi1 ml1 z1) ∧ (¬ x1 = 0 → ((a2 < 0 → Q (-11) mi1 ml1 z1) ∧ (¬ a2 < 0 → ((a2 ≤ 9 → CI l h m_Sc_flowOf [.ref 33, .int a1] mi1 ml1 z1 (fun x5 mi5 ml5 z5 => (vp_in (6 + a1) 40) ∧ (vp_in a1 6) ∧ CV l h m_Sc_measureBeck [.ref 33, .int a1, .int ((up mi5 34 ((6 + a1).toNatClampNeg) a2) 20 a1.toNatClampNeg)] (up mi5 34 ((6 + a1).toNatClampNeg) a2) ml5 z5 (fun mi8 ml8 z8 => Q x5 mi8 ml8 z8))) ∧ (¬ a2 ≤ 9 → Q (-11) mi1 ml1 z1)))))))) : CI l (h + 1) m_Sc_pour [.ref 33, .int a1, .int a2] mi ml z Q := by
  show Ev l (h + 1) m_Sc_pour 0 ([.ref 33, .int a1, .int a2, .retAddr 0], [], st mi ml z) (qI Q)
  refine ev_aload_n (i := 0) rfl rfl (a_dec_at dc_Sc_pour 0 rfl) ?_
  refine m_getR (y := 18) fl_Sc_30 rfl sh33 (mr_33_0 _) (by decide) (a_dec_at dc_Sc_pour 1 rfl) ?_
  refine ev_iload_n (i := 1) rfl rfl (a_dec_at dc_Sc_pour 2 rfl) ?_
  refine cV1I cs_Sc_172 sh18 rfl (Nat.le_of_ble_eq_true rfl) (Nat.le_of_ble_eq_true rfl) (a_dec_at dc_Sc_pour 3 rfl) ?_
  refine CI.mono (fun x1 mi1 ml1 z1 H => ?_) H
  refine ev_if_eq (tgt := 21) (a_dec_at dc_Sc_pour 4 rfl) (by decide) (fun b2 => ?_) (fun b2 => ?_)
  · have H := H.1 b2
    refine ev_bipush (v := (-11)) rfl (a_dec_at dc_Sc_pour 10 rfl) ?_
    exact m_retI (a_dec_at dc_Sc_pour 11 rfl) rfl rfl H
  · have H := H.2 b2
    refine ev_iload_n (i := 2) rfl rfl (a_dec_at dc_Sc_pour 5 rfl) ?_
    refine ev_if_lt (tgt := 21) (a_dec_at dc_Sc_pour 6 rfl) (by decide) (fun b3 => ?_) (fun b3 => ?_)
    · have H := H.1 b3
      refine ev_bipush (v := (-11)) rfl (a_dec_at dc_Sc_pour 10 rfl) ?_
      exact m_retI (a_dec_at dc_Sc_pour 11 rfl) rfl rfl H
    · have H := H.2 b3
      refine ev_iload_n (i := 2) rfl rfl (a_dec_at dc_Sc_pour 7 rfl) ?_
      refine ev_bipush (v := 9) rfl (a_dec_at dc_Sc_pour 8 rfl) ?_
      refine ev_icmp_le (tgt := 24) (a_dec_at dc_Sc_pour 9 rfl) (by decide) (fun b4 => ?_) (fun b4 => ?_)
      · have H := H.1 b4
        refine ev_aload_n (i := 0) rfl rfl (a_dec_at dc_Sc_pour 12 rfl) ?_
        refine ev_iload_n (i := 1) rfl rfl (a_dec_at dc_Sc_pour 13 rfl) ?_
        refine cV1I cs_Sc_89 sh33 rfl (Nat.le_of_ble_eq_true rfl) (Nat.le_of_ble_eq_true rfl) (a_dec_at dc_Sc_pour 14 rfl) ?_
        refine CI.mono (fun x5 mi5 ml5 z5 H => ?_) H
        refine ev_istore_n (i := 3) rfl (by decide) rfl (a_dec_at dc_Sc_pour 15 rfl) ?_
        refine ev_aload_n (i := 0) rfl rfl (a_dec_at dc_Sc_pour 16 rfl) ?_
        refine m_getR (y := 34) fl_Sc_11 rfl sh33 (mr_33_2 _) (by decide) (a_dec_at dc_Sc_pour 17 rfl) ?_
        refine ev_bipush (v := 6) rfl (a_dec_at dc_Sc_pour 18 rfl) ?_
        refine ev_iload_n (i := 1) rfl rfl (a_dec_at dc_Sc_pour 19 rfl) ?_
        refine ev_iadd (a_dec_at dc_Sc_pour 20 rfl) ?_
        refine ev_iload_n (i := 2) rfl rfl (a_dec_at dc_Sc_pour 21 rfl) ?_
        obtain ⟨c6, H⟩ := H
        refine w_iast (k := (6 + a1).toNatClampNeg) sh34 c6 rfl (a_dec_at dc_Sc_pour 22 rfl) ?_
        refine ev_aload_n (i := 0) rfl rfl (a_dec_at dc_Sc_pour 23 rfl) ?_
        refine ev_iload_n (i := 1) rfl rfl (a_dec_at dc_Sc_pour 24 rfl) ?_
        refine ev_aload_n (i := 0) rfl rfl (a_dec_at dc_Sc_pour 25 rfl) ?_
        refine m_getR (y := 18) fl_Sc_30 rfl sh33 (mr_33_0 _) (by decide) (a_dec_at dc_Sc_pour 26 rfl) ?_
        refine m_getR (y := 20) fl_Sc_75 rfl sh18 (mr_18_4 _) (by decide) (a_dec_at dc_Sc_pour 27 rfl) ?_
        refine ev_iload_n (i := 1) rfl rfl (a_dec_at dc_Sc_pour 28 rfl) ?_
        obtain ⟨c7, H⟩ := H
        refine w_iald (k := a1.toNatClampNeg) sh20 c7 rfl (a_dec_at dc_Sc_pour 29 rfl) ?_
        refine cV2V cs_Sc_78 sh33 rfl (Nat.le_of_ble_eq_true rfl) (Nat.le_of_ble_eq_true rfl) (a_dec_at dc_Sc_pour 30 rfl) ?_
        refine CV.mono (fun mi8 ml8 z8 H => ?_) H
        refine ev_iload_n (i := 3) rfl rfl (a_dec_at dc_Sc_pour 31 rfl) ?_
        exact m_retI (a_dec_at dc_Sc_pour 32 rfl) rfl rfl H
      · have H := H.2 b4
        refine ev_bipush (v := (-11)) rfl (a_dec_at dc_Sc_pour 10 rfl) ?_
        exact m_retI (a_dec_at dc_Sc_pour 11 rfl) rfl rfl H
set_option maxRecDepth 20000 in
theorem t_Sc_widen_33 {l : Launch} {h : Nat} (mi : TMi) (ml : TMl) (z : Nat) (a1 : Int32) (a2 : Int32) {Q : Int32 → TMi → TMl → Nat → Prop} (H : CI l h m_La_hasRiver [.ref 18, .int a1] mi ml z (fun x1 mi1 ml1 z1 => ((x1 = 0 → Q (-11) mi1 ml1 z1) ∧ (¬ x1 = 0 → ((a2 < 0 → Q (-11) mi1 ml1 z1) ∧ (¬ a2 < 0 → ((a2 ≤ 6 → (vp_in (12 + a1) 40) ∧ CI l h m_Sc_becksIn [.ref 33, .ref 34, .int a1] (up mi1 34 ((12 + a1).toNatClampNeg) a2) ml1 z1 (fun x6 mi6 ml6 z6 => Ev l (h + 1) m_Sc_widen 50 ([.ref 33, .int a1, .int a2, .int x6, .int 0, .int 0, .retAddr 0], [], st mi6 ml6 z6) (qI Q))) ∧ (¬ a2 ≤ 6 → Q (-11) mi1 ml1 z1)))))))) : CI l (h + 1) m_Sc_widen [.ref 33, .int a1, .int a2] mi ml z Q := by
  show Ev l (h + 1) m_Sc_widen 0 ([.ref 33, .int a1, .int a2, .retAddr 0, .retAddr 0, .retAddr 0, .retAddr 0], [], st mi ml z) (qI Q)
  refine ev_aload_n (i := 0) rfl rfl (a_dec_at dc_Sc_widen 0 rfl) ?_
  refine m_getR (y := 18) fl_Sc_30 rfl sh33 (mr_33_0 _) (by decide) (a_dec_at dc_Sc_widen 1 rfl) ?_
  refine ev_iload_n (i := 1) rfl rfl (a_dec_at dc_Sc_widen 2 rfl) ?_
  refine cV1I cs_Sc_176 sh18 rfl (Nat.le_of_ble_eq_true rfl) (Nat.le_of_ble_eq_true rfl) (a_dec_at dc_Sc_widen 3 rfl) ?_
  refine CI.mono (fun x1 mi1 ml1 z1 H => ?_) H
  refine ev_if_eq (tgt := 21) (a_dec_at dc_Sc_widen 4 rfl) (by decide) (fun b2 => ?_) (fun b2 => ?_)
  · have H := H.1 b2
    refine ev_bipush (v := (-11)) rfl (a_dec_at dc_Sc_widen 10 rfl) ?_
    exact m_retI (a_dec_at dc_Sc_widen 11 rfl) rfl rfl H
  · have H := H.2 b2
    refine ev_iload_n (i := 2) rfl rfl (a_dec_at dc_Sc_widen 5 rfl) ?_
    refine ev_if_lt (tgt := 21) (a_dec_at dc_Sc_widen 6 rfl) (by decide) (fun b3 => ?_) (fun b3 => ?_)
    · have H := H.1 b3
      refine ev_bipush (v := (-11)) rfl (a_dec_at dc_Sc_widen 10 rfl) ?_
      exact m_retI (a_dec_at dc_Sc_widen 11 rfl) rfl rfl H
    · have H := H.2 b3
      refine ev_iload_n (i := 2) rfl rfl (a_dec_at dc_Sc_widen 7 rfl) ?_
      refine ev_bipush (v := 6) rfl (a_dec_at dc_Sc_widen 8 rfl) ?_
      refine ev_icmp_le (tgt := 24) (a_dec_at dc_Sc_widen 9 rfl) (by decide) (fun b4 => ?_) (fun b4 => ?_)
      · have H := H.1 b4
        refine ev_aload_n (i := 0) rfl rfl (a_dec_at dc_Sc_widen 12 rfl) ?_
        refine m_getR (y := 34) fl_Sc_11 rfl sh33 (mr_33_2 _) (by decide) (a_dec_at dc_Sc_widen 13 rfl) ?_
        refine ev_bipush (v := 12) rfl (a_dec_at dc_Sc_widen 14 rfl) ?_
        refine ev_iload_n (i := 1) rfl rfl (a_dec_at dc_Sc_widen 15 rfl) ?_
        refine ev_iadd (a_dec_at dc_Sc_widen 16 rfl) ?_
        refine ev_iload_n (i := 2) rfl rfl (a_dec_at dc_Sc_widen 17 rfl) ?_
        obtain ⟨c5, H⟩ := H
        refine w_iast (k := (12 + a1).toNatClampNeg) sh34 c5 rfl (a_dec_at dc_Sc_widen 18 rfl) ?_
        refine ev_aload_n (i := 0) rfl rfl (a_dec_at dc_Sc_widen 19 rfl) ?_
        refine ev_aload_n (i := 0) rfl rfl (a_dec_at dc_Sc_widen 20 rfl) ?_
        refine m_getR (y := 34) fl_Sc_11 rfl sh33 (mr_33_2 _) (by decide) (a_dec_at dc_Sc_widen 21 rfl) ?_
        refine ev_iload_n (i := 1) rfl rfl (a_dec_at dc_Sc_widen 22 rfl) ?_
        refine cV2I cs_Sc_125 sh33 rfl (Nat.le_of_ble_eq_true rfl) (Nat.le_of_ble_eq_true rfl) (a_dec_at dc_Sc_widen 23 rfl) ?_
        refine CI.mono (fun x6 mi6 ml6 z6 H => ?_) H
        refine ev_istore_n (i := 3) rfl (by decide) rfl (a_dec_at dc_Sc_widen 24 rfl) ?_
        refine ev_iconst (v := 0) rfl (a_dec_at dc_Sc_widen 25 rfl) ?_
        refine ev_istore (by decide) rfl (a_dec_at dc_Sc_widen 26 rfl) ?_
        refine ev_iconst (v := 0) rfl (a_dec_at dc_Sc_widen 27 rfl) ?_
        refine ev_istore (by decide) rfl (a_dec_at dc_Sc_widen 28 rfl) ?_
        exact Ev.drop (L' := [.ref 33, .int a1, .int a2, .int x6, .int 0, .int 0, .retAddr 0]) (And.intro rfl (And.intro rfl (And.intro rfl (And.intro rfl (And.intro rfl (And.intro rfl trivial)))))) H
      · have H := H.2 b4
        refine ev_bipush (v := (-11)) rfl (a_dec_at dc_Sc_widen 10 rfl) ?_
        exact m_retI (a_dec_at dc_Sc_widen 11 rfl) rfl rfl H
set_option maxRecDepth 20000 in
theorem t_Sc_widen_33_50 {l : Launch} {h : Nat} (mi : TMi) (ml : TMl) (z : Nat) (v1 : Int32) (v2 : Int32) (v3 : Int32) (v4 : Int32) (v5 : Int32) {Q : Int32 → TMi → TMl → Nat → Prop} (H : ((6 ≤ v5 → Q v4 mi ml z) ∧ (¬ 6 ≤ v5 → CI l h m_JI_bitCount [.int v3] mi ml z (fun x2 mi2 ml2 z2 => ((x2 ≤ v2 → Q v4 mi2 ml2 z2) ∧ (¬ x2 ≤ v2 → CI l h m_Sc_leastLiked [.ref 33, .int v1, .int v3] mi2 ml2 z2 (fun x4 mi4 ml4 z4 => ((x4 = (-1) → Ev l (h + 1) m_Sc_widen 50 ([.ref 33, .int v1, .int v2, .int v3, .int v4, .int (v5 + 1), .retAddr 0], [], st mi4 ml4 z4) (qI Q)) ∧ (¬ x4 = (-1) → (vp_in x4 40) ∧ Ev l (h + 1) m_Sc_widen 50 ([.ref 33, .int v1, .int v2, .int (v3 &&& (((1 : Int32) <<< (x4 &&& 31)) ^^^ (-1))), .int (v4 + 1), .int (v5 + 1), .retAddr 0], [], st (up mi4 34 x4.toNatClampNeg (-1)) ml4 z4) (qI Q)))))))))) : Ev l (h + 1) m_Sc_widen 50 ([.ref 33, .int v1, .int v2, .int v3, .int v4, .int v5, .retAddr 0], [], st mi ml z) (qI Q) := by
  refine ev_iload rfl (a_dec_at dc_Sc_widen 29 rfl) ?_
  refine ev_bipush (v := 6) rfl (a_dec_at dc_Sc_widen 30 rfl) ?_
  refine ev_icmp_ge (tgt := 105) (a_dec_at dc_Sc_widen 31 rfl) (by decide) (fun b1 => ?_) (fun b1 => ?_)
  · have H := H.1 b1
    refine ev_iload rfl (a_dec_at dc_Sc_widen 60 rfl) ?_
    exact m_retI (a_dec_at dc_Sc_widen 61 rfl) rfl rfl H
  · have H := H.2 b1
    refine ev_iload_n (i := 3) rfl rfl (a_dec_at dc_Sc_widen 32 rfl) ?_
    refine cS1I cs_Sc_145 rfl (Nat.le_of_ble_eq_true rfl) (Nat.le_of_ble_eq_true rfl) (a_dec_at dc_Sc_widen 33 rfl) ?_
    refine CI.mono (fun x2 mi2 ml2 z2 H => ?_) H
    refine ev_iload_n (i := 2) rfl rfl (a_dec_at dc_Sc_widen 34 rfl) ?_
    refine ev_icmp_le (tgt := 105) (a_dec_at dc_Sc_widen 35 rfl) (by decide) (fun b3 => ?_) (fun b3 => ?_)
    · have H := H.1 b3
      refine ev_iload rfl (a_dec_at dc_Sc_widen 60 rfl) ?_
      exact m_retI (a_dec_at dc_Sc_widen 61 rfl) rfl rfl H
    · have H := H.2 b3
      refine ev_aload_n (i := 0) rfl rfl (a_dec_at dc_Sc_widen 36 rfl) ?_
      refine ev_iload_n (i := 1) rfl rfl (a_dec_at dc_Sc_widen 37 rfl) ?_
      refine ev_iload_n (i := 3) rfl rfl (a_dec_at dc_Sc_widen 38 rfl) ?_
      refine cV2I cs_Sc_166 sh33 rfl (Nat.le_of_ble_eq_true rfl) (Nat.le_of_ble_eq_true rfl) (a_dec_at dc_Sc_widen 39 rfl) ?_
      refine CI.mono (fun x4 mi4 ml4 z4 H => ?_) H
      refine ev_istore (by decide) rfl (a_dec_at dc_Sc_widen 40 rfl) ?_
      refine ev_iload rfl (a_dec_at dc_Sc_widen 41 rfl) ?_
      refine ev_iconst (v := (-1)) rfl (a_dec_at dc_Sc_widen 42 rfl) ?_
      refine ev_icmp_eq (tgt := 99) (a_dec_at dc_Sc_widen 43 rfl) (by decide) (fun b5 => ?_) (fun b5 => ?_)
      · have H := H.1 b5
        refine ev_iinc (v := 1) rfl rfl (by decide) rfl (a_dec_at dc_Sc_widen 58 rfl) ?_
        refine ev_goto (tgt := 50) (a_dec_at dc_Sc_widen 59 rfl) (by decide) ?_
        exact Ev.drop (L' := [.ref 33, .int v1, .int v2, .int v3, .int v4, .int (v5 + 1), .retAddr 0]) (And.intro rfl (And.intro rfl (And.intro rfl (And.intro rfl (And.intro rfl (And.intro rfl trivial)))))) H
      · have H := H.2 b5
        refine ev_aload_n (i := 0) rfl rfl (a_dec_at dc_Sc_widen 44 rfl) ?_
        refine m_getR (y := 34) fl_Sc_11 rfl sh33 (mr_33_2 _) (by decide) (a_dec_at dc_Sc_widen 45 rfl) ?_
        refine ev_iload rfl (a_dec_at dc_Sc_widen 46 rfl) ?_
        refine ev_iconst (v := (-1)) rfl (a_dec_at dc_Sc_widen 47 rfl) ?_
        obtain ⟨c6, H⟩ := H
        refine w_iast (k := x4.toNatClampNeg) sh34 c6 rfl (a_dec_at dc_Sc_widen 48 rfl) ?_
        refine ev_iload_n (i := 3) rfl rfl (a_dec_at dc_Sc_widen 49 rfl) ?_
        refine ev_iconst (v := 1) rfl (a_dec_at dc_Sc_widen 50 rfl) ?_
        refine ev_iload rfl (a_dec_at dc_Sc_widen 51 rfl) ?_
        refine ev_ishl (a_dec_at dc_Sc_widen 52 rfl) ?_
        refine ev_iconst (v := (-1)) rfl (a_dec_at dc_Sc_widen 53 rfl) ?_
        refine ev_ixor (a_dec_at dc_Sc_widen 54 rfl) ?_
        refine ev_iand (a_dec_at dc_Sc_widen 55 rfl) ?_
        refine ev_istore_n (i := 3) rfl (by decide) rfl (a_dec_at dc_Sc_widen 56 rfl) ?_
        refine ev_iinc (v := 1) rfl rfl (by decide) rfl (a_dec_at dc_Sc_widen 57 rfl) ?_
        refine ev_iinc (v := 1) rfl rfl (by decide) rfl (a_dec_at dc_Sc_widen 58 rfl) ?_
        refine ev_goto (tgt := 50) (a_dec_at dc_Sc_widen 59 rfl) (by decide) ?_
        exact Ev.drop (L' := [.ref 33, .int v1, .int v2, .int (v3 &&& (((1 : Int32) <<< (x4 &&& 31)) ^^^ (-1))), .int (v4 + 1), .int (v5 + 1), .retAddr 0]) (And.intro rfl (And.intro rfl (And.intro rfl (And.intro rfl (And.intro rfl (And.intro rfl trivial)))))) H
set_option maxRecDepth 20000 in
theorem t_Sc_whyNot_33 {l : Launch} {h : Nat} (mi : TMi) (ml : TMl) (z : Nat) (a1 : Int64) {Q : Int32 → TMi → TMl → Nat → Prop} (H : (((lg_cmp a1 0) < 0 → Q ((-10 : Int32) - (-11)) mi ml z) ∧ (¬ (lg_cmp a1 0) < 0 → (((lg_cmp a1 499) ≤ 0 → ((0 ≤ a1.toInt32 → (((a1.toInt32 / 100) = 0 → CI l h m_Sc_goInto [.ref 33, .int (a_rem (a1.toInt32 / 10) 10), .int (a_rem a1.toInt32 10)] mi ml z (fun x5 mi5 ml5 z5 => (((-1) ≤ x5 → Q 0 mi5 ml5 z5) ∧ (¬ (-1) ≤ x5 → Q ((-10) - x5) mi5 ml5 z5)))) ∧ (((a1.toInt32 / 100) = 1 → ((¬ (a_rem (a1.toInt32 / 10) 10) = 0 → Q ((-10 : Int32) - (-11)) mi ml z) ∧ ((a_rem (a1.toInt32 / 10) 10) = 0 → CI l h m_Sc_goOut [.ref 33, .int (a_rem a1.toInt32 10)] mi ml z (fun x9 mi9 ml9 z9 => (((-1) ≤ x9 → Q 0 mi9 ml9 z9) ∧ (¬ (-1) ≤ x9 → Q ((-10) - x9) mi9 ml9 z9)))))) ∧ (((a1.toInt32 / 100) = 2 → CI l h m_Sc_give [.ref 33, .int (a_rem (a1.toInt32 / 10) 10), .int (a_rem a1.toInt32 10), .int 1] mi ml z (fun x12 mi12 ml12 z12 => (((-1) ≤ x12 → Q 0 mi12 ml12 z12) ∧ (¬ (-1) ≤ x12 → Q ((-10) - x12) mi12 ml12 z12)))) ∧ (((a1.toInt32 / 100) = 3 → CI l h m_Sc_pour [.ref 33, .int (a_rem (a1.toInt32 / 10) 10), .int (a_rem a1.toInt32 10)] mi ml z (fun x15 mi15 ml15 z15 => (((-1) ≤ x15 → Q 0 mi15 ml15 z15) ∧ (¬ (-1) ≤ x15 → Q ((-10) - x15) mi15 ml15 z15)))) ∧ (((a1.toInt32 / 100) = 4 → CI l h m_Sc_widen [.ref 33, .int (a_rem (a1.toInt32 / 10) 10), .int (a_rem a1.toInt32 10)] mi ml z (fun x18 mi18 ml18 z18 => (((-1) ≤ x18 → Q 0 mi18 ml18 z18) ∧ (¬ (-1) ≤ x18 → Q ((-10) - x18) mi18 ml18 z18)))) ∧ (¬ (a1.toInt32 / 100) = 0 → ¬ (a1.toInt32 / 100) = 1 → ¬ (a1.toInt32 / 100) = 2 → ¬ (a1.toInt32 / 100) = 3 → ¬ (a1.toInt32 / 100) = 4 → Q ((-10 : Int32) - (-11)) mi ml z))))))) ∧ (¬ 0 ≤ a1.toInt32 → Q ((-10 : Int32) - (-11)) mi ml z))) ∧ (¬ (lg_cmp a1 499) ≤ 0 → Q ((-10 : Int32) - (-11)) mi ml z))))) : CI l (h + 1) m_Sc_whyNot [.ref 33, .long a1] mi ml z Q := by
  show Ev l (h + 1) m_Sc_whyNot 0 ([.ref 33, .long a1, .retAddr 0, .retAddr 0, .retAddr 0, .retAddr 0, .retAddr 0], [], st mi ml z) (qI Q)
  refine ev_lload_n (i := 1) rfl rfl (a_dec_at dc_Sc_whyNot 0 rfl) ?_
  refine ev_lconst (v := 0) rfl (a_dec_at dc_Sc_whyNot 1 rfl) ?_
  refine ev_lcmp (a_dec_at dc_Sc_whyNot 2 rfl) ?_
  refine ev_if_lt (tgt := 14) (a_dec_at dc_Sc_whyNot 3 rfl) (by decide) (fun b1 => ?_) (fun b1 => ?_)
  · have H := H.1 b1
    refine ev_iconst (v := (-1)) rfl (a_dec_at dc_Sc_whyNot 8 rfl) ?_
    refine ev_goto (tgt := 20) (a_dec_at dc_Sc_whyNot 9 rfl) (by decide) ?_
    refine ev_istore_n (i := 3) rfl (by decide) rfl (a_dec_at dc_Sc_whyNot 12 rfl) ?_
    refine ev_iload_n (i := 3) rfl rfl (a_dec_at dc_Sc_whyNot 13 rfl) ?_
    refine ev_bipush (v := 10) rfl (a_dec_at dc_Sc_whyNot 14 rfl) ?_
    refine ev_idiv (by decide) (a_dec_at dc_Sc_whyNot 15 rfl) ?_
    refine ev_bipush (v := 10) rfl (a_dec_at dc_Sc_whyNot 16 rfl) ?_
    refine ev_irem (by decide) (a_dec_at dc_Sc_whyNot 17 rfl) ?_
    refine ev_istore (by decide) rfl (a_dec_at dc_Sc_whyNot 18 rfl) ?_
    refine ev_iload_n (i := 3) rfl rfl (a_dec_at dc_Sc_whyNot 19 rfl) ?_
    refine ev_bipush (v := 10) rfl (a_dec_at dc_Sc_whyNot 20 rfl) ?_
    refine ev_irem (by decide) (a_dec_at dc_Sc_whyNot 21 rfl) ?_
    refine ev_istore (by decide) rfl (a_dec_at dc_Sc_whyNot 22 rfl) ?_
    refine ev_bipush (v := (-11)) rfl (a_dec_at dc_Sc_whyNot 23 rfl) ?_
    refine ev_istore (by decide) rfl (a_dec_at dc_Sc_whyNot 24 rfl) ?_
    refine ev_iload_n (i := 3) rfl rfl (a_dec_at dc_Sc_whyNot 25 rfl) ?_
    refine ev_if_ge (tgt := 48) (a_dec_at dc_Sc_whyNot 26 rfl) (by decide) (fun q => absurd q (by decide)) (fun _ => ?_)
    refine ev_iconst (v := (-1)) rfl (a_dec_at dc_Sc_whyNot 27 rfl) ?_
    refine ev_goto (tgt := 52) (a_dec_at dc_Sc_whyNot 28 rfl) (by decide) ?_
    refine w_tableOut (tgt := 162) [0, 1, 2, 3, 4] (a_dec_at dc_Sc_whyNot 32 rfl) (by decide) (by decide) (by decide) ?_
    refine ev_iload rfl (a_dec_at dc_Sc_whyNot 67 rfl) ?_
    refine ev_iconst (v := (-1)) rfl (a_dec_at dc_Sc_whyNot 68 rfl) ?_
    refine ev_icmp_ge (tgt := 176) (a_dec_at dc_Sc_whyNot 69 rfl) (by decide) (fun q => absurd q (by decide)) (fun _ => ?_)
    refine ev_bipush (v := (-10)) rfl (a_dec_at dc_Sc_whyNot 70 rfl) ?_
    refine ev_iload rfl (a_dec_at dc_Sc_whyNot 71 rfl) ?_
    refine ev_isub (a_dec_at dc_Sc_whyNot 72 rfl) ?_
    refine ev_goto (tgt := 177) (a_dec_at dc_Sc_whyNot 73 rfl) (by decide) ?_
    exact m_retI (a_dec_at dc_Sc_whyNot 75 rfl) rfl rfl H
  · have H := H.2 b1
    refine ev_lload_n (i := 1) rfl rfl (a_dec_at dc_Sc_whyNot 4 rfl) ?_
    refine ev_ldc2 kc_Sc_179 (a_dec_at dc_Sc_whyNot 5 rfl) ?_
    refine ev_lcmp (a_dec_at dc_Sc_whyNot 6 rfl) ?_
    refine ev_if_le (tgt := 18) (a_dec_at dc_Sc_whyNot 7 rfl) (by decide) (fun b2 => ?_) (fun b2 => ?_)
    · have H := H.1 b2
      refine ev_lload_n (i := 1) rfl rfl (a_dec_at dc_Sc_whyNot 10 rfl) ?_
      refine ev_l2i (a_dec_at dc_Sc_whyNot 11 rfl) ?_
      refine ev_istore_n (i := 3) rfl (by decide) rfl (a_dec_at dc_Sc_whyNot 12 rfl) ?_
      refine ev_iload_n (i := 3) rfl rfl (a_dec_at dc_Sc_whyNot 13 rfl) ?_
      refine ev_bipush (v := 10) rfl (a_dec_at dc_Sc_whyNot 14 rfl) ?_
      refine ev_idiv (by decide) (a_dec_at dc_Sc_whyNot 15 rfl) ?_
      refine ev_bipush (v := 10) rfl (a_dec_at dc_Sc_whyNot 16 rfl) ?_
      refine ev_irem (by decide) (a_dec_at dc_Sc_whyNot 17 rfl) ?_
      refine ev_istore (by decide) rfl (a_dec_at dc_Sc_whyNot 18 rfl) ?_
      refine ev_iload_n (i := 3) rfl rfl (a_dec_at dc_Sc_whyNot 19 rfl) ?_
      refine ev_bipush (v := 10) rfl (a_dec_at dc_Sc_whyNot 20 rfl) ?_
      refine ev_irem (by decide) (a_dec_at dc_Sc_whyNot 21 rfl) ?_
      refine ev_istore (by decide) rfl (a_dec_at dc_Sc_whyNot 22 rfl) ?_
      refine ev_bipush (v := (-11)) rfl (a_dec_at dc_Sc_whyNot 23 rfl) ?_
      refine ev_istore (by decide) rfl (a_dec_at dc_Sc_whyNot 24 rfl) ?_
      refine ev_iload_n (i := 3) rfl rfl (a_dec_at dc_Sc_whyNot 25 rfl) ?_
      refine ev_if_ge (tgt := 48) (a_dec_at dc_Sc_whyNot 26 rfl) (by decide) (fun b3 => ?_) (fun b3 => ?_)
      · have H := H.1 b3
        refine ev_iload_n (i := 3) rfl rfl (a_dec_at dc_Sc_whyNot 29 rfl) ?_
        refine ev_bipush (v := 100) rfl (a_dec_at dc_Sc_whyNot 30 rfl) ?_
        refine ev_idiv (by decide) (a_dec_at dc_Sc_whyNot 31 rfl) ?_
        by_cases e4 : (a1.toInt32 / 100) = 0
        · have H := H.1 e4
          refine w_tableIn (c := 0) (off := 36) (tgt := 88) (a_dec_at dc_Sc_whyNot 32 rfl) e4 (by decide) (by decide) (by decide) (by decide) ?_
          refine ev_aload_n (i := 0) rfl rfl (a_dec_at dc_Sc_whyNot 33 rfl) ?_
          refine ev_iload rfl (a_dec_at dc_Sc_whyNot 34 rfl) ?_
          refine ev_iload rfl (a_dec_at dc_Sc_whyNot 35 rfl) ?_
          refine cV2I cs_Sc_181 sh33 rfl (Nat.le_of_ble_eq_true rfl) (Nat.le_of_ble_eq_true rfl) (a_dec_at dc_Sc_whyNot 36 rfl) ?_
          refine CI.mono (fun x5 mi5 ml5 z5 H => ?_) H
          refine ev_istore (by decide) rfl (a_dec_at dc_Sc_whyNot 37 rfl) ?_
          refine ev_goto (tgt := 162) (a_dec_at dc_Sc_whyNot 38 rfl) (by decide) ?_
          refine ev_iload rfl (a_dec_at dc_Sc_whyNot 67 rfl) ?_
          refine ev_iconst (v := (-1)) rfl (a_dec_at dc_Sc_whyNot 68 rfl) ?_
          refine ev_icmp_ge (tgt := 176) (a_dec_at dc_Sc_whyNot 69 rfl) (by decide) (fun b6 => ?_) (fun b6 => ?_)
          · have H := H.1 b6
            refine ev_iconst (v := 0) rfl (a_dec_at dc_Sc_whyNot 74 rfl) ?_
            exact m_retI (a_dec_at dc_Sc_whyNot 75 rfl) rfl rfl H
          · have H := H.2 b6
            refine ev_bipush (v := (-10)) rfl (a_dec_at dc_Sc_whyNot 70 rfl) ?_
            refine ev_iload rfl (a_dec_at dc_Sc_whyNot 71 rfl) ?_
            refine ev_isub (a_dec_at dc_Sc_whyNot 72 rfl) ?_
            refine ev_goto (tgt := 177) (a_dec_at dc_Sc_whyNot 73 rfl) (by decide) ?_
            exact m_retI (a_dec_at dc_Sc_whyNot 75 rfl) rfl rfl H
        have H := H.2
        by_cases e7 : (a1.toInt32 / 100) = 1
        · have H := H.1 e7
          refine w_tableIn (c := 1) (off := 49) (tgt := 101) (a_dec_at dc_Sc_whyNot 32 rfl) e7 (by decide) (by decide) (by decide) (by decide) ?_
          refine ev_iload rfl (a_dec_at dc_Sc_whyNot 39 rfl) ?_
          refine ev_if_ne (tgt := 115) (a_dec_at dc_Sc_whyNot 40 rfl) (by decide) (fun b8 => ?_) (fun b8 => ?_)
          · have H := H.1 b8
            refine ev_bipush (v := (-11)) rfl (a_dec_at dc_Sc_whyNot 45 rfl) ?_
            refine ev_istore (by decide) rfl (a_dec_at dc_Sc_whyNot 46 rfl) ?_
            refine ev_goto (tgt := 162) (a_dec_at dc_Sc_whyNot 47 rfl) (by decide) ?_
            refine ev_iload rfl (a_dec_at dc_Sc_whyNot 67 rfl) ?_
            refine ev_iconst (v := (-1)) rfl (a_dec_at dc_Sc_whyNot 68 rfl) ?_
            refine ev_icmp_ge (tgt := 176) (a_dec_at dc_Sc_whyNot 69 rfl) (by decide) (fun q => absurd q (by decide)) (fun _ => ?_)
            refine ev_bipush (v := (-10)) rfl (a_dec_at dc_Sc_whyNot 70 rfl) ?_
            refine ev_iload rfl (a_dec_at dc_Sc_whyNot 71 rfl) ?_
            refine ev_isub (a_dec_at dc_Sc_whyNot 72 rfl) ?_
            refine ev_goto (tgt := 177) (a_dec_at dc_Sc_whyNot 73 rfl) (by decide) ?_
            exact m_retI (a_dec_at dc_Sc_whyNot 75 rfl) rfl rfl H
          · have H := H.2 b8
            refine ev_aload_n (i := 0) rfl rfl (a_dec_at dc_Sc_whyNot 41 rfl) ?_
            refine ev_iload rfl (a_dec_at dc_Sc_whyNot 42 rfl) ?_
            refine cV1I cs_Sc_184 sh33 rfl (Nat.le_of_ble_eq_true rfl) (Nat.le_of_ble_eq_true rfl) (a_dec_at dc_Sc_whyNot 43 rfl) ?_
            refine CI.mono (fun x9 mi9 ml9 z9 H => ?_) H
            refine ev_goto (tgt := 117) (a_dec_at dc_Sc_whyNot 44 rfl) (by decide) ?_
            refine ev_istore (by decide) rfl (a_dec_at dc_Sc_whyNot 46 rfl) ?_
            refine ev_goto (tgt := 162) (a_dec_at dc_Sc_whyNot 47 rfl) (by decide) ?_
            refine ev_iload rfl (a_dec_at dc_Sc_whyNot 67 rfl) ?_
            refine ev_iconst (v := (-1)) rfl (a_dec_at dc_Sc_whyNot 68 rfl) ?_
            refine ev_icmp_ge (tgt := 176) (a_dec_at dc_Sc_whyNot 69 rfl) (by decide) (fun b10 => ?_) (fun b10 => ?_)
            · have H := H.1 b10
              refine ev_iconst (v := 0) rfl (a_dec_at dc_Sc_whyNot 74 rfl) ?_
              exact m_retI (a_dec_at dc_Sc_whyNot 75 rfl) rfl rfl H
            · have H := H.2 b10
              refine ev_bipush (v := (-10)) rfl (a_dec_at dc_Sc_whyNot 70 rfl) ?_
              refine ev_iload rfl (a_dec_at dc_Sc_whyNot 71 rfl) ?_
              refine ev_isub (a_dec_at dc_Sc_whyNot 72 rfl) ?_
              refine ev_goto (tgt := 177) (a_dec_at dc_Sc_whyNot 73 rfl) (by decide) ?_
              exact m_retI (a_dec_at dc_Sc_whyNot 75 rfl) rfl rfl H
        have H := H.2
        by_cases e11 : (a1.toInt32 / 100) = 2
        · have H := H.1 e11
          refine w_tableIn (c := 2) (off := 70) (tgt := 122) (a_dec_at dc_Sc_whyNot 32 rfl) e11 (by decide) (by decide) (by decide) (by decide) ?_
          refine ev_aload_n (i := 0) rfl rfl (a_dec_at dc_Sc_whyNot 48 rfl) ?_
          refine ev_iload rfl (a_dec_at dc_Sc_whyNot 49 rfl) ?_
          refine ev_iload rfl (a_dec_at dc_Sc_whyNot 50 rfl) ?_
          refine ev_iconst (v := 1) rfl (a_dec_at dc_Sc_whyNot 51 rfl) ?_
          refine cV3I cs_Sc_187 sh33 rfl (Nat.le_of_ble_eq_true rfl) (Nat.le_of_ble_eq_true rfl) (a_dec_at dc_Sc_whyNot 52 rfl) ?_
          refine CI.mono (fun x12 mi12 ml12 z12 H => ?_) H
          refine ev_istore (by decide) rfl (a_dec_at dc_Sc_whyNot 53 rfl) ?_
          refine ev_goto (tgt := 162) (a_dec_at dc_Sc_whyNot 54 rfl) (by decide) ?_
          refine ev_iload rfl (a_dec_at dc_Sc_whyNot 67 rfl) ?_
          refine ev_iconst (v := (-1)) rfl (a_dec_at dc_Sc_whyNot 68 rfl) ?_
          refine ev_icmp_ge (tgt := 176) (a_dec_at dc_Sc_whyNot 69 rfl) (by decide) (fun b13 => ?_) (fun b13 => ?_)
          · have H := H.1 b13
            refine ev_iconst (v := 0) rfl (a_dec_at dc_Sc_whyNot 74 rfl) ?_
            exact m_retI (a_dec_at dc_Sc_whyNot 75 rfl) rfl rfl H
          · have H := H.2 b13
            refine ev_bipush (v := (-10)) rfl (a_dec_at dc_Sc_whyNot 70 rfl) ?_
            refine ev_iload rfl (a_dec_at dc_Sc_whyNot 71 rfl) ?_
            refine ev_isub (a_dec_at dc_Sc_whyNot 72 rfl) ?_
            refine ev_goto (tgt := 177) (a_dec_at dc_Sc_whyNot 73 rfl) (by decide) ?_
            exact m_retI (a_dec_at dc_Sc_whyNot 75 rfl) rfl rfl H
        have H := H.2
        by_cases e14 : (a1.toInt32 / 100) = 3
        · have H := H.1 e14
          refine w_tableIn (c := 3) (off := 84) (tgt := 136) (a_dec_at dc_Sc_whyNot 32 rfl) e14 (by decide) (by decide) (by decide) (by decide) ?_
          refine ev_aload_n (i := 0) rfl rfl (a_dec_at dc_Sc_whyNot 55 rfl) ?_
          refine ev_iload rfl (a_dec_at dc_Sc_whyNot 56 rfl) ?_
          refine ev_iload rfl (a_dec_at dc_Sc_whyNot 57 rfl) ?_
          refine cV2I cs_Sc_191 sh33 rfl (Nat.le_of_ble_eq_true rfl) (Nat.le_of_ble_eq_true rfl) (a_dec_at dc_Sc_whyNot 58 rfl) ?_
          refine CI.mono (fun x15 mi15 ml15 z15 H => ?_) H
          refine ev_istore (by decide) rfl (a_dec_at dc_Sc_whyNot 59 rfl) ?_
          refine ev_goto (tgt := 162) (a_dec_at dc_Sc_whyNot 60 rfl) (by decide) ?_
          refine ev_iload rfl (a_dec_at dc_Sc_whyNot 67 rfl) ?_
          refine ev_iconst (v := (-1)) rfl (a_dec_at dc_Sc_whyNot 68 rfl) ?_
          refine ev_icmp_ge (tgt := 176) (a_dec_at dc_Sc_whyNot 69 rfl) (by decide) (fun b16 => ?_) (fun b16 => ?_)
          · have H := H.1 b16
            refine ev_iconst (v := 0) rfl (a_dec_at dc_Sc_whyNot 74 rfl) ?_
            exact m_retI (a_dec_at dc_Sc_whyNot 75 rfl) rfl rfl H
          · have H := H.2 b16
            refine ev_bipush (v := (-10)) rfl (a_dec_at dc_Sc_whyNot 70 rfl) ?_
            refine ev_iload rfl (a_dec_at dc_Sc_whyNot 71 rfl) ?_
            refine ev_isub (a_dec_at dc_Sc_whyNot 72 rfl) ?_
            refine ev_goto (tgt := 177) (a_dec_at dc_Sc_whyNot 73 rfl) (by decide) ?_
            exact m_retI (a_dec_at dc_Sc_whyNot 75 rfl) rfl rfl H
        have H := H.2
        by_cases e17 : (a1.toInt32 / 100) = 4
        · have H := H.1 e17
          refine w_tableIn (c := 4) (off := 97) (tgt := 149) (a_dec_at dc_Sc_whyNot 32 rfl) e17 (by decide) (by decide) (by decide) (by decide) ?_
          refine ev_aload_n (i := 0) rfl rfl (a_dec_at dc_Sc_whyNot 61 rfl) ?_
          refine ev_iload rfl (a_dec_at dc_Sc_whyNot 62 rfl) ?_
          refine ev_iload rfl (a_dec_at dc_Sc_whyNot 63 rfl) ?_
          refine cV2I cs_Sc_194 sh33 rfl (Nat.le_of_ble_eq_true rfl) (Nat.le_of_ble_eq_true rfl) (a_dec_at dc_Sc_whyNot 64 rfl) ?_
          refine CI.mono (fun x18 mi18 ml18 z18 H => ?_) H
          refine ev_istore (by decide) rfl (a_dec_at dc_Sc_whyNot 65 rfl) ?_
          refine ev_goto (tgt := 162) (a_dec_at dc_Sc_whyNot 66 rfl) (by decide) ?_
          refine ev_iload rfl (a_dec_at dc_Sc_whyNot 67 rfl) ?_
          refine ev_iconst (v := (-1)) rfl (a_dec_at dc_Sc_whyNot 68 rfl) ?_
          refine ev_icmp_ge (tgt := 176) (a_dec_at dc_Sc_whyNot 69 rfl) (by decide) (fun b19 => ?_) (fun b19 => ?_)
          · have H := H.1 b19
            refine ev_iconst (v := 0) rfl (a_dec_at dc_Sc_whyNot 74 rfl) ?_
            exact m_retI (a_dec_at dc_Sc_whyNot 75 rfl) rfl rfl H
          · have H := H.2 b19
            refine ev_bipush (v := (-10)) rfl (a_dec_at dc_Sc_whyNot 70 rfl) ?_
            refine ev_iload rfl (a_dec_at dc_Sc_whyNot 71 rfl) ?_
            refine ev_isub (a_dec_at dc_Sc_whyNot 72 rfl) ?_
            refine ev_goto (tgt := 177) (a_dec_at dc_Sc_whyNot 73 rfl) (by decide) ?_
            exact m_retI (a_dec_at dc_Sc_whyNot 75 rfl) rfl rfl H
        have H := H.2
        refine w_tableOut (tgt := 162) [0, 1, 2, 3, 4] (a_dec_at dc_Sc_whyNot 32 rfl) (by decide) (by intro c hc; simp only [List.mem_cons, List.not_mem_nil, or_false] at hc; rcases hc with rfl | rfl | rfl | rfl | rfl <;> assumption) (by decide) ?_
        have H := H e4 e7 e11 e14 e17
        refine ev_iload rfl (a_dec_at dc_Sc_whyNot 67 rfl) ?_
        refine ev_iconst (v := (-1)) rfl (a_dec_at dc_Sc_whyNot 68 rfl) ?_
        refine ev_icmp_ge (tgt := 176) (a_dec_at dc_Sc_whyNot 69 rfl) (by decide) (fun q => absurd q (by decide)) (fun _ => ?_)
        refine ev_bipush (v := (-10)) rfl (a_dec_at dc_Sc_whyNot 70 rfl) ?_
        refine ev_iload rfl (a_dec_at dc_Sc_whyNot 71 rfl) ?_
        refine ev_isub (a_dec_at dc_Sc_whyNot 72 rfl) ?_
        refine ev_goto (tgt := 177) (a_dec_at dc_Sc_whyNot 73 rfl) (by decide) ?_
        exact m_retI (a_dec_at dc_Sc_whyNot 75 rfl) rfl rfl H
      · have H := H.2 b3
        refine ev_iconst (v := (-1)) rfl (a_dec_at dc_Sc_whyNot 27 rfl) ?_
        refine ev_goto (tgt := 52) (a_dec_at dc_Sc_whyNot 28 rfl) (by decide) ?_
        refine w_tableOut (tgt := 162) [0, 1, 2, 3, 4] (a_dec_at dc_Sc_whyNot 32 rfl) (by decide) (by decide) (by decide) ?_
        refine ev_iload rfl (a_dec_at dc_Sc_whyNot 67 rfl) ?_
        refine ev_iconst (v := (-1)) rfl (a_dec_at dc_Sc_whyNot 68 rfl) ?_
        refine ev_icmp_ge (tgt := 176) (a_dec_at dc_Sc_whyNot 69 rfl) (by decide) (fun q => absurd q (by decide)) (fun _ => ?_)
        refine ev_bipush (v := (-10)) rfl (a_dec_at dc_Sc_whyNot 70 rfl) ?_
        refine ev_iload rfl (a_dec_at dc_Sc_whyNot 71 rfl) ?_
        refine ev_isub (a_dec_at dc_Sc_whyNot 72 rfl) ?_
        refine ev_goto (tgt := 177) (a_dec_at dc_Sc_whyNot 73 rfl) (by decide) ?_
        exact m_retI (a_dec_at dc_Sc_whyNot 75 rfl) rfl rfl H
    · have H := H.2 b2
      refine ev_iconst (v := (-1)) rfl (a_dec_at dc_Sc_whyNot 8 rfl) ?_
      refine ev_goto (tgt := 20) (a_dec_at dc_Sc_whyNot 9 rfl) (by decide) ?_
      refine ev_istore_n (i := 3) rfl (by decide) rfl (a_dec_at dc_Sc_whyNot 12 rfl) ?_
      refine ev_iload_n (i := 3) rfl rfl (a_dec_at dc_Sc_whyNot 13 rfl) ?_
      refine ev_bipush (v := 10) rfl (a_dec_at dc_Sc_whyNot 14 rfl) ?_
      refine ev_idiv (by decide) (a_dec_at dc_Sc_whyNot 15 rfl) ?_
      refine ev_bipush (v := 10) rfl (a_dec_at dc_Sc_whyNot 16 rfl) ?_
      refine ev_irem (by decide) (a_dec_at dc_Sc_whyNot 17 rfl) ?_
      refine ev_istore (by decide) rfl (a_dec_at dc_Sc_whyNot 18 rfl) ?_
      refine ev_iload_n (i := 3) rfl rfl (a_dec_at dc_Sc_whyNot 19 rfl) ?_
      refine ev_bipush (v := 10) rfl (a_dec_at dc_Sc_whyNot 20 rfl) ?_
      refine ev_irem (by decide) (a_dec_at dc_Sc_whyNot 21 rfl) ?_
      refine ev_istore (by decide) rfl (a_dec_at dc_Sc_whyNot 22 rfl) ?_
      refine ev_bipush (v := (-11)) rfl (a_dec_at dc_Sc_whyNot 23 rfl) ?_
      refine ev_istore (by decide) rfl (a_dec_at dc_Sc_whyNot 24 rfl) ?_
      refine ev_iload_n (i := 3) rfl rfl (a_dec_at dc_Sc_whyNot 25 rfl) ?_
      refine ev_if_ge (tgt := 48) (a_dec_at dc_Sc_whyNot 26 rfl) (by decide) (fun q => absurd q (by decide)) (fun _ => ?_)
      refine ev_iconst (v := (-1)) rfl (a_dec_at dc_Sc_whyNot 27 rfl) ?_
      refine ev_goto (tgt := 52) (a_dec_at dc_Sc_whyNot 28 rfl) (by decide) ?_
      refine w_tableOut (tgt := 162) [0, 1, 2, 3, 4] (a_dec_at dc_Sc_whyNot 32 rfl) (by decide) (by decide) (by decide) ?_
      refine ev_iload rfl (a_dec_at dc_Sc_whyNot 67 rfl) ?_
      refine ev_iconst (v := (-1)) rfl (a_dec_at dc_Sc_whyNot 68 rfl) ?_
      refine ev_icmp_ge (tgt := 176) (a_dec_at dc_Sc_whyNot 69 rfl) (by decide) (fun q => absurd q (by decide)) (fun _ => ?_)
      refine ev_bipush (v := (-10)) rfl (a_dec_at dc_Sc_whyNot 70 rfl) ?_
      refine ev_iload rfl (a_dec_at dc_Sc_whyNot 71 rfl) ?_
      refine ev_isub (a_dec_at dc_Sc_whyNot 72 rfl) ?_
      refine ev_goto (tgt := 177) (a_dec_at dc_Sc_whyNot 73 rfl) (by decide) ?_
      exact m_retI (a_dec_at dc_Sc_whyNot 75 rfl) rfl rfl H
set_option maxRecDepth 20000 in
theorem t_Sc_nowhere_33 {l : Launch} {h : Nat} (mi : TMi) (ml : TMl) (z : Nat) {Q : Int32 → TMi → TMl → Nat → Prop} (H : CI l h m_Sc_becksIn [.ref 33, .ref 34, .int (-1)] mi ml z (fun x1 mi1 ml1 z1 => Q x1 mi1 ml1 z1)) : CI l (h + 1) m_Sc_nowhere [.ref 33] mi ml z Q := by
  show Ev l (h + 1) m_Sc_nowhere 0 ([.ref 33], [], st mi ml z) (qI Q)
  refine ev_aload_n (i := 0) rfl rfl (a_dec_at dc_Sc_nowhere 0 rfl) ?_
  refine ev_aload_n (i := 0) rfl rfl (a_dec_at dc_Sc_nowhere 1 rfl) ?_
  refine m_getR (y := 34) fl_Sc_11 rfl sh33 (mr_33_2 _) (by decide) (a_dec_at dc_Sc_nowhere 2 rfl) ?_
  refine ev_iconst (v := (-1)) rfl (a_dec_at dc_Sc_nowhere 3 rfl) ?_
  refine cV2I cs_Sc_125 sh33 rfl (Nat.le_of_ble_eq_true rfl) (Nat.le_of_ble_eq_true rfl) (a_dec_at dc_Sc_nowhere 4 rfl) ?_
  refine CI.mono (fun x1 mi1 ml1 z1 H => ?_) H
  exact m_retI (a_dec_at dc_Sc_nowhere 5 rfl) rfl rfl H
set_option maxRecDepth 20000 in
theorem t_Sc_flooded_33 {l : Launch} {h : Nat} (mi : TMi) (ml : TMl) (z : Nat) {Q : Int32 → TMi → TMl → Nat → Prop} (H : CI l h m_La_allBecks [.ref 18] mi ml z (fun x1 mi1 ml1 z1 => CI l h m_Sc_floodedOf [.ref 33, .int x1] mi1 ml1 z1 (fun x2 mi2 ml2 z2 => Q x2 mi2 ml2 z2))) : CI l (h + 1) m_Sc_flooded [.ref 33] mi ml z Q := by
  show Ev l (h + 1) m_Sc_flooded 0 ([.ref 33], [], st mi ml z) (qI Q)
  refine ev_aload_n (i := 0) rfl rfl (a_dec_at dc_Sc_flooded 0 rfl) ?_
  refine ev_aload_n (i := 0) rfl rfl (a_dec_at dc_Sc_flooded 1 rfl) ?_
  refine m_getR (y := 18) fl_Sc_30 rfl sh33 (mr_33_0 _) (by decide) (a_dec_at dc_Sc_flooded 2 rfl) ?_
  refine cV0I cs_Sc_128 sh18 rfl (Nat.le_of_ble_eq_true rfl) (Nat.le_of_ble_eq_true rfl) (a_dec_at dc_Sc_flooded 3 rfl) ?_
  refine CI.mono (fun x1 mi1 ml1 z1 H => ?_) H
  refine cV1I cs_Sc_132 sh33 rfl (Nat.le_of_ble_eq_true rfl) (Nat.le_of_ble_eq_true rfl) (a_dec_at dc_Sc_flooded 4 rfl) ?_
  refine CI.mono (fun x2 mi2 ml2 z2 H => ?_) H
  exact m_retI (a_dec_at dc_Sc_flooded 5 rfl) rfl rfl H
set_option maxRecDepth 20000 in
theorem t_Sc_floodedOf_33 {l : Launch} {h : Nat} (mi : TMi) (ml : TMl) (z : Nat) (a1 : Int32) {Q : Int32 → TMi → TMl → Nat → Prop} (H : Ev l (h + 1) m_Sc_floodedOf 4 ([.ref 33, .int a1, .int 0, .int 0], [], st mi ml z) (qI Q)) : CI l (h + 1) m_Sc_floodedOf [.ref 33, .int a1] mi ml z Q := by
  show Ev l (h + 1) m_Sc_floodedOf 0 ([.ref 33, .int a1, .retAddr 0, .retAddr 0], [], st mi ml z) (qI Q)
  refine ev_iconst (v := 0) rfl (a_dec_at dc_Sc_floodedOf 0 rfl) ?_
  refine ev_istore_n (i := 2) rfl (by decide) rfl (a_dec_at dc_Sc_floodedOf 1 rfl) ?_
  refine ev_iconst (v := 0) rfl (a_dec_at dc_Sc_floodedOf 2 rfl) ?_
  refine ev_istore_n (i := 3) rfl (by decide) rfl (a_dec_at dc_Sc_floodedOf 3 rfl) ?_
  exact Ev.drop (L' := [.ref 33, .int a1, .int 0, .int 0]) (And.intro rfl (And.intro rfl (And.intro rfl (And.intro rfl trivial)))) H
set_option maxRecDepth 20000 in
theorem t_Sc_floodedOf_33_4 {l : Launch} {h : Nat} (mi : TMi) (ml : TMl) (z : Nat) (v1 : Int32) (v2 : Int32) (v3 : Int32) {Q : Int32 → TMi → TMl → Nat → Prop} (H : (((mi 18 1) ≤ v3 → Q v2 mi ml z) ∧ (¬ (mi 18 1) ≤ v3 → CI l h m_Sc_overflows [.ref 33, .int v3, .int v1] mi ml z (fun x2 mi2 ml2 z2 => ((x2 = 0 → Ev l (h + 1) m_Sc_floodedOf 4 ([.ref 33, .int v1, .int v2, .int (v3 + 1)], [], st mi2 ml2 z2) (qI Q)) ∧ (¬ x2 = 0 → Ev l (h + 1) m_Sc_floodedOf 4 ([.ref 33, .int v1, .int (v2 ||| ((1 : Int32) <<< (v3 &&& 31))), .int (v3 + 1)], [], st mi2 ml2 z2) (qI Q))))))) : Ev l (h + 1) m_Sc_floodedOf 4 ([.ref 33, .int v1, .int v2, .int v3], [], st mi ml z) (qI Q) := by
  refine ev_iload_n (i := 3) rfl rfl (a_dec_at dc_Sc_floodedOf 4 rfl) ?_
  refine ev_aload_n (i := 0) rfl rfl (a_dec_at dc_Sc_floodedOf 5 rfl) ?_
  refine m_getR (y := 18) fl_Sc_30 rfl sh33 (mr_33_0 _) (by decide) (a_dec_at dc_Sc_floodedOf 6 rfl) ?_
  refine m_getI fl_Sc_65 rfl sh18 (a_dec_at dc_Sc_floodedOf 7 rfl) ?_
  refine ev_icmp_ge (tgt := 36) (a_dec_at dc_Sc_floodedOf 8 rfl) (by decide) (fun b1 => ?_) (fun b1 => ?_)
  · have H := H.1 b1
    refine ev_iload_n (i := 2) rfl rfl (a_dec_at dc_Sc_floodedOf 22 rfl) ?_
    exact m_retI (a_dec_at dc_Sc_floodedOf 23 rfl) rfl rfl H
  · have H := H.2 b1
    refine ev_aload_n (i := 0) rfl rfl (a_dec_at dc_Sc_floodedOf 9 rfl) ?_
    refine ev_iload_n (i := 3) rfl rfl (a_dec_at dc_Sc_floodedOf 10 rfl) ?_
    refine ev_iload_n (i := 1) rfl rfl (a_dec_at dc_Sc_floodedOf 11 rfl) ?_
    refine cV2I cs_Sc_135 sh33 rfl (Nat.le_of_ble_eq_true rfl) (Nat.le_of_ble_eq_true rfl) (a_dec_at dc_Sc_floodedOf 12 rfl) ?_
    refine CI.mono (fun x2 mi2 ml2 z2 H => ?_) H
    refine ev_if_eq (tgt := 30) (a_dec_at dc_Sc_floodedOf 13 rfl) (by decide) (fun b3 => ?_) (fun b3 => ?_)
    · have H := H.1 b3
      refine ev_iinc (v := 1) rfl rfl (by decide) rfl (a_dec_at dc_Sc_floodedOf 20 rfl) ?_
      refine ev_goto (tgt := 4) (a_dec_at dc_Sc_floodedOf 21 rfl) (by decide) ?_
      exact Ev.drop (L' := [.ref 33, .int v1, .int v2, .int (v3 + 1)]) (And.intro rfl (And.intro rfl (And.intro rfl (And.intro rfl trivial)))) H
    · have H := H.2 b3
      refine ev_iload_n (i := 2) rfl rfl (a_dec_at dc_Sc_floodedOf 14 rfl) ?_
      refine ev_iconst (v := 1) rfl (a_dec_at dc_Sc_floodedOf 15 rfl) ?_
      refine ev_iload_n (i := 3) rfl rfl (a_dec_at dc_Sc_floodedOf 16 rfl) ?_
      refine ev_ishl (a_dec_at dc_Sc_floodedOf 17 rfl) ?_
      refine ev_ior (a_dec_at dc_Sc_floodedOf 18 rfl) ?_
      refine ev_istore_n (i := 2) rfl (by decide) rfl (a_dec_at dc_Sc_floodedOf 19 rfl) ?_
      refine ev_iinc (v := 1) rfl rfl (by decide) rfl (a_dec_at dc_Sc_floodedOf 20 rfl) ?_
      refine ev_goto (tgt := 4) (a_dec_at dc_Sc_floodedOf 21 rfl) (by decide) ?_
      exact Ev.drop (L' := [.ref 33, .int v1, .int (v2 ||| ((1 : Int32) <<< (v3 &&& 31))), .int (v3 + 1)]) (And.intro rfl (And.intro rfl (And.intro rfl (And.intro rfl trivial)))) H
set_option maxRecDepth 20000 in
theorem t_Sc_overflows_33 {l : Launch} {h : Nat} (mi : TMi) (ml : TMl) (z : Nat) (a1 : Int32) (a2 : Int32) {Q : Int32 → TMi → TMl → Nat → Prop} (H : CI l h m_Sc_becksIn [.ref 33, .ref 34, .int a1] mi ml z (fun x1 mi1 ml1 z1 => CI l h m_Sc_flowOfSet [.ref 33, .int (x1 &&& a2)] mi1 ml1 z1 (fun x2 mi2 ml2 z2 => (vp_in a1 4) ∧ ((x2 ≤ (mi2 25 a1.toNatClampNeg) → Q 0 mi2 ml2 z2) ∧ (¬ x2 ≤ (mi2 25 a1.toNatClampNeg) → Q 1 mi2 ml2 z2))))) : CI l (h + 1) m_Sc_overflows [.ref 33, .int a1, .int a2] mi ml z Q := by
  show Ev l (h + 1) m_Sc_overflows 0 ([.ref 33, .int a1, .int a2], [], st mi ml z) (qI Q)
  refine ev_aload_n (i := 0) rfl rfl (a_dec_at dc_Sc_overflows 0 rfl) ?_
  refine ev_aload_n (i := 0) rfl rfl (a_dec_at dc_Sc_overflows 1 rfl) ?_
  refine ev_aload_n (i := 0) rfl rfl (a_dec_at dc_Sc_overflows 2 rfl) ?_
  refine m_getR (y := 34) fl_Sc_11 rfl sh33 (mr_33_2 _) (by decide) (a_dec_at dc_Sc_overflows 3 rfl) ?_
  refine ev_iload_n (i := 1) rfl rfl (a_dec_at dc_Sc_overflows 4 rfl) ?_
  refine cV2I cs_Sc_125 sh33 rfl (Nat.le_of_ble_eq_true rfl) (Nat.le_of_ble_eq_true rfl) (a_dec_at dc_Sc_overflows 5 rfl) ?_
  refine CI.mono (fun x1 mi1 ml1 z1 H => ?_) H
  refine ev_iload_n (i := 2) rfl rfl (a_dec_at dc_Sc_overflows 6 rfl) ?_
  refine ev_iand (a_dec_at dc_Sc_overflows 7 rfl) ?_
  refine cV1I cs_Sc_139 sh33 rfl (Nat.le_of_ble_eq_true rfl) (Nat.le_of_ble_eq_true rfl) (a_dec_at dc_Sc_overflows 8 rfl) ?_
  refine CI.mono (fun x2 mi2 ml2 z2 H => ?_) H
  refine ev_aload_n (i := 0) rfl rfl (a_dec_at dc_Sc_overflows 9 rfl) ?_
  refine m_getR (y := 18) fl_Sc_30 rfl sh33 (mr_33_0 _) (by decide) (a_dec_at dc_Sc_overflows 10 rfl) ?_
  refine m_getR (y := 25) fl_Sc_142 rfl sh18 (mr_18_9 _) (by decide) (a_dec_at dc_Sc_overflows 11 rfl) ?_
  refine ev_iload_n (i := 1) rfl rfl (a_dec_at dc_Sc_overflows 12 rfl) ?_
  obtain ⟨c3, H⟩ := H
  refine w_iald (k := a1.toNatClampNeg) sh25 c3 rfl (a_dec_at dc_Sc_overflows 13 rfl) ?_
  refine ev_icmp_le (tgt := 31) (a_dec_at dc_Sc_overflows 14 rfl) (by decide) (fun b4 => ?_) (fun b4 => ?_)
  · have H := H.1 b4
    refine ev_iconst (v := 0) rfl (a_dec_at dc_Sc_overflows 17 rfl) ?_
    exact m_retI (a_dec_at dc_Sc_overflows 18 rfl) rfl rfl H
  · have H := H.2 b4
    refine ev_iconst (v := 1) rfl (a_dec_at dc_Sc_overflows 15 rfl) ?_
    refine ev_goto (tgt := 32) (a_dec_at dc_Sc_overflows 16 rfl) (by decide) ?_
    exact m_retI (a_dec_at dc_Sc_overflows 18 rfl) rfl rfl H
set_option maxRecDepth 20000 in
theorem t_Sc_isHeld_33 {l : Launch} {h : Nat} (mi : TMi) (ml : TMl) (z : Nat) (w1 lw1 : Nat) (hw1 : SH[w1]? = some (.inr (0, lw1))) {Q : Int32 → TMi → TMl → Nat → Prop} (H : Ev l (h + 1) m_Sc_isHeld 2 ([.ref 33, .ref w1, .int 0], [], st mi ml z) (qI Q)) : CI l (h + 1) m_Sc_isHeld [.ref 33, .ref w1] mi ml z Q := by
  show Ev l (h + 1) m_Sc_isHeld 0 ([.ref 33, .ref w1, .retAddr 0], [], st mi ml z) (qI Q)
  refine ev_iconst (v := 0) rfl (a_dec_at dc_Sc_isHeld 0 rfl) ?_
  refine ev_istore_n (i := 2) rfl (by decide) rfl (a_dec_at dc_Sc_isHeld 1 rfl) ?_
  exact Ev.drop (L' := [.ref 33, .ref w1, .int 0]) (And.intro rfl (And.intro rfl (And.intro rfl trivial))) H
set_option maxRecDepth 20000 in
theorem t_Sc_isHeld_33_2 {l : Launch} {h : Nat} (mi : TMi) (ml : TMl) (z : Nat) (w1 lw1 : Nat) (v2 : Int32) (hw1 : SH[w1]? = some (.inr (0, lw1))) {Q : Int32 → TMi → TMl → Nat → Prop} (H : (((mi 18 0) ≤ v2 → Q 1 mi ml z) ∧ (¬ (mi 18 0) ≤ v2 → (vp_in v2 lw1) ∧ (((mi w1 v2.toNatClampNeg) = (-1) → CI l h m_Sc_breakersOf [.ref 33, .ref w1, .int v2] mi ml z (fun x4 mi4 ml4 z4 => ((x4 = 0 → Ev l (h + 1) m_Sc_isHeld 2 ([.ref 33, .ref w1, .int (v2 + 1)], [], st mi4 ml4 z4) (qI Q)) ∧ (¬ x4 = 0 → Q 0 mi4 ml4 z4)))) ∧ (¬ (mi w1 v2.toNatClampNeg) = (-1) → (vp_in v2 lw1) ∧ CI l h m_Sc_bothWould [.ref 33, .int v2, .int (mi w1 v2.toNatClampNeg)] mi ml z (fun x7 mi7 ml7 z7 => ((x7 = 0 → Q 0 mi7 ml7 z7) ∧ (¬ x7 = 0 → CI l h m_Sc_breakersOf [.ref 33, .ref w1, .int v2] mi7 ml7 z7 (fun x9 mi9 ml9 z9 => ((x9 = 0 → Ev l (h + 1) m_Sc_isHeld 2 ([.ref 33, .ref w1, .int (v2 + 1)], [], st mi9 ml9 z9) (qI Q)) ∧ (¬ x9 = 0 → Q 0 mi9 ml9 z9))))))))))) : Ev l (h + 1) m_Sc_isHeld 2 ([.ref 33, .ref w1, .int v2], [], st mi ml z) (qI Q) := by
  refine ev_iload_n (i := 2) rfl rfl (a_dec_at dc_Sc_isHeld 2 rfl) ?_
  refine ev_aload_n (i := 0) rfl rfl (a_dec_at dc_Sc_isHeld 3 rfl) ?_
  refine m_getR (y := 18) fl_Sc_30 rfl sh33 (mr_33_0 _) (by decide) (a_dec_at dc_Sc_isHeld 4 rfl) ?_
  refine m_getI fl_Sc_44 rfl sh18 (a_dec_at dc_Sc_isHeld 5 rfl) ?_
  refine ev_icmp_ge (tgt := 48) (a_dec_at dc_Sc_isHeld 6 rfl) (by decide) (fun b1 => ?_) (fun b1 => ?_)
  · have H := H.1 b1
    refine ev_iconst (v := 1) rfl (a_dec_at dc_Sc_isHeld 28 rfl) ?_
    exact m_retI (a_dec_at dc_Sc_isHeld 29 rfl) rfl rfl H
  · have H := H.2 b1
    refine ev_aload_n (i := 1) rfl rfl (a_dec_at dc_Sc_isHeld 7 rfl) ?_
    refine ev_iload_n (i := 2) rfl rfl (a_dec_at dc_Sc_isHeld 8 rfl) ?_
    obtain ⟨c2, H⟩ := H
    refine w_iald (k := v2.toNatClampNeg) hw1 c2 rfl (a_dec_at dc_Sc_isHeld 9 rfl) ?_
    refine ev_iconst (v := (-1)) rfl (a_dec_at dc_Sc_isHeld 10 rfl) ?_
    refine ev_icmp_eq (tgt := 31) (a_dec_at dc_Sc_isHeld 11 rfl) (by decide) (fun b3 => ?_) (fun b3 => ?_)
    · have H := H.1 b3
      refine ev_aload_n (i := 0) rfl rfl (a_dec_at dc_Sc_isHeld 19 rfl) ?_
      refine ev_aload_n (i := 1) rfl rfl (a_dec_at dc_Sc_isHeld 20 rfl) ?_
      refine ev_iload_n (i := 2) rfl rfl (a_dec_at dc_Sc_isHeld 21 rfl) ?_
      refine cV2I cs_Sc_153 sh33 rfl (Nat.le_of_ble_eq_true rfl) (Nat.le_of_ble_eq_true rfl) (a_dec_at dc_Sc_isHeld 22 rfl) ?_
      refine CI.mono (fun x4 mi4 ml4 z4 H => ?_) H
      refine ev_if_eq (tgt := 42) (a_dec_at dc_Sc_isHeld 23 rfl) (by decide) (fun b5 => ?_) (fun b5 => ?_)
      · have H := H.1 b5
        refine ev_iinc (v := 1) rfl rfl (by decide) rfl (a_dec_at dc_Sc_isHeld 26 rfl) ?_
        refine ev_goto (tgt := 2) (a_dec_at dc_Sc_isHeld 27 rfl) (by decide) ?_
        exact Ev.drop (L' := [.ref 33, .ref w1, .int (v2 + 1)]) (And.intro rfl (And.intro rfl (And.intro rfl trivial))) H
      · have H := H.2 b5
        refine ev_iconst (v := 0) rfl (a_dec_at dc_Sc_isHeld 24 rfl) ?_
        exact m_retI (a_dec_at dc_Sc_isHeld 25 rfl) rfl rfl H
    · have H := H.2 b3
      refine ev_aload_n (i := 0) rfl rfl (a_dec_at dc_Sc_isHeld 12 rfl) ?_
      refine ev_iload_n (i := 2) rfl rfl (a_dec_at dc_Sc_isHeld 13 rfl) ?_
      refine ev_aload_n (i := 1) rfl rfl (a_dec_at dc_Sc_isHeld 14 rfl) ?_
      refine ev_iload_n (i := 2) rfl rfl (a_dec_at dc_Sc_isHeld 15 rfl) ?_
      obtain ⟨c6, H⟩ := H
      refine w_iald (k := v2.toNatClampNeg) hw1 c6 rfl (a_dec_at dc_Sc_isHeld 16 rfl) ?_
      refine cV2I cs_Sc_150 sh33 rfl (Nat.le_of_ble_eq_true rfl) (Nat.le_of_ble_eq_true rfl) (a_dec_at dc_Sc_isHeld 17 rfl) ?_
      refine CI.mono (fun x7 mi7 ml7 z7 H => ?_) H
      refine ev_if_eq (tgt := 40) (a_dec_at dc_Sc_isHeld 18 rfl) (by decide) (fun b8 => ?_) (fun b8 => ?_)
      · have H := H.1 b8
        refine ev_iconst (v := 0) rfl (a_dec_at dc_Sc_isHeld 24 rfl) ?_
        exact m_retI (a_dec_at dc_Sc_isHeld 25 rfl) rfl rfl H
      · have H := H.2 b8
        refine ev_aload_n (i := 0) rfl rfl (a_dec_at dc_Sc_isHeld 19 rfl) ?_
        refine ev_aload_n (i := 1) rfl rfl (a_dec_at dc_Sc_isHeld 20 rfl) ?_
        refine ev_iload_n (i := 2) rfl rfl (a_dec_at dc_Sc_isHeld 21 rfl) ?_
        refine cV2I cs_Sc_153 sh33 rfl (Nat.le_of_ble_eq_true rfl) (Nat.le_of_ble_eq_true rfl) (a_dec_at dc_Sc_isHeld 22 rfl) ?_
        refine CI.mono (fun x9 mi9 ml9 z9 H => ?_) H
        refine ev_if_eq (tgt := 42) (a_dec_at dc_Sc_isHeld 23 rfl) (by decide) (fun b10 => ?_) (fun b10 => ?_)
        · have H := H.1 b10
          refine ev_iinc (v := 1) rfl rfl (by decide) rfl (a_dec_at dc_Sc_isHeld 26 rfl) ?_
          refine ev_goto (tgt := 2) (a_dec_at dc_Sc_isHeld 27 rfl) (by decide) ?_
          exact Ev.drop (L' := [.ref 33, .ref w1, .int (v2 + 1)]) (And.intro rfl (And.intro rfl (And.intro rfl trivial))) H
        · have H := H.2 b10
          refine ev_iconst (v := 0) rfl (a_dec_at dc_Sc_isHeld 24 rfl) ?_
          exact m_retI (a_dec_at dc_Sc_isHeld 25 rfl) rfl rfl H
set_option maxRecDepth 20000 in
theorem t_Sc_breakersOf_33 {l : Launch} {h : Nat} (mi : TMi) (ml : TMl) (z : Nat) (w1 lw1 : Nat) (a2 : Int32) (hw1 : SH[w1]? = some (.inr (0, lw1))) {Q : Int32 → TMi → TMl → Nat → Prop} (H : Ev l (h + 1) m_Sc_breakersOf 5 ([.ref 33, .ref w1, .int a2, .int 0, .int 0], [], st mi ml z) (qI Q)) : CI l (h + 1) m_Sc_breakersOf [.ref 33, .ref w1, .int a2] mi ml z Q := by
  show Ev l (h + 1) m_Sc_breakersOf 0 ([.ref 33, .ref w1, .int a2, .retAddr 0, .retAddr 0], [], st mi ml z) (qI Q)
  refine ev_iconst (v := 0) rfl (a_dec_at dc_Sc_breakersOf 0 rfl) ?_
  refine ev_istore_n (i := 3) rfl (by decide) rfl (a_dec_at dc_Sc_breakersOf 1 rfl) ?_
  refine ev_iconst (v := 0) rfl (a_dec_at dc_Sc_breakersOf 2 rfl) ?_
  refine ev_istore (by decide) rfl (a_dec_at dc_Sc_breakersOf 3 rfl) ?_
  exact Ev.drop (L' := [.ref 33, .ref w1, .int a2, .int 0, .int 0]) (And.intro rfl (And.intro rfl (And.intro rfl (And.intro rfl (And.intro rfl trivial))))) H
set_option maxRecDepth 20000 in
theorem t_Sc_breakersOf_33_5 {l : Launch} {h : Nat} (mi : TMi) (ml : TMl) (z : Nat) (w1 lw1 : Nat) (v2 : Int32) (v3 : Int32) (v4 : Int32) (hw1 : SH[w1]? = some (.inr (0, lw1))) {Q : Int32 → TMi → TMl → Nat → Prop} (H : (((mi 18 1) ≤ v4 → Q v3 mi ml z) ∧ (¬ (mi 18 1) ≤ v4 → CI l h m_Sc_bothWould [.ref 33, .int v2, .int v4] mi ml z (fun x2 mi2 ml2 z2 => ((x2 = 0 → Ev l (h + 1) m_Sc_breakersOf 5 ([.ref 33, .ref w1, .int v2, .int v3, .int (v4 + 1)], [], st mi2 ml2 z2) (qI Q)) ∧ (¬ x2 = 0 → (vp_in v2 lw1) ∧ CI l h m_Sc_wouldMove [.ref 33, .int (mi2 w1 v2.toNatClampNeg), .int v2, .int v4] mi2 ml2 z2 (fun x5 mi5 ml5 z5 => ((x5 = 0 → Ev l (h + 1) m_Sc_breakersOf 5 ([.ref 33, .ref w1, .int v2, .int v3, .int (v4 + 1)], [], st mi5 ml5 z5) (qI Q)) ∧ (¬ x5 = 0 → CI l h m_Sc_wouldAdmit [.ref 33, .ref w1, .int v4, .int v2] mi5 ml5 z5 (fun x7 mi7 ml7 z7 => ((x7 = 0 → Ev l (h + 1) m_Sc_breakersOf 5 ([.ref 33, .ref w1, .int v2, .int v3, .int (v4 + 1)], [], st mi7 ml7 z7) (qI Q)) ∧ (¬ x7 = 0 → Ev l (h + 1) m_Sc_breakersOf 5 ([.ref 33, .ref w1, .int v2, .int (v3 ||| ((1 : Int32) <<< (v4 &&& 31))), .int (v4 + 1)], [], st mi7 ml7 z7) (qI Q))))))))))))) : Ev l (h + 1) m_Sc_breakersOf 5 ([.ref 33, .ref w1, .int v2, .int v3, .int v4], [], st mi ml z) (qI Q) := by
  refine ev_iload rfl (a_dec_at dc_Sc_breakersOf 4 rfl) ?_
  refine ev_aload_n (i := 0) rfl rfl (a_dec_at dc_Sc_breakersOf 5 rfl) ?_
  refine m_getR (y := 18) fl_Sc_30 rfl sh33 (mr_33_0 _) (by decide) (a_dec_at dc_Sc_breakersOf 6 rfl) ?_
  refine m_getI fl_Sc_65 rfl sh18 (a_dec_at dc_Sc_breakersOf 7 rfl) ?_
  refine ev_icmp_ge (tgt := 64) (a_dec_at dc_Sc_breakersOf 8 rfl) (by decide) (fun b1 => ?_) (fun b1 => ?_)
  · have H := H.1 b1
    refine ev_iload_n (i := 3) rfl rfl (a_dec_at dc_Sc_breakersOf 36 rfl) ?_
    exact m_retI (a_dec_at dc_Sc_breakersOf 37 rfl) rfl rfl H
  · have H := H.2 b1
    refine ev_aload_n (i := 0) rfl rfl (a_dec_at dc_Sc_breakersOf 9 rfl) ?_
    refine ev_iload_n (i := 2) rfl rfl (a_dec_at dc_Sc_breakersOf 10 rfl) ?_
    refine ev_iload rfl (a_dec_at dc_Sc_breakersOf 11 rfl) ?_
    refine cV2I cs_Sc_150 sh33 rfl (Nat.le_of_ble_eq_true rfl) (Nat.le_of_ble_eq_true rfl) (a_dec_at dc_Sc_breakersOf 12 rfl) ?_
    refine CI.mono (fun x2 mi2 ml2 z2 H => ?_) H
    refine ev_if_eq (tgt := 58) (a_dec_at dc_Sc_breakersOf 13 rfl) (by decide) (fun b3 => ?_) (fun b3 => ?_)
    · have H := H.1 b3
      refine ev_iinc (v := 1) rfl rfl (by decide) rfl (a_dec_at dc_Sc_breakersOf 34 rfl) ?_
      refine ev_goto (tgt := 5) (a_dec_at dc_Sc_breakersOf 35 rfl) (by decide) ?_
      exact Ev.drop (L' := [.ref 33, .ref w1, .int v2, .int v3, .int (v4 + 1)]) (And.intro rfl (And.intro rfl (And.intro rfl (And.intro rfl (And.intro rfl trivial))))) H
    · have H := H.2 b3
      refine ev_aload_n (i := 0) rfl rfl (a_dec_at dc_Sc_breakersOf 14 rfl) ?_
      refine ev_aload_n (i := 1) rfl rfl (a_dec_at dc_Sc_breakersOf 15 rfl) ?_
      refine ev_iload_n (i := 2) rfl rfl (a_dec_at dc_Sc_breakersOf 16 rfl) ?_
      obtain ⟨c4, H⟩ := H
      refine w_iald (k := v2.toNatClampNeg) hw1 c4 rfl (a_dec_at dc_Sc_breakersOf 17 rfl) ?_
      refine ev_iload_n (i := 2) rfl rfl (a_dec_at dc_Sc_breakersOf 18 rfl) ?_
      refine ev_iload rfl (a_dec_at dc_Sc_breakersOf 19 rfl) ?_
      refine cV3I cs_Sc_156 sh33 rfl (Nat.le_of_ble_eq_true rfl) (Nat.le_of_ble_eq_true rfl) (a_dec_at dc_Sc_breakersOf 20 rfl) ?_
      refine CI.mono (fun x5 mi5 ml5 z5 H => ?_) H
      refine ev_if_eq (tgt := 58) (a_dec_at dc_Sc_breakersOf 21 rfl) (by decide) (fun b6 => ?_) (fun b6 => ?_)
      · have H := H.1 b6
        refine ev_iinc (v := 1) rfl rfl (by decide) rfl (a_dec_at dc_Sc_breakersOf 34 rfl) ?_
        refine ev_goto (tgt := 5) (a_dec_at dc_Sc_breakersOf 35 rfl) (by decide) ?_
        exact Ev.drop (L' := [.ref 33, .ref w1, .int v2, .int v3, .int (v4 + 1)]) (And.intro rfl (And.intro rfl (And.intro rfl (And.intro rfl (And.intro rfl trivial))))) H
      · have H := H.2 b6
        refine ev_aload_n (i := 0) rfl rfl (a_dec_at dc_Sc_breakersOf 22 rfl) ?_
        refine ev_aload_n (i := 1) rfl rfl (a_dec_at dc_Sc_breakersOf 23 rfl) ?_
        refine ev_iload rfl (a_dec_at dc_Sc_breakersOf 24 rfl) ?_
        refine ev_iload_n (i := 2) rfl rfl (a_dec_at dc_Sc_breakersOf 25 rfl) ?_
        refine cV3I cs_Sc_159 sh33 rfl (Nat.le_of_ble_eq_true rfl) (Nat.le_of_ble_eq_true rfl) (a_dec_at dc_Sc_breakersOf 26 rfl) ?_
        refine CI.mono (fun x7 mi7 ml7 z7 H => ?_) H
        refine ev_if_eq (tgt := 58) (a_dec_at dc_Sc_breakersOf 27 rfl) (by decide) (fun b8 => ?_) (fun b8 => ?_)
        · have H := H.1 b8
          refine ev_iinc (v := 1) rfl rfl (by decide) rfl (a_dec_at dc_Sc_breakersOf 34 rfl) ?_
          refine ev_goto (tgt := 5) (a_dec_at dc_Sc_breakersOf 35 rfl) (by decide) ?_
          exact Ev.drop (L' := [.ref 33, .ref w1, .int v2, .int v3, .int (v4 + 1)]) (And.intro rfl (And.intro rfl (And.intro rfl (And.intro rfl (And.intro rfl trivial))))) H
        · have H := H.2 b8
          refine ev_iload_n (i := 3) rfl rfl (a_dec_at dc_Sc_breakersOf 28 rfl) ?_
          refine ev_iconst (v := 1) rfl (a_dec_at dc_Sc_breakersOf 29 rfl) ?_
          refine ev_iload rfl (a_dec_at dc_Sc_breakersOf 30 rfl) ?_
          refine ev_ishl (a_dec_at dc_Sc_breakersOf 31 rfl) ?_
          refine ev_ior (a_dec_at dc_Sc_breakersOf 32 rfl) ?_
          refine ev_istore_n (i := 3) rfl (by decide) rfl (a_dec_at dc_Sc_breakersOf 33 rfl) ?_
          refine ev_iinc (v := 1) rfl rfl (by decide) rfl (a_dec_at dc_Sc_breakersOf 34 rfl) ?_
          refine ev_goto (tgt := 5) (a_dec_at dc_Sc_breakersOf 35 rfl) (by decide) ?_
          exact Ev.drop (L' := [.ref 33, .ref w1, .int v2, .int (v3 ||| ((1 : Int32) <<< (v4 &&& 31))), .int (v4 + 1)]) (And.intro rfl (And.intro rfl (And.intro rfl (And.intro rfl (And.intro rfl trivial))))) H
set_option maxRecDepth 20000 in
theorem t_Sc_wouldMove_33 {l : Launch} {h : Nat} (mi : TMi) (ml : TMl) (z : Nat) (a1 : Int32) (a2 : Int32) (a3 : Int32) {Q : Int32 → TMi → TMl → Nat → Prop} (H : ((a1 = (-1) → Q 1 mi ml z) ∧ (¬ a1 = (-1) → ((a1 = a3 → Q 0 mi ml z) ∧ (¬ a1 = a3 → CI l h m_Sc_likesBetter [.ref 33, .int a2, .int a3, .int a1] mi ml z (fun x3 mi3 ml3 z3 => ((x3 = 0 → Q 0 mi3 ml3 z3) ∧ (¬ x3 = 0 → Q 1 mi3 ml3 z3)))))))) : CI l (h + 1) m_Sc_wouldMove [.ref 33, .int a1, .int a2, .int a3] mi ml z Q := by
  show Ev l (h + 1) m_Sc_wouldMove 0 ([.ref 33, .int a1, .int a2, .int a3], [], st mi ml z) (qI Q)
  refine ev_iload_n (i := 1) rfl rfl (a_dec_at dc_Sc_wouldMove 0 rfl) ?_
  refine ev_iconst (v := (-1)) rfl (a_dec_at dc_Sc_wouldMove 1 rfl) ?_
  refine ev_icmp_eq (tgt := 20) (a_dec_at dc_Sc_wouldMove 2 rfl) (by decide) (fun b1 => ?_) (fun b1 => ?_)
  · have H := H.1 b1
    refine ev_iconst (v := 1) rfl (a_dec_at dc_Sc_wouldMove 12 rfl) ?_
    refine ev_goto (tgt := 25) (a_dec_at dc_Sc_wouldMove 13 rfl) (by decide) ?_
    exact m_retI (a_dec_at dc_Sc_wouldMove 15 rfl) rfl rfl H
  · have H := H.2 b1
    refine ev_iload_n (i := 1) rfl rfl (a_dec_at dc_Sc_wouldMove 3 rfl) ?_
    refine ev_iload_n (i := 3) rfl rfl (a_dec_at dc_Sc_wouldMove 4 rfl) ?_
    refine ev_icmp_eq (tgt := 24) (a_dec_at dc_Sc_wouldMove 5 rfl) (by decide) (fun b2 => ?_) (fun b2 => ?_)
    · have H := H.1 b2
      refine ev_iconst (v := 0) rfl (a_dec_at dc_Sc_wouldMove 14 rfl) ?_
      exact m_retI (a_dec_at dc_Sc_wouldMove 15 rfl) rfl rfl H
    · have H := H.2 b2
      refine ev_aload_n (i := 0) rfl rfl (a_dec_at dc_Sc_wouldMove 6 rfl) ?_
      refine ev_iload_n (i := 2) rfl rfl (a_dec_at dc_Sc_wouldMove 7 rfl) ?_
      refine ev_iload_n (i := 3) rfl rfl (a_dec_at dc_Sc_wouldMove 8 rfl) ?_
      refine ev_iload_n (i := 1) rfl rfl (a_dec_at dc_Sc_wouldMove 9 rfl) ?_
      refine cV3I cs_Sc_121 sh33 rfl (Nat.le_of_ble_eq_true rfl) (Nat.le_of_ble_eq_true rfl) (a_dec_at dc_Sc_wouldMove 10 rfl) ?_
      refine CI.mono (fun x3 mi3 ml3 z3 H => ?_) H
      refine ev_if_eq (tgt := 24) (a_dec_at dc_Sc_wouldMove 11 rfl) (by decide) (fun b4 => ?_) (fun b4 => ?_)
      · have H := H.1 b4
        refine ev_iconst (v := 0) rfl (a_dec_at dc_Sc_wouldMove 14 rfl) ?_
        exact m_retI (a_dec_at dc_Sc_wouldMove 15 rfl) rfl rfl H
      · have H := H.2 b4
        refine ev_iconst (v := 1) rfl (a_dec_at dc_Sc_wouldMove 12 rfl) ?_
        refine ev_goto (tgt := 25) (a_dec_at dc_Sc_wouldMove 13 rfl) (by decide) ?_
        exact m_retI (a_dec_at dc_Sc_wouldMove 15 rfl) rfl rfl H
set_option maxRecDepth 20000 in
theorem t_Sc_likesBetter_33 {l : Launch} {h : Nat} (mi : TMi) (ml : TMl) (z : Nat) (a1 : Int32) (a2 : Int32) (a3 : Int32) {Q : Int32 → TMi → TMl → Nat → Prop} (H : CI l h m_B_pair [.int a1, .int a2] mi ml z (fun x1 mi1 ml1 z1 => (vp_in x1 24) ∧ CI l h m_B_pair [.int a1, .int a3] mi1 ml1 z1 (fun x3 mi3 ml3 z3 => (vp_in x3 24) ∧ (((mi1 37 x1.toNatClampNeg) ≤ (mi3 37 x3.toNatClampNeg) → Q 0 mi3 ml3 z3) ∧ (¬ (mi1 37 x1.toNatClampNeg) ≤ (mi3 37 x3.toNatClampNeg) → Q 1 mi3 ml3 z3))))) : CI l (h + 1) m_Sc_likesBetter [.ref 33, .int a1, .int a2, .int a3] mi ml z Q := by
  show Ev l (h + 1) m_Sc_likesBetter 0 ([.ref 33, .int a1, .int a2, .int a3], [], st mi ml z) (qI Q)
  refine ev_aload_n (i := 0) rfl rfl (a_dec_at dc_Sc_likesBetter 0 rfl) ?_
  refine m_getR (y := 37) fl_Sc_21 rfl sh33 (mr_33_5 _) (by decide) (a_dec_at dc_Sc_likesBetter 1 rfl) ?_
  refine ev_iload_n (i := 1) rfl rfl (a_dec_at dc_Sc_likesBetter 2 rfl) ?_
  refine ev_iload_n (i := 2) rfl rfl (a_dec_at dc_Sc_likesBetter 3 rfl) ?_
  refine cN2I cs_Sc_71 rfl (Nat.le_of_ble_eq_true rfl) (Nat.le_of_ble_eq_true rfl) (a_dec_at dc_Sc_likesBetter 4 rfl) ?_
  refine CI.mono (fun x1 mi1 ml1 z1 H => ?_) H
  obtain ⟨c2, H⟩ := H
  refine w_iald (k := x1.toNatClampNeg) sh37 c2 rfl (a_dec_at dc_Sc_likesBetter 5 rfl) ?_
  refine ev_aload_n (i := 0) rfl rfl (a_dec_at dc_Sc_likesBetter 6 rfl) ?_
  refine m_getR (y := 37) fl_Sc_21 rfl sh33 (mr_33_5 _) (by decide) (a_dec_at dc_Sc_likesBetter 7 rfl) ?_
  refine ev_iload_n (i := 1) rfl rfl (a_dec_at dc_Sc_likesBetter 8 rfl) ?_
  refine ev_iload_n (i := 3) rfl rfl (a_dec_at dc_Sc_likesBetter 9 rfl) ?_
  refine cN2I cs_Sc_71 rfl (Nat.le_of_ble_eq_true rfl) (Nat.le_of_ble_eq_true rfl) (a_dec_at dc_Sc_likesBetter 10 rfl) ?_
  refine CI.mono (fun x3 mi3 ml3 z3 H => ?_) H
  obtain ⟨c4, H⟩ := H
  refine w_iald (k := x3.toNatClampNeg) sh37 c4 rfl (a_dec_at dc_Sc_likesBetter 11 rfl) ?_
  refine ev_icmp_le (tgt := 27) (a_dec_at dc_Sc_likesBetter 12 rfl) (by decide) (fun b5 => ?_) (fun b5 => ?_)
  · have H := H.1 b5
    refine ev_iconst (v := 0) rfl (a_dec_at dc_Sc_likesBetter 15 rfl) ?_
    exact m_retI (a_dec_at dc_Sc_likesBetter 16 rfl) rfl rfl H
  · have H := H.2 b5
    refine ev_iconst (v := 1) rfl (a_dec_at dc_Sc_likesBetter 13 rfl) ?_
    refine ev_goto (tgt := 28) (a_dec_at dc_Sc_likesBetter 14 rfl) (by decide) ?_
    exact m_retI (a_dec_at dc_Sc_likesBetter 16 rfl) rfl rfl H
set_option maxRecDepth 20000 in
theorem t_Sc_rankOf_33 {l : Launch} {h : Nat} (mi : TMi) (ml : TMl) (z : Nat) (a1 : Int32) (a2 : Int32) {Q : Int32 → TMi → TMl → Nat → Prop} (H : Ev l (h + 1) m_Sc_rankOf 5 ([.ref 33, .int a1, .int a2, .int 0, .int 0], [], st mi ml z) (qI Q)) : CI l (h + 1) m_Sc_rankOf [.ref 33, .int a1, .int a2] mi ml z Q := by
  show Ev l (h + 1) m_Sc_rankOf 0 ([.ref 33, .int a1, .int a2, .retAddr 0, .retAddr 0], [], st mi ml z) (qI Q)
  refine ev_iconst (v := 0) rfl (a_dec_at dc_Sc_rankOf 0 rfl) ?_
  refine ev_istore_n (i := 3) rfl (by decide) rfl (a_dec_at dc_Sc_rankOf 1 rfl) ?_
  refine ev_iconst (v := 0) rfl (a_dec_at dc_Sc_rankOf 2 rfl) ?_
  refine ev_istore (by decide) rfl (a_dec_at dc_Sc_rankOf 3 rfl) ?_
  exact Ev.drop (L' := [.ref 33, .int a1, .int a2, .int 0, .int 0]) (And.intro rfl (And.intro rfl (And.intro rfl (And.intro rfl (And.intro rfl trivial))))) H
set_option maxRecDepth 20000 in
theorem t_Sc_rankOf_33_5 {l : Launch} {h : Nat} (mi : TMi) (ml : TMl) (z : Nat) (v1 : Int32) (v2 : Int32) (v3 : Int32) (v4 : Int32) {Q : Int32 → TMi → TMl → Nat → Prop} (H : (((mi 18 1) ≤ v4 → Q v3 mi ml z) ∧ (¬ (mi 18 1) ≤ v4 → CI l h m_Sc_likesBetter [.ref 33, .int v1, .int v4, .int v2] mi ml z (fun x2 mi2 ml2 z2 => ((x2 = 0 → Ev l (h + 1) m_Sc_rankOf 5 ([.ref 33, .int v1, .int v2, .int v3, .int (v4 + 1)], [], st mi2 ml2 z2) (qI Q)) ∧ (¬ x2 = 0 → Ev l (h + 1) m_Sc_rankOf 5 ([.ref 33, .int v1, .int v2, .int (v3 + 1), .int (v4 + 1)], [], st mi2 ml2 z2) (qI Q))))))) : Ev l (h + 1) m_Sc_rankOf 5 ([.ref 33, .int v1, .int v2, .int v3, .int v4], [], st mi ml z) (qI Q) := by
  refine ev_iload rfl (a_dec_at dc_Sc_rankOf 4 rfl) ?_
  refine ev_aload_n (i := 0) rfl rfl (a_dec_at dc_Sc_rankOf 5 rfl) ?_
  refine m_getR (y := 18) fl_Sc_30 rfl sh33 (mr_33_0 _) (by decide) (a_dec_at dc_Sc_rankOf 6 rfl) ?_
  refine m_getI fl_Sc_65 rfl sh18 (a_dec_at dc_Sc_rankOf 7 rfl) ?_
  refine ev_icmp_ge (tgt := 37) (a_dec_at dc_Sc_rankOf 8 rfl) (by decide) (fun b1 => ?_) (fun b1 => ?_)
  · have H := H.1 b1
    refine ev_iload_n (i := 3) rfl rfl (a_dec_at dc_Sc_rankOf 18 rfl) ?_
    exact m_retI (a_dec_at dc_Sc_rankOf 19 rfl) rfl rfl H
  · have H := H.2 b1
    refine ev_aload_n (i := 0) rfl rfl (a_dec_at dc_Sc_rankOf 9 rfl) ?_
    refine ev_iload_n (i := 1) rfl rfl (a_dec_at dc_Sc_rankOf 10 rfl) ?_
    refine ev_iload rfl (a_dec_at dc_Sc_rankOf 11 rfl) ?_
    refine ev_iload_n (i := 2) rfl rfl (a_dec_at dc_Sc_rankOf 12 rfl) ?_
    refine cV3I cs_Sc_121 sh33 rfl (Nat.le_of_ble_eq_true rfl) (Nat.le_of_ble_eq_true rfl) (a_dec_at dc_Sc_rankOf 13 rfl) ?_
    refine CI.mono (fun x2 mi2 ml2 z2 H => ?_) H
    refine ev_if_eq (tgt := 31) (a_dec_at dc_Sc_rankOf 14 rfl) (by decide) (fun b3 => ?_) (fun b3 => ?_)
    · have H := H.1 b3
      refine ev_iinc (v := 1) rfl rfl (by decide) rfl (a_dec_at dc_Sc_rankOf 16 rfl) ?_
      refine ev_goto (tgt := 5) (a_dec_at dc_Sc_rankOf 17 rfl) (by decide) ?_
      exact Ev.drop (L' := [.ref 33, .int v1, .int v2, .int v3, .int (v4 + 1)]) (And.intro rfl (And.intro rfl (And.intro rfl (And.intro rfl (And.intro rfl trivial))))) H
    · have H := H.2 b3
      refine ev_iinc (v := 1) rfl rfl (by decide) rfl (a_dec_at dc_Sc_rankOf 15 rfl) ?_
      refine ev_iinc (v := 1) rfl rfl (by decide) rfl (a_dec_at dc_Sc_rankOf 16 rfl) ?_
      refine ev_goto (tgt := 5) (a_dec_at dc_Sc_rankOf 17 rfl) (by decide) ?_
      exact Ev.drop (L' := [.ref 33, .int v1, .int v2, .int (v3 + 1), .int (v4 + 1)]) (And.intro rfl (And.intro rfl (And.intro rfl (And.intro rfl (And.intro rfl trivial))))) H
set_option maxRecDepth 20000 in
theorem t_Sc_fewestToTurnOff_33 {l : Launch} {h : Nat} (mi : TMi) (ml : TMl) (z : Nat) {Q : Int32 → TMi → TMl → Nat → Prop} (H : CI l h m_La_allBecks [.ref 18] mi ml z (fun x1 mi1 ml1 z1 => Ev l (h + 1) m_Sc_fewestToTurnOff 12 ([.ref 33, .int x1, .int x1, .int 0], [], st mi1 ml1 z1) (qI Q))) : CI l (h + 1) m_Sc_fewestToTurnOff [.ref 33] mi ml z Q := by
  show Ev l (h + 1) m_Sc_fewestToTurnOff 0 ([.ref 33, .retAddr 0, .retAddr 0, .retAddr 0], [], st mi ml z) (qI Q)
  refine ev_aload_n (i := 0) rfl rfl (a_dec_at dc_Sc_fewestToTurnOff 0 rfl) ?_
  refine m_getR (y := 18) fl_Sc_30 rfl sh33 (mr_33_0 _) (by decide) (a_dec_at dc_Sc_fewestToTurnOff 1 rfl) ?_
  refine cV0I cs_Sc_128 sh18 rfl (Nat.le_of_ble_eq_true rfl) (Nat.le_of_ble_eq_true rfl) (a_dec_at dc_Sc_fewestToTurnOff 2 rfl) ?_
  refine CI.mono (fun x1 mi1 ml1 z1 H => ?_) H
  refine ev_istore_n (i := 1) rfl (by decide) rfl (a_dec_at dc_Sc_fewestToTurnOff 3 rfl) ?_
  refine ev_iload_n (i := 1) rfl rfl (a_dec_at dc_Sc_fewestToTurnOff 4 rfl) ?_
  refine ev_istore_n (i := 2) rfl (by decide) rfl (a_dec_at dc_Sc_fewestToTurnOff 5 rfl) ?_
  refine ev_iconst (v := 0) rfl (a_dec_at dc_Sc_fewestToTurnOff 6 rfl) ?_
  refine ev_istore_n (i := 3) rfl (by decide) rfl (a_dec_at dc_Sc_fewestToTurnOff 7 rfl) ?_
  exact Ev.drop (L' := [.ref 33, .int x1, .int x1, .int 0]) (And.intro rfl (And.intro rfl (And.intro rfl (And.intro rfl trivial)))) H
set_option maxRecDepth 20000 in
theorem t_Sc_fewestToTurnOff_33_12 {l : Launch} {h : Nat} (mi : TMi) (ml : TMl) (z : Nat) (v1 : Int32) (v2 : Int32) (v3 : Int32) {Q : Int32 → TMi → TMl → Nat → Prop} (H : ((v1 ≤ v3 → Q v2 mi ml z) ∧ (¬ v1 ≤ v3 → CI l h m_JI_bitCount [.int v3] mi ml z (fun x2 mi2 ml2 z2 => CI l h m_JI_bitCount [.int v2] mi2 ml2 z2 (fun x3 mi3 ml3 z3 => ((x3 ≤ x2 → Ev l (h + 1) m_Sc_fewestToTurnOff 12 ([.ref 33, .int v1, .int v2, .int (v3 + 1)], [], st mi3 ml3 z3) (qI Q)) ∧ (¬ x3 ≤ x2 → CI l h m_Sc_floodedOf [.ref 33, .int (v1 &&& (v3 ^^^ (-1)))] mi3 ml3 z3 (fun x5 mi5 ml5 z5 => ((¬ x5 = 0 → Ev l (h + 1) m_Sc_fewestToTurnOff 12 ([.ref 33, .int v1, .int v2, .int (v3 + 1)], [], st mi5 ml5 z5) (qI Q)) ∧ (x5 = 0 → Ev l (h + 1) m_Sc_fewestToTurnOff 12 ([.ref 33, .int v1, .int v3, .int (v3 + 1)], [], st mi5 ml5 z5) (qI Q))))))))))) : Ev l (h + 1) m_Sc_fewestToTurnOff 12 ([.ref 33, .int v1, .int v2, .int v3], [], st mi ml z) (qI Q) := by
  refine ev_iload_n (i := 3) rfl rfl (a_dec_at dc_Sc_fewestToTurnOff 8 rfl) ?_
  refine ev_iload_n (i := 1) rfl rfl (a_dec_at dc_Sc_fewestToTurnOff 9 rfl) ?_
  refine ev_icmp_ge (tgt := 48) (a_dec_at dc_Sc_fewestToTurnOff 10 rfl) (by decide) (fun b1 => ?_) (fun b1 => ?_)
  · have H := H.1 b1
    refine ev_iload_n (i := 2) rfl rfl (a_dec_at dc_Sc_fewestToTurnOff 28 rfl) ?_
    exact m_retI (a_dec_at dc_Sc_fewestToTurnOff 29 rfl) rfl rfl H
  · have H := H.2 b1
    refine ev_iload_n (i := 3) rfl rfl (a_dec_at dc_Sc_fewestToTurnOff 11 rfl) ?_
    refine cS1I cs_Sc_145 rfl (Nat.le_of_ble_eq_true rfl) (Nat.le_of_ble_eq_true rfl) (a_dec_at dc_Sc_fewestToTurnOff 12 rfl) ?_
    refine CI.mono (fun x2 mi2 ml2 z2 H => ?_) H
    refine ev_iload_n (i := 2) rfl rfl (a_dec_at dc_Sc_fewestToTurnOff 13 rfl) ?_
    refine cS1I cs_Sc_145 rfl (Nat.le_of_ble_eq_true rfl) (Nat.le_of_ble_eq_true rfl) (a_dec_at dc_Sc_fewestToTurnOff 14 rfl) ?_
    refine CI.mono (fun x3 mi3 ml3 z3 H => ?_) H
    refine ev_icmp_ge (tgt := 42) (a_dec_at dc_Sc_fewestToTurnOff 15 rfl) (by decide) (fun b4 => ?_) (fun b4 => ?_)
    · have H := H.1 b4
      refine ev_iinc (v := 1) rfl rfl (by decide) rfl (a_dec_at dc_Sc_fewestToTurnOff 26 rfl) ?_
      refine ev_goto (tgt := 12) (a_dec_at dc_Sc_fewestToTurnOff 27 rfl) (by decide) ?_
      exact Ev.drop (L' := [.ref 33, .int v1, .int v2, .int (v3 + 1)]) (And.intro rfl (And.intro rfl (And.intro rfl (And.intro rfl trivial)))) H
    · have H := H.2 b4
      refine ev_aload_n (i := 0) rfl rfl (a_dec_at dc_Sc_fewestToTurnOff 16 rfl) ?_
      refine ev_iload_n (i := 1) rfl rfl (a_dec_at dc_Sc_fewestToTurnOff 17 rfl) ?_
      refine ev_iload_n (i := 3) rfl rfl (a_dec_at dc_Sc_fewestToTurnOff 18 rfl) ?_
      refine ev_iconst (v := (-1)) rfl (a_dec_at dc_Sc_fewestToTurnOff 19 rfl) ?_
      refine ev_ixor (a_dec_at dc_Sc_fewestToTurnOff 20 rfl) ?_
      refine ev_iand (a_dec_at dc_Sc_fewestToTurnOff 21 rfl) ?_
      refine cV1I cs_Sc_132 sh33 rfl (Nat.le_of_ble_eq_true rfl) (Nat.le_of_ble_eq_true rfl) (a_dec_at dc_Sc_fewestToTurnOff 22 rfl) ?_
      refine CI.mono (fun x5 mi5 ml5 z5 H => ?_) H
      refine ev_if_ne (tgt := 42) (a_dec_at dc_Sc_fewestToTurnOff 23 rfl) (by decide) (fun b6 => ?_) (fun b6 => ?_)
      · have H := H.1 b6
        refine ev_iinc (v := 1) rfl rfl (by decide) rfl (a_dec_at dc_Sc_fewestToTurnOff 26 rfl) ?_
        refine ev_goto (tgt := 12) (a_dec_at dc_Sc_fewestToTurnOff 27 rfl) (by decide) ?_
        exact Ev.drop (L' := [.ref 33, .int v1, .int v2, .int (v3 + 1)]) (And.intro rfl (And.intro rfl (And.intro rfl (And.intro rfl trivial)))) H
      · have H := H.2 b6
        refine ev_iload_n (i := 3) rfl rfl (a_dec_at dc_Sc_fewestToTurnOff 24 rfl) ?_
        refine ev_istore_n (i := 2) rfl (by decide) rfl (a_dec_at dc_Sc_fewestToTurnOff 25 rfl) ?_
        refine ev_iinc (v := 1) rfl rfl (by decide) rfl (a_dec_at dc_Sc_fewestToTurnOff 26 rfl) ?_
        refine ev_goto (tgt := 12) (a_dec_at dc_Sc_fewestToTurnOff 27 rfl) (by decide) ?_
        exact Ev.drop (L' := [.ref 33, .int v1, .int v3, .int (v3 + 1)]) (And.intro rfl (And.intro rfl (And.intro rfl (And.intro rfl trivial)))) H
set_option maxRecDepth 20000 in
theorem t_Sc_total_33 {l : Launch} {h : Nat} (mi : TMi) (ml : TMl) (z : Nat) (a1 : Int32) (a2 : Int32) {Q : Int32 → TMi → TMl → Nat → Prop} (H : Ev l (h + 1) m_Sc_total 5 ([.ref 33, .int a1, .int a2, .int 0, .int a1], [], st mi ml z) (qI Q)) : CI l (h + 1) m_Sc_total [.ref 33, .int a1, .int a2] mi ml z Q := by
  show Ev l (h + 1) m_Sc_total 0 ([.ref 33, .int a1, .int a2, .retAddr 0, .retAddr 0], [], st mi ml z) (qI Q)
  refine ev_iconst (v := 0) rfl (a_dec_at dc_Sc_total 0 rfl) ?_
  refine ev_istore_n (i := 3) rfl (by decide) rfl (a_dec_at dc_Sc_total 1 rfl) ?_
  refine ev_iload_n (i := 1) rfl rfl (a_dec_at dc_Sc_total 2 rfl) ?_
  refine ev_istore (by decide) rfl (a_dec_at dc_Sc_total 3 rfl) ?_
  exact Ev.drop (L' := [.ref 33, .int a1, .int a2, .int 0, .int a1]) (And.intro rfl (And.intro rfl (And.intro rfl (And.intro rfl (And.intro rfl trivial))))) H
set_option maxRecDepth 20000 in
theorem t_Sc_total_33_5 {l : Launch} {h : Nat} (mi : TMi) (ml : TMl) (z : Nat) (v1 : Int32) (v2 : Int32) (v3 : Int32) (v4 : Int32) {Q : Int32 → TMi → TMl → Nat → Prop} (H : (((v1 + v2) ≤ v4 → Q v3 mi ml z) ∧ (¬ (v1 + v2) ≤ v4 → ((40 ≤ v4 → Q v3 mi ml z) ∧ (¬ 40 ≤ v4 → (vp_in v4 40) ∧ Ev l (h + 1) m_Sc_total 5 ([.ref 33, .int v1, .int v2, .int (v3 + (mi 34 v4.toNatClampNeg)), .int (v4 + 1)], [], st mi ml z) (qI Q)))))) : Ev l (h + 1) m_Sc_total 5 ([.ref 33, .int v1, .int v2, .int v3, .int v4], [], st mi ml z) (qI Q) := by
  refine ev_iload rfl (a_dec_at dc_Sc_total 4 rfl) ?_
  refine ev_iload_n (i := 1) rfl rfl (a_dec_at dc_Sc_total 5 rfl) ?_
  refine ev_iload_n (i := 2) rfl rfl (a_dec_at dc_Sc_total 6 rfl) ?_
  refine ev_iadd (a_dec_at dc_Sc_total 7 rfl) ?_
  refine ev_icmp_ge (tgt := 36) (a_dec_at dc_Sc_total 8 rfl) (by decide) (fun b1 => ?_) (fun b1 => ?_)
  · have H := H.1 b1
    refine ev_iload_n (i := 3) rfl rfl (a_dec_at dc_Sc_total 21 rfl) ?_
    exact m_retI (a_dec_at dc_Sc_total 22 rfl) rfl rfl H
  · have H := H.2 b1
    refine ev_iload rfl (a_dec_at dc_Sc_total 9 rfl) ?_
    refine ev_bipush (v := 40) rfl (a_dec_at dc_Sc_total 10 rfl) ?_
    refine ev_icmp_ge (tgt := 36) (a_dec_at dc_Sc_total 11 rfl) (by decide) (fun b2 => ?_) (fun b2 => ?_)
    · have H := H.1 b2
      refine ev_iload_n (i := 3) rfl rfl (a_dec_at dc_Sc_total 21 rfl) ?_
      exact m_retI (a_dec_at dc_Sc_total 22 rfl) rfl rfl H
    · have H := H.2 b2
      refine ev_iload_n (i := 3) rfl rfl (a_dec_at dc_Sc_total 12 rfl) ?_
      refine ev_aload_n (i := 0) rfl rfl (a_dec_at dc_Sc_total 13 rfl) ?_
      refine m_getR (y := 34) fl_Sc_11 rfl sh33 (mr_33_2 _) (by decide) (a_dec_at dc_Sc_total 14 rfl) ?_
      refine ev_iload rfl (a_dec_at dc_Sc_total 15 rfl) ?_
      obtain ⟨c3, H⟩ := H
      refine w_iald (k := v4.toNatClampNeg) sh34 c3 rfl (a_dec_at dc_Sc_total 16 rfl) ?_
      refine ev_iadd (a_dec_at dc_Sc_total 17 rfl) ?_
      refine ev_istore_n (i := 3) rfl (by decide) rfl (a_dec_at dc_Sc_total 18 rfl) ?_
      refine ev_iinc (v := 1) rfl rfl (by decide) rfl (a_dec_at dc_Sc_total 19 rfl) ?_
      refine ev_goto (tgt := 5) (a_dec_at dc_Sc_total 20 rfl) (by decide) ?_
      exact Ev.drop (L' := [.ref 33, .int v1, .int v2, .int (v3 + (mi 34 v4.toNatClampNeg)), .int (v4 + 1)]) (And.intro rfl (And.intro rfl (And.intro rfl (And.intro rfl (And.intro rfl trivial))))) H
set_option maxRecDepth 20000 in
theorem t_Sc_doAll_33_111 {l : Launch} {h : Nat} (mi : TMi) (ml : TMl) (z : Nat) {Q : Int32 → TMi → TMl → Nat → Prop} (H : Ev l (h + 1) m_Sc_doAll 2 ([.ref 33, .ref 111, .int 0], [], st mi ml z) (qI Q)) : CI l (h + 1) m_Sc_doAll [.ref 33, .ref 111] mi ml z Q := by
  show Ev l (h + 1) m_Sc_doAll 0 ([.ref 33, .ref 111, .retAddr 0], [], st mi ml z) (qI Q)
  refine ev_iconst (v := 0) rfl (a_dec_at dc_Sc_doAll 0 rfl) ?_
  refine ev_istore_n (i := 2) rfl (by decide) rfl (a_dec_at dc_Sc_doAll 1 rfl) ?_
  exact Ev.drop (L' := [.ref 33, .ref 111, .int 0]) (And.intro rfl (And.intro rfl (And.intro rfl trivial))) H
set_option maxRecDepth 20000 in
theorem t_Sc_doAll_33_111_2 {l : Launch} {h : Nat} (mi : TMi) (ml : TMl) (z : Nat) (v2 : Int32) {Q : Int32 → TMi → TMl → Nat → Prop} (H : (((mi 111 2) ≤ v2 → Q v2 mi ml z) ∧ (¬ (mi 111 2) ≤ v2 → CLg l h m_Tr_at [.ref 111, .int v2] mi ml z (fun x2 mi2 ml2 z2 => CI l h m_Sc_whyNot [.ref 33, .long x2] mi2 ml2 z2 (fun x3 mi3 ml3 z3 => ((¬ x3 = 0 → Q v2 mi3 ml3 z3) ∧ (x3 = 0 → Ev l (h + 1) m_Sc_doAll 2 ([.ref 33, .ref 111, .int (v2 + 1)], [], st mi3 ml3 z3) (qI Q)))))))) : Ev l (h + 1) m_Sc_doAll 2 ([.ref 33, .ref 111, .int v2], [], st mi ml z) (qI Q) := by
  refine ev_iload_n (i := 2) rfl rfl (a_dec_at dc_Sc_doAll 2 rfl) ?_
  refine ev_aload_n (i := 1) rfl rfl (a_dec_at dc_Sc_doAll 3 rfl) ?_
  refine m_getI fl_Sc_197 rfl sh111 (a_dec_at dc_Sc_doAll 4 rfl) ?_
  refine ev_icmp_ge (tgt := 28) (a_dec_at dc_Sc_doAll 5 rfl) (by decide) (fun b1 => ?_) (fun b1 => ?_)
  · have H := H.1 b1
    refine ev_iload_n (i := 2) rfl rfl (a_dec_at dc_Sc_doAll 14 rfl) ?_
    exact m_retI (a_dec_at dc_Sc_doAll 15 rfl) rfl rfl H
  · have H := H.2 b1
    refine ev_aload_n (i := 0) rfl rfl (a_dec_at dc_Sc_doAll 6 rfl) ?_
    refine ev_aload_n (i := 1) rfl rfl (a_dec_at dc_Sc_doAll 7 rfl) ?_
    refine ev_iload_n (i := 2) rfl rfl (a_dec_at dc_Sc_doAll 8 rfl) ?_
    refine cV1L cs_Sc_202 sh111 rfl (Nat.le_of_ble_eq_true rfl) (Nat.le_of_ble_eq_true rfl) (a_dec_at dc_Sc_doAll 9 rfl) ?_
    refine CLg.mono (fun x2 mi2 ml2 z2 H => ?_) H
    refine cV1I cs_Sc_206 sh33 rfl (Nat.le_of_ble_eq_true rfl) (Nat.le_of_ble_eq_true rfl) (a_dec_at dc_Sc_doAll 10 rfl) ?_
    refine CI.mono (fun x3 mi3 ml3 z3 H => ?_) H
    refine ev_if_ne (tgt := 28) (a_dec_at dc_Sc_doAll 11 rfl) (by decide) (fun b4 => ?_) (fun b4 => ?_)
    · have H := H.1 b4
      refine ev_iload_n (i := 2) rfl rfl (a_dec_at dc_Sc_doAll 14 rfl) ?_
      exact m_retI (a_dec_at dc_Sc_doAll 15 rfl) rfl rfl H
    · have H := H.2 b4
      refine ev_iinc (v := 1) rfl rfl (by decide) rfl (a_dec_at dc_Sc_doAll 12 rfl) ?_
      refine ev_goto (tgt := 2) (a_dec_at dc_Sc_doAll 13 rfl) (by decide) ?_
      exact Ev.drop (L' := [.ref 33, .ref 111, .int (v2 + 1)]) (And.intro rfl (And.intro rfl (And.intro rfl trivial))) H
set_option maxRecDepth 20000 in
theorem t_Sc_doAll_33_113 {l : Launch} {h : Nat} (mi : TMi) (ml : TMl) (z : Nat) {Q : Int32 → TMi → TMl → Nat → Prop} (H : Ev l (h + 1) m_Sc_doAll 2 ([.ref 33, .ref 113, .int 0], [], st mi ml z) (qI Q)) : CI l (h + 1) m_Sc_doAll [.ref 33, .ref 113] mi ml z Q := by
  show Ev l (h + 1) m_Sc_doAll 0 ([.ref 33, .ref 113, .retAddr 0], [], st mi ml z) (qI Q)
  refine ev_iconst (v := 0) rfl (a_dec_at dc_Sc_doAll 0 rfl) ?_
  refine ev_istore_n (i := 2) rfl (by decide) rfl (a_dec_at dc_Sc_doAll 1 rfl) ?_
  exact Ev.drop (L' := [.ref 33, .ref 113, .int 0]) (And.intro rfl (And.intro rfl (And.intro rfl trivial))) H
set_option maxRecDepth 20000 in
theorem t_Sc_doAll_33_113_2 {l : Launch} {h : Nat} (mi : TMi) (ml : TMl) (z : Nat) (v2 : Int32) {Q : Int32 → TMi → TMl → Nat → Prop} (H : (((mi 113 2) ≤ v2 → Q v2 mi ml z) ∧ (¬ (mi 113 2) ≤ v2 → CLg l h m_Tr_at [.ref 113, .int v2] mi ml z (fun x2 mi2 ml2 z2 => CI l h m_Sc_whyNot [.ref 33, .long x2] mi2 ml2 z2 (fun x3 mi3 ml3 z3 => ((¬ x3 = 0 → Q v2 mi3 ml3 z3) ∧ (x3 = 0 → Ev l (h + 1) m_Sc_doAll 2 ([.ref 33, .ref 113, .int (v2 + 1)], [], st mi3 ml3 z3) (qI Q)))))))) : Ev l (h + 1) m_Sc_doAll 2 ([.ref 33, .ref 113, .int v2], [], st mi ml z) (qI Q) := by
  refine ev_iload_n (i := 2) rfl rfl (a_dec_at dc_Sc_doAll 2 rfl) ?_
  refine ev_aload_n (i := 1) rfl rfl (a_dec_at dc_Sc_doAll 3 rfl) ?_
  refine m_getI fl_Sc_197 rfl sh113 (a_dec_at dc_Sc_doAll 4 rfl) ?_
  refine ev_icmp_ge (tgt := 28) (a_dec_at dc_Sc_doAll 5 rfl) (by decide) (fun b1 => ?_) (fun b1 => ?_)
  · have H := H.1 b1
    refine ev_iload_n (i := 2) rfl rfl (a_dec_at dc_Sc_doAll 14 rfl) ?_
    exact m_retI (a_dec_at dc_Sc_doAll 15 rfl) rfl rfl H
  · have H := H.2 b1
    refine ev_aload_n (i := 0) rfl rfl (a_dec_at dc_Sc_doAll 6 rfl) ?_
    refine ev_aload_n (i := 1) rfl rfl (a_dec_at dc_Sc_doAll 7 rfl) ?_
    refine ev_iload_n (i := 2) rfl rfl (a_dec_at dc_Sc_doAll 8 rfl) ?_
    refine cV1L cs_Sc_202 sh113 rfl (Nat.le_of_ble_eq_true rfl) (Nat.le_of_ble_eq_true rfl) (a_dec_at dc_Sc_doAll 9 rfl) ?_
    refine CLg.mono (fun x2 mi2 ml2 z2 H => ?_) H
    refine cV1I cs_Sc_206 sh33 rfl (Nat.le_of_ble_eq_true rfl) (Nat.le_of_ble_eq_true rfl) (a_dec_at dc_Sc_doAll 10 rfl) ?_
    refine CI.mono (fun x3 mi3 ml3 z3 H => ?_) H
    refine ev_if_ne (tgt := 28) (a_dec_at dc_Sc_doAll 11 rfl) (by decide) (fun b4 => ?_) (fun b4 => ?_)
    · have H := H.1 b4
      refine ev_iload_n (i := 2) rfl rfl (a_dec_at dc_Sc_doAll 14 rfl) ?_
      exact m_retI (a_dec_at dc_Sc_doAll 15 rfl) rfl rfl H
    · have H := H.2 b4
      refine ev_iinc (v := 1) rfl rfl (by decide) rfl (a_dec_at dc_Sc_doAll 12 rfl) ?_
      refine ev_goto (tgt := 2) (a_dec_at dc_Sc_doAll 13 rfl) (by decide) ?_
      exact Ev.drop (L' := [.ref 33, .ref 113, .int (v2 + 1)]) (And.intro rfl (And.intro rfl (And.intro rfl trivial))) H
set_option maxRecDepth 20000 in
theorem t_Sc_doAll_33_115 {l : Launch} {h : Nat} (mi : TMi) (ml : TMl) (z : Nat) {Q : Int32 → TMi → TMl → Nat → Prop} (H : Ev l (h + 1) m_Sc_doAll 2 ([.ref 33, .ref 115, .int 0], [], st mi ml z) (qI Q)) : CI l (h + 1) m_Sc_doAll [.ref 33, .ref 115] mi ml z Q := by
  show Ev l (h + 1) m_Sc_doAll 0 ([.ref 33, .ref 115, .retAddr 0], [], st mi ml z) (qI Q)
  refine ev_iconst (v := 0) rfl (a_dec_at dc_Sc_doAll 0 rfl) ?_
  refine ev_istore_n (i := 2) rfl (by decide) rfl (a_dec_at dc_Sc_doAll 1 rfl) ?_
  exact Ev.drop (L' := [.ref 33, .ref 115, .int 0]) (And.intro rfl (And.intro rfl (And.intro rfl trivial))) H
set_option maxRecDepth 20000 in
theorem t_Sc_doAll_33_115_2 {l : Launch} {h : Nat} (mi : TMi) (ml : TMl) (z : Nat) (v2 : Int32) {Q : Int32 → TMi → TMl → Nat → Prop} (H : (((mi 115 2) ≤ v2 → Q v2 mi ml z) ∧ (¬ (mi 115 2) ≤ v2 → CLg l h m_Tr_at [.ref 115, .int v2] mi ml z (fun x2 mi2 ml2 z2 => CI l h m_Sc_whyNot [.ref 33, .long x2] mi2 ml2 z2 (fun x3 mi3 ml3 z3 => ((¬ x3 = 0 → Q v2 mi3 ml3 z3) ∧ (x3 = 0 → Ev l (h + 1) m_Sc_doAll 2 ([.ref 33, .ref 115, .int (v2 + 1)], [], st mi3 ml3 z3) (qI Q)))))))) : Ev l (h + 1) m_Sc_doAll 2 ([.ref 33, .ref 115, .int v2], [], st mi ml z) (qI Q) := by
  refine ev_iload_n (i := 2) rfl rfl (a_dec_at dc_Sc_doAll 2 rfl) ?_
  refine ev_aload_n (i := 1) rfl rfl (a_dec_at dc_Sc_doAll 3 rfl) ?_
  refine m_getI fl_Sc_197 rfl sh115 (a_dec_at dc_Sc_doAll 4 rfl) ?_
  refine ev_icmp_ge (tgt := 28) (a_dec_at dc_Sc_doAll 5 rfl) (by decide) (fun b1 => ?_) (fun b1 => ?_)
  · have H := H.1 b1
    refine ev_iload_n (i := 2) rfl rfl (a_dec_at dc_Sc_doAll 14 rfl) ?_
    exact m_retI (a_dec_at dc_Sc_doAll 15 rfl) rfl rfl H
  · have H := H.2 b1
    refine ev_aload_n (i := 0) rfl rfl (a_dec_at dc_Sc_doAll 6 rfl) ?_
    refine ev_aload_n (i := 1) rfl rfl (a_dec_at dc_Sc_doAll 7 rfl) ?_
    refine ev_iload_n (i := 2) rfl rfl (a_dec_at dc_Sc_doAll 8 rfl) ?_
    refine cV1L cs_Sc_202 sh115 rfl (Nat.le_of_ble_eq_true rfl) (Nat.le_of_ble_eq_true rfl) (a_dec_at dc_Sc_doAll 9 rfl) ?_
    refine CLg.mono (fun x2 mi2 ml2 z2 H => ?_) H
    refine cV1I cs_Sc_206 sh33 rfl (Nat.le_of_ble_eq_true rfl) (Nat.le_of_ble_eq_true rfl) (a_dec_at dc_Sc_doAll 10 rfl) ?_
    refine CI.mono (fun x3 mi3 ml3 z3 H => ?_) H
    refine ev_if_ne (tgt := 28) (a_dec_at dc_Sc_doAll 11 rfl) (by decide) (fun b4 => ?_) (fun b4 => ?_)
    · have H := H.1 b4
      refine ev_iload_n (i := 2) rfl rfl (a_dec_at dc_Sc_doAll 14 rfl) ?_
      exact m_retI (a_dec_at dc_Sc_doAll 15 rfl) rfl rfl H
    · have H := H.2 b4
      refine ev_iinc (v := 1) rfl rfl (by decide) rfl (a_dec_at dc_Sc_doAll 12 rfl) ?_
      refine ev_goto (tgt := 2) (a_dec_at dc_Sc_doAll 13 rfl) (by decide) ?_
      exact Ev.drop (L' := [.ref 33, .ref 115, .int (v2 + 1)]) (And.intro rfl (And.intro rfl (And.intro rfl trivial))) H
set_option maxRecDepth 20000 in
theorem t_Sc_doAll_33_117 {l : Launch} {h : Nat} (mi : TMi) (ml : TMl) (z : Nat) {Q : Int32 → TMi → TMl → Nat → Prop} (H : Ev l (h + 1) m_Sc_doAll 2 ([.ref 33, .ref 117, .int 0], [], st mi ml z) (qI Q)) : CI l (h + 1) m_Sc_doAll [.ref 33, .ref 117] mi ml z Q := by
  show Ev l (h + 1) m_Sc_doAll 0 ([.ref 33, .ref 117, .retAddr 0], [], st mi ml z) (qI Q)
  refine ev_iconst (v := 0) rfl (a_dec_at dc_Sc_doAll 0 rfl) ?_
  refine ev_istore_n (i := 2) rfl (by decide) rfl (a_dec_at dc_Sc_doAll 1 rfl) ?_
  exact Ev.drop (L' := [.ref 33, .ref 117, .int 0]) (And.intro rfl (And.intro rfl (And.intro rfl trivial))) H
set_option maxRecDepth 20000 in
theorem t_Sc_doAll_33_117_2 {l : Launch} {h : Nat} (mi : TMi) (ml : TMl) (z : Nat) (v2 : Int32) {Q : Int32 → TMi → TMl → Nat → Prop} (H : (((mi 117 2) ≤ v2 → Q v2 mi ml z) ∧ (¬ (mi 117 2) ≤ v2 → CLg l h m_Tr_at [.ref 117, .int v2] mi ml z (fun x2 mi2 ml2 z2 => CI l h m_Sc_whyNot [.ref 33, .long x2] mi2 ml2 z2 (fun x3 mi3 ml3 z3 => ((¬ x3 = 0 → Q v2 mi3 ml3 z3) ∧ (x3 = 0 → Ev l (h + 1) m_Sc_doAll 2 ([.ref 33, .ref 117, .int (v2 + 1)], [], st mi3 ml3 z3) (qI Q)))))))) : Ev l (h + 1) m_Sc_doAll 2 ([.ref 33, .ref 117, .int v2], [], st mi ml z) (qI Q) := by
  refine ev_iload_n (i := 2) rfl rfl (a_dec_at dc_Sc_doAll 2 rfl) ?_
  refine ev_aload_n (i := 1) rfl rfl (a_dec_at dc_Sc_doAll 3 rfl) ?_
  refine m_getI fl_Sc_197 rfl sh117 (a_dec_at dc_Sc_doAll 4 rfl) ?_
  refine ev_icmp_ge (tgt := 28) (a_dec_at dc_Sc_doAll 5 rfl) (by decide) (fun b1 => ?_) (fun b1 => ?_)
  · have H := H.1 b1
    refine ev_iload_n (i := 2) rfl rfl (a_dec_at dc_Sc_doAll 14 rfl) ?_
    exact m_retI (a_dec_at dc_Sc_doAll 15 rfl) rfl rfl H
  · have H := H.2 b1
    refine ev_aload_n (i := 0) rfl rfl (a_dec_at dc_Sc_doAll 6 rfl) ?_
    refine ev_aload_n (i := 1) rfl rfl (a_dec_at dc_Sc_doAll 7 rfl) ?_
    refine ev_iload_n (i := 2) rfl rfl (a_dec_at dc_Sc_doAll 8 rfl) ?_
    refine cV1L cs_Sc_202 sh117 rfl (Nat.le_of_ble_eq_true rfl) (Nat.le_of_ble_eq_true rfl) (a_dec_at dc_Sc_doAll 9 rfl) ?_
    refine CLg.mono (fun x2 mi2 ml2 z2 H => ?_) H
    refine cV1I cs_Sc_206 sh33 rfl (Nat.le_of_ble_eq_true rfl) (Nat.le_of_ble_eq_true rfl) (a_dec_at dc_Sc_doAll 10 rfl) ?_
    refine CI.mono (fun x3 mi3 ml3 z3 H => ?_) H
    refine ev_if_ne (tgt := 28) (a_dec_at dc_Sc_doAll 11 rfl) (by decide) (fun b4 => ?_) (fun b4 => ?_)
    · have H := H.1 b4
      refine ev_iload_n (i := 2) rfl rfl (a_dec_at dc_Sc_doAll 14 rfl) ?_
      exact m_retI (a_dec_at dc_Sc_doAll 15 rfl) rfl rfl H
    · have H := H.2 b4
      refine ev_iinc (v := 1) rfl rfl (by decide) rfl (a_dec_at dc_Sc_doAll 12 rfl) ?_
      refine ev_goto (tgt := 2) (a_dec_at dc_Sc_doAll 13 rfl) (by decide) ?_
      exact Ev.drop (L' := [.ref 33, .ref 117, .int (v2 + 1)]) (And.intro rfl (And.intro rfl (And.intro rfl trivial))) H
set_option maxRecDepth 20000 in
theorem t_Sc_copyFrom_33_17 {l : Launch} {h : Nat} (mi : TMi) (ml : TMl) (z : Nat) {Q : TMi → TMl → Nat → Prop} (H : Q (cpF (cpF (cpF (cpF (cpF (cpF mi 27 34 0 0 40) 28 35 0 0 24) 29 36 0 0 24) 30 37 0 0 24) 31 38 0 0 24) 32 39 0 0 6) ml z) : CV l (h + 1) m_Sc_copyFrom [.ref 33, .ref 17] mi ml z Q := by
  show Ev l (h + 1) m_Sc_copyFrom 0 ([.ref 33, .ref 17], [], st mi ml z) (qV Q)
  refine ev_aload_n (i := 1) rfl rfl (a_dec_at dc_Sc_copyFrom 0 rfl) ?_
  refine m_getR (y := 27) fl_Sc_11 rfl sh17 (mr_17_2 _) (by decide) (a_dec_at dc_Sc_copyFrom 1 rfl) ?_
  refine ev_iconst (v := 0) rfl (a_dec_at dc_Sc_copyFrom 2 rfl) ?_
  refine ev_aload_n (i := 0) rfl rfl (a_dec_at dc_Sc_copyFrom 3 rfl) ?_
  refine m_getR (y := 34) fl_Sc_11 rfl sh33 (mr_33_2 _) (by decide) (a_dec_at dc_Sc_copyFrom 4 rfl) ?_
  refine ev_iconst (v := 0) rfl (a_dec_at dc_Sc_copyFrom 5 rfl) ?_
  refine ev_bipush (v := 40) rfl (a_dec_at dc_Sc_copyFrom 6 rfl) ?_
  refine w_copy (ks := 0) (kd := 0) (kn := 40) cs_Sc_56 sh27 sh34 (by decide) (by decide) (by decide) (by decide) (Nat.le_of_ble_eq_true rfl) (a_dec_at dc_Sc_copyFrom 7 rfl) ?_
  refine ev_aload_n (i := 1) rfl rfl (a_dec_at dc_Sc_copyFrom 8 rfl) ?_
  refine m_getR (y := 28) fl_Sc_15 rfl sh17 (mr_17_3 _) (by decide) (a_dec_at dc_Sc_copyFrom 9 rfl) ?_
  refine ev_iconst (v := 0) rfl (a_dec_at dc_Sc_copyFrom 10 rfl) ?_
  refine ev_aload_n (i := 0) rfl rfl (a_dec_at dc_Sc_copyFrom 11 rfl) ?_
  refine m_getR (y := 35) fl_Sc_15 rfl sh33 (mr_33_3 _) (by decide) (a_dec_at dc_Sc_copyFrom 12 rfl) ?_
  refine ev_iconst (v := 0) rfl (a_dec_at dc_Sc_copyFrom 13 rfl) ?_
  refine ev_bipush (v := 24) rfl (a_dec_at dc_Sc_copyFrom 14 rfl) ?_
  refine w_copy (ks := 0) (kd := 0) (kn := 24) cs_Sc_56 sh28 sh35 (by decide) (by decide) (by decide) (by decide) (Nat.le_of_ble_eq_true rfl) (a_dec_at dc_Sc_copyFrom 15 rfl) ?_
  refine ev_aload_n (i := 1) rfl rfl (a_dec_at dc_Sc_copyFrom 16 rfl) ?_
  refine m_getR (y := 29) fl_Sc_18 rfl sh17 (mr_17_4 _) (by decide) (a_dec_at dc_Sc_copyFrom 17 rfl) ?_
  refine ev_iconst (v := 0) rfl (a_dec_at dc_Sc_copyFrom 18 rfl) ?_
  refine ev_aload_n (i := 0) rfl rfl (a_dec_at dc_Sc_copyFrom 19 rfl) ?_
  refine m_getR (y := 36) fl_Sc_18 rfl sh33 (mr_33_4 _) (by decide) (a_dec_at dc_Sc_copyFrom 20 rfl) ?_
  refine ev_iconst (v := 0) rfl (a_dec_at dc_Sc_copyFrom 21 rfl) ?_
  refine ev_bipush (v := 24) rfl (a_dec_at dc_Sc_copyFrom 22 rfl) ?_
  refine w_copy (ks := 0) (kd := 0) (kn := 24) cs_Sc_56 sh29 sh36 (by decide) (by decide) (by decide) (by decide) (Nat.le_of_ble_eq_true rfl) (a_dec_at dc_Sc_copyFrom 23 rfl) ?_
  refine ev_aload_n (i := 1) rfl rfl (a_dec_at dc_Sc_copyFrom 24 rfl) ?_
  refine m_getR (y := 30) fl_Sc_21 rfl sh17 (mr_17_5 _) (by decide) (a_dec_at dc_Sc_copyFrom 25 rfl) ?_
  refine ev_iconst (v := 0) rfl (a_dec_at dc_Sc_copyFrom 26 rfl) ?_
  refine ev_aload_n (i := 0) rfl rfl (a_dec_at dc_Sc_copyFrom 27 rfl) ?_
  refine m_getR (y := 37) fl_Sc_21 rfl sh33 (mr_33_5 _) (by decide) (a_dec_at dc_Sc_copyFrom 28 rfl) ?_
  refine ev_iconst (v := 0) rfl (a_dec_at dc_Sc_copyFrom 29 rfl) ?_
  refine ev_bipush (v := 24) rfl (a_dec_at dc_Sc_copyFrom 30 rfl) ?_
  refine w_copy (ks := 0) (kd := 0) (kn := 24) cs_Sc_56 sh30 sh37 (by decide) (by decide) (by decide) (by decide) (Nat.le_of_ble_eq_true rfl) (a_dec_at dc_Sc_copyFrom 31 rfl) ?_
  refine ev_aload_n (i := 1) rfl rfl (a_dec_at dc_Sc_copyFrom 32 rfl) ?_
  refine m_getR (y := 31) fl_Sc_24 rfl sh17 (mr_17_6 _) (by decide) (a_dec_at dc_Sc_copyFrom 33 rfl) ?_
  refine ev_iconst (v := 0) rfl (a_dec_at dc_Sc_copyFrom 34 rfl) ?_
  refine ev_aload_n (i := 0) rfl rfl (a_dec_at dc_Sc_copyFrom 35 rfl) ?_
  refine m_getR (y := 38) fl_Sc_24 rfl sh33 (mr_33_6 _) (by decide) (a_dec_at dc_Sc_copyFrom 36 rfl) ?_
  refine ev_iconst (v := 0) rfl (a_dec_at dc_Sc_copyFrom 37 rfl) ?_
  refine ev_bipush (v := 24) rfl (a_dec_at dc_Sc_copyFrom 38 rfl) ?_
  refine w_copy (ks := 0) (kd := 0) (kn := 24) cs_Sc_56 sh31 sh38 (by decide) (by decide) (by decide) (by decide) (Nat.le_of_ble_eq_true rfl) (a_dec_at dc_Sc_copyFrom 39 rfl) ?_
  refine ev_aload_n (i := 1) rfl rfl (a_dec_at dc_Sc_copyFrom 40 rfl) ?_
  refine m_getR (y := 32) fl_Sc_27 rfl sh17 (mr_17_7 _) (by decide) (a_dec_at dc_Sc_copyFrom 41 rfl) ?_
  refine ev_iconst (v := 0) rfl (a_dec_at dc_Sc_copyFrom 42 rfl) ?_
  refine ev_aload_n (i := 0) rfl rfl (a_dec_at dc_Sc_copyFrom 43 rfl) ?_
  refine m_getR (y := 39) fl_Sc_27 rfl sh33 (mr_33_7 _) (by decide) (a_dec_at dc_Sc_copyFrom 44 rfl) ?_
  refine ev_iconst (v := 0) rfl (a_dec_at dc_Sc_copyFrom 45 rfl) ?_
  refine ev_bipush (v := 6) rfl (a_dec_at dc_Sc_copyFrom 46 rfl) ?_
  refine w_copy (ks := 0) (kd := 0) (kn := 6) cs_Sc_56 sh32 sh39 (by decide) (by decide) (by decide) (by decide) (Nat.le_of_ble_eq_true rfl) (a_dec_at dc_Sc_copyFrom 47 rfl) ?_
  exact m_retV (a_dec_at dc_Sc_copyFrom 48 rfl) rfl H
set_option maxRecDepth 20000 in
theorem t_Sc_copyFrom_79_17 {l : Launch} {h : Nat} (mi : TMi) (ml : TMl) (z : Nat) {Q : TMi → TMl → Nat → Prop} (H : Q (cpF (cpF (cpF (cpF (cpF (cpF mi 27 89 0 0 40) 28 90 0 0 24) 29 91 0 0 24) 30 92 0 0 24) 31 93 0 0 24) 32 94 0 0 6) ml z) : CV l (h + 1) m_Sc_copyFrom [.ref 79, .ref 17] mi ml z Q := by
  show Ev l (h + 1) m_Sc_copyFrom 0 ([.ref 79, .ref 17], [], st mi ml z) (qV Q)
  refine ev_aload_n (i := 1) rfl rfl (a_dec_at dc_Sc_copyFrom 0 rfl) ?_
  refine m_getR (y := 27) fl_Sc_11 rfl sh17 (mr_17_2 _) (by decide) (a_dec_at dc_Sc_copyFrom 1 rfl) ?_
  refine ev_iconst (v := 0) rfl (a_dec_at dc_Sc_copyFrom 2 rfl) ?_
  refine ev_aload_n (i := 0) rfl rfl (a_dec_at dc_Sc_copyFrom 3 rfl) ?_
  refine m_getR (y := 89) fl_Sc_11 rfl sh79 (mr_79_2 _) (by decide) (a_dec_at dc_Sc_copyFrom 4 rfl) ?_
  refine ev_iconst (v := 0) rfl (a_dec_at dc_Sc_copyFrom 5 rfl) ?_
  refine ev_bipush (v := 40) rfl (a_dec_at dc_Sc_copyFrom 6 rfl) ?_
  refine w_copy (ks := 0) (kd := 0) (kn := 40) cs_Sc_56 sh27 sh89 (by decide) (by decide) (by decide) (by decide) (Nat.le_of_ble_eq_true rfl) (a_dec_at dc_Sc_copyFrom 7 rfl) ?_
  refine ev_aload_n (i := 1) rfl rfl (a_dec_at dc_Sc_copyFrom 8 rfl) ?_
  refine m_getR (y := 28) fl_Sc_15 rfl sh17 (mr_17_3 _) (by decide) (a_dec_at dc_Sc_copyFrom 9 rfl) ?_
  refine ev_iconst (v := 0) rfl (a_dec_at dc_Sc_copyFrom 10 rfl) ?_
  refine ev_aload_n (i := 0) rfl rfl (a_dec_at dc_Sc_copyFrom 11 rfl) ?_
  refine m_getR (y := 90) fl_Sc_15 rfl sh79 (mr_79_3 _) (by decide) (a_dec_at dc_Sc_copyFrom 12 rfl) ?_
  refine ev_iconst (v := 0) rfl (a_dec_at dc_Sc_copyFrom 13 rfl) ?_
  refine ev_bipush (v := 24) rfl (a_dec_at dc_Sc_copyFrom 14 rfl) ?_
  refine w_copy (ks := 0) (kd := 0) (kn := 24) cs_Sc_56 sh28 sh90 (by decide) (by decide) (by decide) (by decide) (Nat.le_of_ble_eq_true rfl) (a_dec_at dc_Sc_copyFrom 15 rfl) ?_
  refine ev_aload_n (i := 1) rfl rfl (a_dec_at dc_Sc_copyFrom 16 rfl) ?_
  refine m_getR (y := 29) fl_Sc_18 rfl sh17 (mr_17_4 _) (by decide) (a_dec_at dc_Sc_copyFrom 17 rfl) ?_
  refine ev_iconst (v := 0) rfl (a_dec_at dc_Sc_copyFrom 18 rfl) ?_
  refine ev_aload_n (i := 0) rfl rfl (a_dec_at dc_Sc_copyFrom 19 rfl) ?_
  refine m_getR (y := 91) fl_Sc_18 rfl sh79 (mr_79_4 _) (by decide) (a_dec_at dc_Sc_copyFrom 20 rfl) ?_
  refine ev_iconst (v := 0) rfl (a_dec_at dc_Sc_copyFrom 21 rfl) ?_
  refine ev_bipush (v := 24) rfl (a_dec_at dc_Sc_copyFrom 22 rfl) ?_
  refine w_copy (ks := 0) (kd := 0) (kn := 24) cs_Sc_56 sh29 sh91 (by decide) (by decide) (by decide) (by decide) (Nat.le_of_ble_eq_true rfl) (a_dec_at dc_Sc_copyFrom 23 rfl) ?_
  refine ev_aload_n (i := 1) rfl rfl (a_dec_at dc_Sc_copyFrom 24 rfl) ?_
  refine m_getR (y := 30) fl_Sc_21 rfl sh17 (mr_17_5 _) (by decide) (a_dec_at dc_Sc_copyFrom 25 rfl) ?_
  refine ev_iconst (v := 0) rfl (a_dec_at dc_Sc_copyFrom 26 rfl) ?_
  refine ev_aload_n (i := 0) rfl rfl (a_dec_at dc_Sc_copyFrom 27 rfl) ?_
  refine m_getR (y := 92) fl_Sc_21 rfl sh79 (mr_79_5 _) (by decide) (a_dec_at dc_Sc_copyFrom 28 rfl) ?_
  refine ev_iconst (v := 0) rfl (a_dec_at dc_Sc_copyFrom 29 rfl) ?_
  refine ev_bipush (v := 24) rfl (a_dec_at dc_Sc_copyFrom 30 rfl) ?_
  refine w_copy (ks := 0) (kd := 0) (kn := 24) cs_Sc_56 sh30 sh92 (by decide) (by decide) (by decide) (by decide) (Nat.le_of_ble_eq_true rfl) (a_dec_at dc_Sc_copyFrom 31 rfl) ?_
  refine ev_aload_n (i := 1) rfl rfl (a_dec_at dc_Sc_copyFrom 32 rfl) ?_
  refine m_getR (y := 31) fl_Sc_24 rfl sh17 (mr_17_6 _) (by decide) (a_dec_at dc_Sc_copyFrom 33 rfl) ?_
  refine ev_iconst (v := 0) rfl (a_dec_at dc_Sc_copyFrom 34 rfl) ?_
  refine ev_aload_n (i := 0) rfl rfl (a_dec_at dc_Sc_copyFrom 35 rfl) ?_
  refine m_getR (y := 93) fl_Sc_24 rfl sh79 (mr_79_6 _) (by decide) (a_dec_at dc_Sc_copyFrom 36 rfl) ?_
  refine ev_iconst (v := 0) rfl (a_dec_at dc_Sc_copyFrom 37 rfl) ?_
  refine ev_bipush (v := 24) rfl (a_dec_at dc_Sc_copyFrom 38 rfl) ?_
  refine w_copy (ks := 0) (kd := 0) (kn := 24) cs_Sc_56 sh31 sh93 (by decide) (by decide) (by decide) (by decide) (Nat.le_of_ble_eq_true rfl) (a_dec_at dc_Sc_copyFrom 39 rfl) ?_
  refine ev_aload_n (i := 1) rfl rfl (a_dec_at dc_Sc_copyFrom 40 rfl) ?_
  refine m_getR (y := 32) fl_Sc_27 rfl sh17 (mr_17_7 _) (by decide) (a_dec_at dc_Sc_copyFrom 41 rfl) ?_
  refine ev_iconst (v := 0) rfl (a_dec_at dc_Sc_copyFrom 42 rfl) ?_
  refine ev_aload_n (i := 0) rfl rfl (a_dec_at dc_Sc_copyFrom 43 rfl) ?_
  refine m_getR (y := 94) fl_Sc_27 rfl sh79 (mr_79_7 _) (by decide) (a_dec_at dc_Sc_copyFrom 44 rfl) ?_
  refine ev_iconst (v := 0) rfl (a_dec_at dc_Sc_copyFrom 45 rfl) ?_
  refine ev_bipush (v := 6) rfl (a_dec_at dc_Sc_copyFrom 46 rfl) ?_
  refine w_copy (ks := 0) (kd := 0) (kn := 6) cs_Sc_56 sh32 sh94 (by decide) (by decide) (by decide) (by decide) (Nat.le_of_ble_eq_true rfl) (a_dec_at dc_Sc_copyFrom 47 rfl) ?_
  exact m_retV (a_dec_at dc_Sc_copyFrom 48 rfl) rfl H
set_option maxRecDepth 20000 in
theorem t_Sc_copyFrom_95_17 {l : Launch} {h : Nat} (mi : TMi) (ml : TMl) (z : Nat) {Q : TMi → TMl → Nat → Prop} (H : Q (cpF (cpF (cpF (cpF (cpF (cpF mi 27 105 0 0 40) 28 106 0 0 24) 29 107 0 0 24) 30 108 0 0 24) 31 109 0 0 24) 32 110 0 0 6) ml z) : CV l (h + 1) m_Sc_copyFrom [.ref 95, .ref 17] mi ml z Q := by
  show Ev l (h + 1) m_Sc_copyFrom 0 ([.ref 95, .ref 17], [], st mi ml z) (qV Q)
  refine ev_aload_n (i := 1) rfl rfl (a_dec_at dc_Sc_copyFrom 0 rfl) ?_
  refine m_getR (y := 27) fl_Sc_11 rfl sh17 (mr_17_2 _) (by decide) (a_dec_at dc_Sc_copyFrom 1 rfl) ?_
  refine ev_iconst (v := 0) rfl (a_dec_at dc_Sc_copyFrom 2 rfl) ?_
  refine ev_aload_n (i := 0) rfl rfl (a_dec_at dc_Sc_copyFrom 3 rfl) ?_
  refine m_getR (y := 105) fl_Sc_11 rfl sh95 (mr_95_2 _) (by decide) (a_dec_at dc_Sc_copyFrom 4 rfl) ?_
  refine ev_iconst (v := 0) rfl (a_dec_at dc_Sc_copyFrom 5 rfl) ?_
  refine ev_bipush (v := 40) rfl (a_dec_at dc_Sc_copyFrom 6 rfl) ?_
  refine w_copy (ks := 0) (kd := 0) (kn := 40) cs_Sc_56 sh27 sh105 (by decide) (by decide) (by decide) (by decide) (Nat.le_of_ble_eq_true rfl) (a_dec_at dc_Sc_copyFrom 7 rfl) ?_
  refine ev_aload_n (i := 1) rfl rfl (a_dec_at dc_Sc_copyFrom 8 rfl) ?_
  refine m_getR (y := 28) fl_Sc_15 rfl sh17 (mr_17_3 _) (by decide) (a_dec_at dc_Sc_copyFrom 9 rfl) ?_
  refine ev_iconst (v := 0) rfl (a_dec_at dc_Sc_copyFrom 10 rfl) ?_
  refine ev_aload_n (i := 0) rfl rfl (a_dec_at dc_Sc_copyFrom 11 rfl) ?_
  refine m_getR (y := 106) fl_Sc_15 rfl sh95 (mr_95_3 _) (by decide) (a_dec_at dc_Sc_copyFrom 12 rfl) ?_
  refine ev_iconst (v := 0) rfl (a_dec_at dc_Sc_copyFrom 13 rfl) ?_
  refine ev_bipush (v := 24) rfl (a_dec_at dc_Sc_copyFrom 14 rfl) ?_
  refine w_copy (ks := 0) (kd := 0) (kn := 24) cs_Sc_56 sh28 sh106 (by decide) (by decide) (by decide) (by decide) (Nat.le_of_ble_eq_true rfl) (a_dec_at dc_Sc_copyFrom 15 rfl) ?_
  refine ev_aload_n (i := 1) rfl rfl (a_dec_at dc_Sc_copyFrom 16 rfl) ?_
  refine m_getR (y := 29) fl_Sc_18 rfl sh17 (mr_17_4 _) (by decide) (a_dec_at dc_Sc_copyFrom 17 rfl) ?_
  refine ev_iconst (v := 0) rfl (a_dec_at dc_Sc_copyFrom 18 rfl) ?_
  refine ev_aload_n (i := 0) rfl rfl (a_dec_at dc_Sc_copyFrom 19 rfl) ?_
  refine m_getR (y := 107) fl_Sc_18 rfl sh95 (mr_95_4 _) (by decide) (a_dec_at dc_Sc_copyFrom 20 rfl) ?_
  refine ev_iconst (v := 0) rfl (a_dec_at dc_Sc_copyFrom 21 rfl) ?_
  refine ev_bipush (v := 24) rfl (a_dec_at dc_Sc_copyFrom 22 rfl) ?_
  refine w_copy (ks := 0) (kd := 0) (kn := 24) cs_Sc_56 sh29 sh107 (by decide) (by decide) (by decide) (by decide) (Nat.le_of_ble_eq_true rfl) (a_dec_at dc_Sc_copyFrom 23 rfl) ?_
  refine ev_aload_n (i := 1) rfl rfl (a_dec_at dc_Sc_copyFrom 24 rfl) ?_
  refine m_getR (y := 30) fl_Sc_21 rfl sh17 (mr_17_5 _) (by decide) (a_dec_at dc_Sc_copyFrom 25 rfl) ?_
  refine ev_iconst (v := 0) rfl (a_dec_at dc_Sc_copyFrom 26 rfl) ?_
  refine ev_aload_n (i := 0) rfl rfl (a_dec_at dc_Sc_copyFrom 27 rfl) ?_
  refine m_getR (y := 108) fl_Sc_21 rfl sh95 (mr_95_5 _) (by decide) (a_dec_at dc_Sc_copyFrom 28 rfl) ?_
  refine ev_iconst (v := 0) rfl (a_dec_at dc_Sc_copyFrom 29 rfl) ?_
  refine ev_bipush (v := 24) rfl (a_dec_at dc_Sc_copyFrom 30 rfl) ?_
  refine w_copy (ks := 0) (kd := 0) (kn := 24) cs_Sc_56 sh30 sh108 (by decide) (by decide) (by decide) (by decide) (Nat.le_of_ble_eq_true rfl) (a_dec_at dc_Sc_copyFrom 31 rfl) ?_
  refine ev_aload_n (i := 1) rfl rfl (a_dec_at dc_Sc_copyFrom 32 rfl) ?_
  refine m_getR (y := 31) fl_Sc_24 rfl sh17 (mr_17_6 _) (by decide) (a_dec_at dc_Sc_copyFrom 33 rfl) ?_
  refine ev_iconst (v := 0) rfl (a_dec_at dc_Sc_copyFrom 34 rfl) ?_
  refine ev_aload_n (i := 0) rfl rfl (a_dec_at dc_Sc_copyFrom 35 rfl) ?_
  refine m_getR (y := 109) fl_Sc_24 rfl sh95 (mr_95_6 _) (by decide) (a_dec_at dc_Sc_copyFrom 36 rfl) ?_
  refine ev_iconst (v := 0) rfl (a_dec_at dc_Sc_copyFrom 37 rfl) ?_
  refine ev_bipush (v := 24) rfl (a_dec_at dc_Sc_copyFrom 38 rfl) ?_
  refine w_copy (ks := 0) (kd := 0) (kn := 24) cs_Sc_56 sh31 sh109 (by decide) (by decide) (by decide) (by decide) (Nat.le_of_ble_eq_true rfl) (a_dec_at dc_Sc_copyFrom 39 rfl) ?_
  refine ev_aload_n (i := 1) rfl rfl (a_dec_at dc_Sc_copyFrom 40 rfl) ?_
  refine m_getR (y := 32) fl_Sc_27 rfl sh17 (mr_17_7 _) (by decide) (a_dec_at dc_Sc_copyFrom 41 rfl) ?_
  refine ev_iconst (v := 0) rfl (a_dec_at dc_Sc_copyFrom 42 rfl) ?_
  refine ev_aload_n (i := 0) rfl rfl (a_dec_at dc_Sc_copyFrom 43 rfl) ?_
  refine m_getR (y := 110) fl_Sc_27 rfl sh95 (mr_95_7 _) (by decide) (a_dec_at dc_Sc_copyFrom 44 rfl) ?_
  refine ev_iconst (v := 0) rfl (a_dec_at dc_Sc_copyFrom 45 rfl) ?_
  refine ev_bipush (v := 6) rfl (a_dec_at dc_Sc_copyFrom 46 rfl) ?_
  refine w_copy (ks := 0) (kd := 0) (kn := 6) cs_Sc_56 sh32 sh110 (by decide) (by decide) (by decide) (by decide) (Nat.le_of_ble_eq_true rfl) (a_dec_at dc_Sc_copyFrom 47 rfl) ?_
  exact m_retV (a_dec_at dc_Sc_copyFrom 48 rfl) rfl H
set_option maxRecDepth 20000 in
theorem t_Sc_copyFrom_17_79 {l : Launch} {h : Nat} (mi : TMi) (ml : TMl) (z : Nat) {Q : TMi → TMl → Nat → Prop} (H : Q (cpF (cpF (cpF (cpF (cpF (cpF mi 89 27 0 0 40) 90 28 0 0 24) 91 29 0 0 24) 92 30 0 0 24) 93 31 0 0 24) 94 32 0 0 6) ml z) : CV l (h + 1) m_Sc_copyFrom [.ref 17, .ref 79] mi ml z Q := by
  show Ev l (h + 1) m_Sc_copyFrom 0 ([.ref 17, .ref 79], [], st mi ml z) (qV Q)
  refine ev_aload_n (i := 1) rfl rfl (a_dec_at dc_Sc_copyFrom 0 rfl) ?_
  refine m_getR (y := 89) fl_Sc_11 rfl sh79 (mr_79_2 _) (by decide) (a_dec_at dc_Sc_copyFrom 1 rfl) ?_
  refine ev_iconst (v := 0) rfl (a_dec_at dc_Sc_copyFrom 2 rfl) ?_
  refine ev_aload_n (i := 0) rfl rfl (a_dec_at dc_Sc_copyFrom 3 rfl) ?_
  refine m_getR (y := 27) fl_Sc_11 rfl sh17 (mr_17_2 _) (by decide) (a_dec_at dc_Sc_copyFrom 4 rfl) ?_
  refine ev_iconst (v := 0) rfl (a_dec_at dc_Sc_copyFrom 5 rfl) ?_
  refine ev_bipush (v := 40) rfl (a_dec_at dc_Sc_copyFrom 6 rfl) ?_
  refine w_copy (ks := 0) (kd := 0) (kn := 40) cs_Sc_56 sh89 sh27 (by decide) (by decide) (by decide) (by decide) (Nat.le_of_ble_eq_true rfl) (a_dec_at dc_Sc_copyFrom 7 rfl) ?_
  refine ev_aload_n (i := 1) rfl rfl (a_dec_at dc_Sc_copyFrom 8 rfl) ?_
  refine m_getR (y := 90) fl_Sc_15 rfl sh79 (mr_79_3 _) (by decide) (a_dec_at dc_Sc_copyFrom 9 rfl) ?_
  refine ev_iconst (v := 0) rfl (a_dec_at dc_Sc_copyFrom 10 rfl) ?_
  refine ev_aload_n (i := 0) rfl rfl (a_dec_at dc_Sc_copyFrom 11 rfl) ?_
  refine m_getR (y := 28) fl_Sc_15 rfl sh17 (mr_17_3 _) (by decide) (a_dec_at dc_Sc_copyFrom 12 rfl) ?_
  refine ev_iconst (v := 0) rfl (a_dec_at dc_Sc_copyFrom 13 rfl) ?_
  refine ev_bipush (v := 24) rfl (a_dec_at dc_Sc_copyFrom 14 rfl) ?_
  refine w_copy (ks := 0) (kd := 0) (kn := 24) cs_Sc_56 sh90 sh28 (by decide) (by decide) (by decide) (by decide) (Nat.le_of_ble_eq_true rfl) (a_dec_at dc_Sc_copyFrom 15 rfl) ?_
  refine ev_aload_n (i := 1) rfl rfl (a_dec_at dc_Sc_copyFrom 16 rfl) ?_
  refine m_getR (y := 91) fl_Sc_18 rfl sh79 (mr_79_4 _) (by decide) (a_dec_at dc_Sc_copyFrom 17 rfl) ?_
  refine ev_iconst (v := 0) rfl (a_dec_at dc_Sc_copyFrom 18 rfl) ?_
  refine ev_aload_n (i := 0) rfl rfl (a_dec_at dc_Sc_copyFrom 19 rfl) ?_
  refine m_getR (y := 29) fl_Sc_18 rfl sh17 (mr_17_4 _) (by decide) (a_dec_at dc_Sc_copyFrom 20 rfl) ?_
  refine ev_iconst (v := 0) rfl (a_dec_at dc_Sc_copyFrom 21 rfl) ?_
  refine ev_bipush (v := 24) rfl (a_dec_at dc_Sc_copyFrom 22 rfl) ?_
  refine w_copy (ks := 0) (kd := 0) (kn := 24) cs_Sc_56 sh91 sh29 (by decide) (by decide) (by decide) (by decide) (Nat.le_of_ble_eq_true rfl) (a_dec_at dc_Sc_copyFrom 23 rfl) ?_
  refine ev_aload_n (i := 1) rfl rfl (a_dec_at dc_Sc_copyFrom 24 rfl) ?_
  refine m_getR (y := 92) fl_Sc_21 rfl sh79 (mr_79_5 _) (by decide) (a_dec_at dc_Sc_copyFrom 25 rfl) ?_
  refine ev_iconst (v := 0) rfl (a_dec_at dc_Sc_copyFrom 26 rfl) ?_
  refine ev_aload_n (i := 0) rfl rfl (a_dec_at dc_Sc_copyFrom 27 rfl) ?_
  refine m_getR (y := 30) fl_Sc_21 rfl sh17 (mr_17_5 _) (by decide) (a_dec_at dc_Sc_copyFrom 28 rfl) ?_
  refine ev_iconst (v := 0) rfl (a_dec_at dc_Sc_copyFrom 29 rfl) ?_
  refine ev_bipush (v := 24) rfl (a_dec_at dc_Sc_copyFrom 30 rfl) ?_
  refine w_copy (ks := 0) (kd := 0) (kn := 24) cs_Sc_56 sh92 sh30 (by decide) (by decide) (by decide) (by decide) (Nat.le_of_ble_eq_true rfl) (a_dec_at dc_Sc_copyFrom 31 rfl) ?_
  refine ev_aload_n (i := 1) rfl rfl (a_dec_at dc_Sc_copyFrom 32 rfl) ?_
  refine m_getR (y := 93) fl_Sc_24 rfl sh79 (mr_79_6 _) (by decide) (a_dec_at dc_Sc_copyFrom 33 rfl) ?_
  refine ev_iconst (v := 0) rfl (a_dec_at dc_Sc_copyFrom 34 rfl) ?_
  refine ev_aload_n (i := 0) rfl rfl (a_dec_at dc_Sc_copyFrom 35 rfl) ?_
  refine m_getR (y := 31) fl_Sc_24 rfl sh17 (mr_17_6 _) (by decide) (a_dec_at dc_Sc_copyFrom 36 rfl) ?_
  refine ev_iconst (v := 0) rfl (a_dec_at dc_Sc_copyFrom 37 rfl) ?_
  refine ev_bipush (v := 24) rfl (a_dec_at dc_Sc_copyFrom 38 rfl) ?_
  refine w_copy (ks := 0) (kd := 0) (kn := 24) cs_Sc_56 sh93 sh31 (by decide) (by decide) (by decide) (by decide) (Nat.le_of_ble_eq_true rfl) (a_dec_at dc_Sc_copyFrom 39 rfl) ?_
  refine ev_aload_n (i := 1) rfl rfl (a_dec_at dc_Sc_copyFrom 40 rfl) ?_
  refine m_getR (y := 94) fl_Sc_27 rfl sh79 (mr_79_7 _) (by decide) (a_dec_at dc_Sc_copyFrom 41 rfl) ?_
  refine ev_iconst (v := 0) rfl (a_dec_at dc_Sc_copyFrom 42 rfl) ?_
  refine ev_aload_n (i := 0) rfl rfl (a_dec_at dc_Sc_copyFrom 43 rfl) ?_
  refine m_getR (y := 32) fl_Sc_27 rfl sh17 (mr_17_7 _) (by decide) (a_dec_at dc_Sc_copyFrom 44 rfl) ?_
  refine ev_iconst (v := 0) rfl (a_dec_at dc_Sc_copyFrom 45 rfl) ?_
  refine ev_bipush (v := 6) rfl (a_dec_at dc_Sc_copyFrom 46 rfl) ?_
  refine w_copy (ks := 0) (kd := 0) (kn := 6) cs_Sc_56 sh94 sh32 (by decide) (by decide) (by decide) (by decide) (Nat.le_of_ble_eq_true rfl) (a_dec_at dc_Sc_copyFrom 47 rfl) ?_
  exact m_retV (a_dec_at dc_Sc_copyFrom 48 rfl) rfl H
set_option maxRecDepth 20000 in
theorem t_Sc_copyFrom_17_95 {l : Launch} {h : Nat} (mi : TMi) (ml : TMl) (z : Nat) {Q : TMi → TMl → Nat → Prop} (H : Q (cpF (cpF (cpF (cpF (cpF (cpF mi 105 27 0 0 40) 106 28 0 0 24) 107 29 0 0 24) 108 30 0 0 24) 109 31 0 0 24) 110 32 0 0 6) ml z) : CV l (h + 1) m_Sc_copyFrom [.ref 17, .ref 95] mi ml z Q := by
  show Ev l (h + 1) m_Sc_copyFrom 0 ([.ref 17, .ref 95], [], st mi ml z) (qV Q)
  refine ev_aload_n (i := 1) rfl rfl (a_dec_at dc_Sc_copyFrom 0 rfl) ?_
  refine m_getR (y := 105) fl_Sc_11 rfl sh95 (mr_95_2 _) (by decide) (a_dec_at dc_Sc_copyFrom 1 rfl) ?_
  refine ev_iconst (v := 0) rfl (a_dec_at dc_Sc_copyFrom 2 rfl) ?_
  refine ev_aload_n (i := 0) rfl rfl (a_dec_at dc_Sc_copyFrom 3 rfl) ?_
  refine m_getR (y := 27) fl_Sc_11 rfl sh17 (mr_17_2 _) (by decide) (a_dec_at dc_Sc_copyFrom 4 rfl) ?_
  refine ev_iconst (v := 0) rfl (a_dec_at dc_Sc_copyFrom 5 rfl) ?_
  refine ev_bipush (v := 40) rfl (a_dec_at dc_Sc_copyFrom 6 rfl) ?_
  refine w_copy (ks := 0) (kd := 0) (kn := 40) cs_Sc_56 sh105 sh27 (by decide) (by decide) (by decide) (by decide) (Nat.le_of_ble_eq_true rfl) (a_dec_at dc_Sc_copyFrom 7 rfl) ?_
  refine ev_aload_n (i := 1) rfl rfl (a_dec_at dc_Sc_copyFrom 8 rfl) ?_
  refine m_getR (y := 106) fl_Sc_15 rfl sh95 (mr_95_3 _) (by decide) (a_dec_at dc_Sc_copyFrom 9 rfl) ?_
  refine ev_iconst (v := 0) rfl (a_dec_at dc_Sc_copyFrom 10 rfl) ?_
  refine ev_aload_n (i := 0) rfl rfl (a_dec_at dc_Sc_copyFrom 11 rfl) ?_
  refine m_getR (y := 28) fl_Sc_15 rfl sh17 (mr_17_3 _) (by decide) (a_dec_at dc_Sc_copyFrom 12 rfl) ?_
  refine ev_iconst (v := 0) rfl (a_dec_at dc_Sc_copyFrom 13 rfl) ?_
  refine ev_bipush (v := 24) rfl (a_dec_at dc_Sc_copyFrom 14 rfl) ?_
  refine w_copy (ks := 0) (kd := 0) (kn := 24) cs_Sc_56 sh106 sh28 (by decide) (by decide) (by decide) (by decide) (Nat.le_of_ble_eq_true rfl) (a_dec_at dc_Sc_copyFrom 15 rfl) ?_
  refine ev_aload_n (i := 1) rfl rfl (a_dec_at dc_Sc_copyFrom 16 rfl) ?_
  refine m_getR (y := 107) fl_Sc_18 rfl sh95 (mr_95_4 _) (by decide) (a_dec_at dc_Sc_copyFrom 17 rfl) ?_
  refine ev_iconst (v := 0) rfl (a_dec_at dc_Sc_copyFrom 18 rfl) ?_
  refine ev_aload_n (i := 0) rfl rfl (a_dec_at dc_Sc_copyFrom 19 rfl) ?_
  refine m_getR (y := 29) fl_Sc_18 rfl sh17 (mr_17_4 _) (by decide) (a_dec_at dc_Sc_copyFrom 20 rfl) ?_
  refine ev_iconst (v := 0) rfl (a_dec_at dc_Sc_copyFrom 21 rfl) ?_
  refine ev_bipush (v := 24) rfl (a_dec_at dc_Sc_copyFrom 22 rfl) ?_
  refine w_copy (ks := 0) (kd := 0) (kn := 24) cs_Sc_56 sh107 sh29 (by decide) (by decide) (by decide) (by decide) (Nat.le_of_ble_eq_true rfl) (a_dec_at dc_Sc_copyFrom 23 rfl) ?_
  refine ev_aload_n (i := 1) rfl rfl (a_dec_at dc_Sc_copyFrom 24 rfl) ?_
  refine m_getR (y := 108) fl_Sc_21 rfl sh95 (mr_95_5 _) (by decide) (a_dec_at dc_Sc_copyFrom 25 rfl) ?_
  refine ev_iconst (v := 0) rfl (a_dec_at dc_Sc_copyFrom 26 rfl) ?_
  refine ev_aload_n (i := 0) rfl rfl (a_dec_at dc_Sc_copyFrom 27 rfl) ?_
  refine m_getR (y := 30) fl_Sc_21 rfl sh17 (mr_17_5 _) (by decide) (a_dec_at dc_Sc_copyFrom 28 rfl) ?_
  refine ev_iconst (v := 0) rfl (a_dec_at dc_Sc_copyFrom 29 rfl) ?_
  refine ev_bipush (v := 24) rfl (a_dec_at dc_Sc_copyFrom 30 rfl) ?_
  refine w_copy (ks := 0) (kd := 0) (kn := 24) cs_Sc_56 sh108 sh30 (by decide) (by decide) (by decide) (by decide) (Nat.le_of_ble_eq_true rfl) (a_dec_at dc_Sc_copyFrom 31 rfl) ?_
  refine ev_aload_n (i := 1) rfl rfl (a_dec_at dc_Sc_copyFrom 32 rfl) ?_
  refine m_getR (y := 109) fl_Sc_24 rfl sh95 (mr_95_6 _) (by decide) (a_dec_at dc_Sc_copyFrom 33 rfl) ?_
  refine ev_iconst (v := 0) rfl (a_dec_at dc_Sc_copyFrom 34 rfl) ?_
  refine ev_aload_n (i := 0) rfl rfl (a_dec_at dc_Sc_copyFrom 35 rfl) ?_
  refine m_getR (y := 31) fl_Sc_24 rfl sh17 (mr_17_6 _) (by decide) (a_dec_at dc_Sc_copyFrom 36 rfl) ?_
  refine ev_iconst (v := 0) rfl (a_dec_at dc_Sc_copyFrom 37 rfl) ?_
  refine ev_bipush (v := 24) rfl (a_dec_at dc_Sc_copyFrom 38 rfl) ?_
  refine w_copy (ks := 0) (kd := 0) (kn := 24) cs_Sc_56 sh109 sh31 (by decide) (by decide) (by decide) (by decide) (Nat.le_of_ble_eq_true rfl) (a_dec_at dc_Sc_copyFrom 39 rfl) ?_
  refine ev_aload_n (i := 1) rfl rfl (a_dec_at dc_Sc_copyFrom 40 rfl) ?_
  refine m_getR (y := 110) fl_Sc_27 rfl sh95 (mr_95_7 _) (by decide) (a_dec_at dc_Sc_copyFrom 41 rfl) ?_
  refine ev_iconst (v := 0) rfl (a_dec_at dc_Sc_copyFrom 42 rfl) ?_
  refine ev_aload_n (i := 0) rfl rfl (a_dec_at dc_Sc_copyFrom 43 rfl) ?_
  refine m_getR (y := 32) fl_Sc_27 rfl sh17 (mr_17_7 _) (by decide) (a_dec_at dc_Sc_copyFrom 44 rfl) ?_
  refine ev_iconst (v := 0) rfl (a_dec_at dc_Sc_copyFrom 45 rfl) ?_
  refine ev_bipush (v := 6) rfl (a_dec_at dc_Sc_copyFrom 46 rfl) ?_
  refine w_copy (ks := 0) (kd := 0) (kn := 6) cs_Sc_56 sh110 sh32 (by decide) (by decide) (by decide) (by decide) (Nat.le_of_ble_eq_true rfl) (a_dec_at dc_Sc_copyFrom 47 rfl) ?_
  exact m_retV (a_dec_at dc_Sc_copyFrom 48 rfl) rfl H
set_option maxRecDepth 20000 in
theorem t_Sc_begin_17 {l : Launch} {h : Nat} (mi : TMi) (ml : TMl) (z : Nat) {Q : TMi → TMl → Nat → Prop} (H : CV l h m_JA_fill [.ref 27, .int 0] mi ml z (fun mi1 ml1 z1 => CV l h m_JA_fill [.ref 32, .int 0] mi1 ml1 z1 (fun mi2 ml2 z2 => Ev l (h + 1) m_Sc_begin 18 ([.ref 17, .int 0], [], st mi2 ml2 z2) (qV Q)))) : CV l (h + 1) m_Sc_begin [.ref 17] mi ml z Q := by
  show Ev l (h + 1) m_Sc_begin 0 ([.ref 17, .retAddr 0], [], st mi ml z) (qV Q)
  refine ev_aload_n (i := 0) rfl rfl (a_dec_at dc_Sc_begin 0 rfl) ?_
  refine m_getR (y := 27) fl_Sc_11 rfl sh17 (mr_17_2 _) (by decide) (a_dec_at dc_Sc_begin 1 rfl) ?_
  refine ev_iconst (v := 0) rfl (a_dec_at dc_Sc_begin 2 rfl) ?_
  refine cS2V cs_Sc_38 rfl (Nat.le_of_ble_eq_true rfl) (Nat.le_of_ble_eq_true rfl) (a_dec_at dc_Sc_begin 3 rfl) ?_
  refine CV.mono (fun mi1 ml1 z1 H => ?_) H
  refine ev_aload_n (i := 0) rfl rfl (a_dec_at dc_Sc_begin 4 rfl) ?_
  refine m_getR (y := 32) fl_Sc_27 rfl sh17 (mr_17_7 _) (by decide) (a_dec_at dc_Sc_begin 5 rfl) ?_
  refine ev_iconst (v := 0) rfl (a_dec_at dc_Sc_begin 6 rfl) ?_
  refine cS2V cs_Sc_38 rfl (Nat.le_of_ble_eq_true rfl) (Nat.le_of_ble_eq_true rfl) (a_dec_at dc_Sc_begin 7 rfl) ?_
  refine CV.mono (fun mi2 ml2 z2 H => ?_) H
  refine ev_iconst (v := 0) rfl (a_dec_at dc_Sc_begin 8 rfl) ?_
  refine ev_istore_n (i := 1) rfl (by decide) rfl (a_dec_at dc_Sc_begin 9 rfl) ?_
  exact Ev.drop (L' := [.ref 17, .int 0]) (And.intro rfl (And.intro rfl trivial)) H
set_option maxRecDepth 20000 in
theorem t_Sc_begin_17_18 {l : Launch} {h : Nat} (mi : TMi) (ml : TMl) (z : Nat) (v1 : Int32) {Q : TMi → TMl → Nat → Prop} (H : ((6 ≤ v1 → (¬ (0 : Int32) < 0 ∧ ¬ (6 : Int32) < 0 ∧ ¬ (mi 18 0) < 0 ∧ 0 + (mi 18 0).toNatClampNeg ≤ 6 ∧ 6 + (mi 18 0).toNatClampNeg ≤ 40) ∧ (¬ (0 : Int32) < 0 ∧ ¬ (12 : Int32) < 0 ∧ ¬ ((cpF mi 19 27 0 6 ((mi 18 0).toNatClampNeg)) 18 1) < 0 ∧ 0 + ((cpF mi 19 27 0 6 ((mi 18 0).toNatClampNeg)) 18 1).toNatClampNeg ≤ 4 ∧ 12 + ((cpF mi 19 27 0 6 ((mi 18 0).toNatClampNeg)) 18 1).toNatClampNeg ≤ 40) ∧ CV l h m_Sc_measureAll [.ref 17] (cpF (cpF mi 19 27 0 6 ((mi 18 0).toNatClampNeg)) 23 27 0 12 (((cpF mi 19 27 0 6 ((mi 18 0).toNatClampNeg)) 18 1).toNatClampNeg)) ml z (fun mi4 ml4 z4 => Q mi4 ml4 z4)) ∧ (¬ 6 ≤ v1 → (((mi 18 0) ≤ v1 → (vp_in v1 40) ∧ Ev l (h + 1) m_Sc_begin 18 ([.ref 17, .int (v1 + 1)], [], st (up mi 27 v1.toNatClampNeg (-1)) ml z) (qV Q)) ∧ (¬ (mi 18 0) ≤ v1 → (vp_in v1 6) ∧ (vp_in v1 40) ∧ Ev l (h + 1) m_Sc_begin 18 ([.ref 17, .int (v1 + 1)], [], st (up mi 27 v1.toNatClampNeg (mi 22 v1.toNatClampNeg)) ml z) (qV Q)))))) : Ev l (h + 1) m_Sc_begin 18 ([.ref 17, .int v1], [], st mi ml z) (qV Q) := by
  refine ev_iload_n (i := 1) rfl rfl (a_dec_at dc_Sc_begin 10 rfl) ?_
  refine ev_bipush (v := 6) rfl (a_dec_at dc_Sc_begin 11 rfl) ?_
  refine ev_icmp_ge (tgt := 60) (a_dec_at dc_Sc_begin 12 rfl) (by decide) (fun b1 => ?_) (fun b1 => ?_)
  · have H := H.1 b1
    refine ev_aload_n (i := 0) rfl rfl (a_dec_at dc_Sc_begin 31 rfl) ?_
    refine m_getR (y := 18) fl_Sc_30 rfl sh17 (mr_17_0 _) (by decide) (a_dec_at dc_Sc_begin 32 rfl) ?_
    refine m_getR (y := 19) fl_Sc_53 rfl sh18 (mr_18_3 _) (by decide) (a_dec_at dc_Sc_begin 33 rfl) ?_
    refine ev_iconst (v := 0) rfl (a_dec_at dc_Sc_begin 34 rfl) ?_
    refine ev_aload_n (i := 0) rfl rfl (a_dec_at dc_Sc_begin 35 rfl) ?_
    refine m_getR (y := 27) fl_Sc_11 rfl sh17 (mr_17_2 _) (by decide) (a_dec_at dc_Sc_begin 36 rfl) ?_
    refine ev_bipush (v := 6) rfl (a_dec_at dc_Sc_begin 37 rfl) ?_
    refine ev_aload_n (i := 0) rfl rfl (a_dec_at dc_Sc_begin 38 rfl) ?_
    refine m_getR (y := 18) fl_Sc_30 rfl sh17 (mr_17_0 _) (by decide) (a_dec_at dc_Sc_begin 39 rfl) ?_
    refine m_getI fl_Sc_44 rfl sh18 (a_dec_at dc_Sc_begin 40 rfl) ?_
    obtain ⟨c2, H⟩ := H
    refine w_copy (ks := 0) (kd := 6) (kn := (mi 18 0).toNatClampNeg) cs_Sc_56 sh19 sh27 (by decide) (by decide) rfl c2 (Nat.le_of_ble_eq_true rfl) (a_dec_at dc_Sc_begin 41 rfl) ?_
    refine ev_aload_n (i := 0) rfl rfl (a_dec_at dc_Sc_begin 42 rfl) ?_
    refine m_getR (y := 18) fl_Sc_30 rfl sh17 (mr_17_0 _) (by decide) (a_dec_at dc_Sc_begin 43 rfl) ?_
    refine m_getR (y := 23) fl_Sc_62 rfl sh18 (mr_18_7 _) (by decide) (a_dec_at dc_Sc_begin 44 rfl) ?_
    refine ev_iconst (v := 0) rfl (a_dec_at dc_Sc_begin 45 rfl) ?_
    refine ev_aload_n (i := 0) rfl rfl (a_dec_at dc_Sc_begin 46 rfl) ?_
    refine m_getR (y := 27) fl_Sc_11 rfl sh17 (mr_17_2 _) (by decide) (a_dec_at dc_Sc_begin 47 rfl) ?_
    refine ev_bipush (v := 12) rfl (a_dec_at dc_Sc_begin 48 rfl) ?_
    refine ev_aload_n (i := 0) rfl rfl (a_dec_at dc_Sc_begin 49 rfl) ?_
    refine m_getR (y := 18) fl_Sc_30 rfl sh17 (mr_17_0 _) (by decide) (a_dec_at dc_Sc_begin 50 rfl) ?_
    refine m_getI fl_Sc_65 rfl sh18 (a_dec_at dc_Sc_begin 51 rfl) ?_
    obtain ⟨c3, H⟩ := H
    refine w_copy (ks := 0) (kd := 12) (kn := ((cpF mi 19 27 0 6 ((mi 18 0).toNatClampNeg)) 18 1).toNatClampNeg) cs_Sc_56 sh23 sh27 (by decide) (by decide) rfl c3 (Nat.le_of_ble_eq_true rfl) (a_dec_at dc_Sc_begin 52 rfl) ?_
    refine ev_aload_n (i := 0) rfl rfl (a_dec_at dc_Sc_begin 53 rfl) ?_
    refine cV0V cs_Sc_68 sh17 rfl (Nat.le_of_ble_eq_true rfl) (Nat.le_of_ble_eq_true rfl) (a_dec_at dc_Sc_begin 54 rfl) ?_
    refine CV.mono (fun mi4 ml4 z4 H => ?_) H
    exact m_retV (a_dec_at dc_Sc_begin 55 rfl) rfl H
  · have H := H.2 b1
    refine ev_aload_n (i := 0) rfl rfl (a_dec_at dc_Sc_begin 13 rfl) ?_
    refine m_getR (y := 27) fl_Sc_11 rfl sh17 (mr_17_2 _) (by decide) (a_dec_at dc_Sc_begin 14 rfl) ?_
    refine ev_iload_n (i := 1) rfl rfl (a_dec_at dc_Sc_begin 15 rfl) ?_
    refine ev_iload_n (i := 1) rfl rfl (a_dec_at dc_Sc_begin 16 rfl) ?_
    refine ev_aload_n (i := 0) rfl rfl (a_dec_at dc_Sc_begin 17 rfl) ?_
    refine m_getR (y := 18) fl_Sc_30 rfl sh17 (mr_17_0 _) (by decide) (a_dec_at dc_Sc_begin 18 rfl) ?_
    refine m_getI fl_Sc_44 rfl sh18 (a_dec_at dc_Sc_begin 19 rfl) ?_
    refine ev_icmp_ge (tgt := 52) (a_dec_at dc_Sc_begin 20 rfl) (by decide) (fun b5 => ?_) (fun b5 => ?_)
    · have H := H.1 b5
      refine ev_iconst (v := (-1)) rfl (a_dec_at dc_Sc_begin 27 rfl) ?_
      obtain ⟨c6, H⟩ := H
      refine w_iast (k := v1.toNatClampNeg) sh27 c6 rfl (a_dec_at dc_Sc_begin 28 rfl) ?_
      refine ev_iinc (v := 1) rfl rfl (by decide) rfl (a_dec_at dc_Sc_begin 29 rfl) ?_
      refine ev_goto (tgt := 18) (a_dec_at dc_Sc_begin 30 rfl) (by decide) ?_
      exact Ev.drop (L' := [.ref 17, .int (v1 + 1)]) (And.intro rfl (And.intro rfl trivial)) H
    · have H := H.2 b5
      refine ev_aload_n (i := 0) rfl rfl (a_dec_at dc_Sc_begin 21 rfl) ?_
      refine m_getR (y := 18) fl_Sc_30 rfl sh17 (mr_17_0 _) (by decide) (a_dec_at dc_Sc_begin 22 rfl) ?_
      refine m_getR (y := 22) fl_Sc_50 rfl sh18 (mr_18_6 _) (by decide) (a_dec_at dc_Sc_begin 23 rfl) ?_
      refine ev_iload_n (i := 1) rfl rfl (a_dec_at dc_Sc_begin 24 rfl) ?_
      obtain ⟨c7, H⟩ := H
      refine w_iald (k := v1.toNatClampNeg) sh22 c7 rfl (a_dec_at dc_Sc_begin 25 rfl) ?_
      refine ev_goto (tgt := 53) (a_dec_at dc_Sc_begin 26 rfl) (by decide) ?_
      obtain ⟨c8, H⟩ := H
      refine w_iast (k := v1.toNatClampNeg) sh27 c8 rfl (a_dec_at dc_Sc_begin 28 rfl) ?_
      refine ev_iinc (v := 1) rfl rfl (by decide) rfl (a_dec_at dc_Sc_begin 29 rfl) ?_
      refine ev_goto (tgt := 18) (a_dec_at dc_Sc_begin 30 rfl) (by decide) ?_
      exact Ev.drop (L' := [.ref 17, .int (v1 + 1)]) (And.intro rfl (And.intro rfl trivial)) H
set_option maxRecDepth 20000 in
theorem t_Ma_bestForBecks_17 {l : Launch} {h : Nat} (mi : TMi) (ml : TMl) (z : Nat) (a2 : Int32) {Q : TMi → TMl → Nat → Prop} (H : CV l h m_Ma_clear [.ref 55] mi ml z (fun mi1 ml1 z1 => Ev l (h + 1) m_Ma_bestForBecks 6 ([.ref 55, .ref 17, .int a2, .int 0], [], st mi1 ml1 z1) (qV Q))) : CV l (h + 1) m_Ma_bestForBecks [.ref 55, .ref 17, .int a2] mi ml z Q := by
  show Ev l (h + 1) m_Ma_bestForBecks 0 ([.ref 55, .ref 17, .int a2, .retAddr 0], [], st mi ml z) (qV Q)
  refine ev_aload_n (i := 0) rfl rfl (a_dec_at dc_Ma_bestForBecks 0 rfl) ?_
  refine cV0V cs_Ma_24 sh55 rfl (Nat.le_of_ble_eq_true rfl) (Nat.le_of_ble_eq_true rfl) (a_dec_at dc_Ma_bestForBecks 1 rfl) ?_
  refine CV.mono (fun mi1 ml1 z1 H => ?_) H
  refine ev_iconst (v := 0) rfl (a_dec_at dc_Ma_bestForBecks 2 rfl) ?_
  refine ev_istore_n (i := 3) rfl (by decide) rfl (a_dec_at dc_Ma_bestForBecks 3 rfl) ?_
  exact Ev.drop (L' := [.ref 55, .ref 17, .int a2, .int 0]) (And.intro rfl (And.intro rfl (And.intro rfl (And.intro rfl trivial)))) H
set_option maxRecDepth 20000 in
theorem t_Ma_bestForBecks_17_6 {l : Launch} {h : Nat} (mi : TMi) (ml : TMl) (z : Nat) (v2 : Int32) (v3 : Int32) {Q : TMi → TMl → Nat → Prop} (H : (((mi 18 0) ≤ v3 → Q mi ml z) ∧ (¬ (mi 18 0) ≤ v3 → ((((v2 >>> (v3 &&& 31)) &&& 1) = 0 → Ev l (h + 1) m_Ma_bestForBecks 6 ([.ref 55, .ref 17, .int v2, .int (v3 + 1)], [], st mi ml z) (qV Q)) ∧ (¬ ((v2 >>> (v3 &&& 31)) &&& 1) = 0 → CV l h m_Ma_settle [.ref 55, .ref 17, .int v3] mi ml z (fun mi3 ml3 z3 => Ev l (h + 1) m_Ma_bestForBecks 6 ([.ref 55, .ref 17, .int v2, .int (v3 + 1)], [], st mi3 ml3 z3) (qV Q))))))) : Ev l (h + 1) m_Ma_bestForBecks 6 ([.ref 55, .ref 17, .int v2, .int v3], [], st mi ml z) (qV Q) := by
  refine ev_iload_n (i := 3) rfl rfl (a_dec_at dc_Ma_bestForBecks 4 rfl) ?_
  refine ev_aload_n (i := 1) rfl rfl (a_dec_at dc_Ma_bestForBecks 5 rfl) ?_
  refine m_getR (y := 18) fl_Ma_27 rfl sh17 (mr_17_0 _) (by decide) (a_dec_at dc_Ma_bestForBecks 6 rfl) ?_
  refine m_getI fl_Ma_33 rfl sh18 (a_dec_at dc_Ma_bestForBecks 7 rfl) ?_
  refine ev_icmp_ge (tgt := 37) (a_dec_at dc_Ma_bestForBecks 8 rfl) (by decide) (fun b1 => ?_) (fun b1 => ?_)
  · have H := H.1 b1
    exact m_retV (a_dec_at dc_Ma_bestForBecks 21 rfl) rfl H
  · have H := H.2 b1
    refine ev_iload_n (i := 2) rfl rfl (a_dec_at dc_Ma_bestForBecks 9 rfl) ?_
    refine ev_iload_n (i := 3) rfl rfl (a_dec_at dc_Ma_bestForBecks 10 rfl) ?_
    refine ev_ishr (a_dec_at dc_Ma_bestForBecks 11 rfl) ?_
    refine ev_iconst (v := 1) rfl (a_dec_at dc_Ma_bestForBecks 12 rfl) ?_
    refine ev_iand (a_dec_at dc_Ma_bestForBecks 13 rfl) ?_
    refine ev_if_eq (tgt := 31) (a_dec_at dc_Ma_bestForBecks 14 rfl) (by decide) (fun b2 => ?_) (fun b2 => ?_)
    · have H := H.1 b2
      refine ev_iinc (v := 1) rfl rfl (by decide) rfl (a_dec_at dc_Ma_bestForBecks 19 rfl) ?_
      refine ev_goto (tgt := 6) (a_dec_at dc_Ma_bestForBecks 20 rfl) (by decide) ?_
      exact Ev.drop (L' := [.ref 55, .ref 17, .int v2, .int (v3 + 1)]) (And.intro rfl (And.intro rfl (And.intro rfl (And.intro rfl trivial)))) H
    · have H := H.2 b2
      refine ev_aload_n (i := 0) rfl rfl (a_dec_at dc_Ma_bestForBecks 15 rfl) ?_
      refine ev_aload_n (i := 1) rfl rfl (a_dec_at dc_Ma_bestForBecks 16 rfl) ?_
      refine ev_iload_n (i := 3) rfl rfl (a_dec_at dc_Ma_bestForBecks 17 rfl) ?_
      refine cV2V cs_Ma_39 sh55 rfl (Nat.le_of_ble_eq_true rfl) (Nat.le_of_ble_eq_true rfl) (a_dec_at dc_Ma_bestForBecks 18 rfl) ?_
      refine CV.mono (fun mi3 ml3 z3 H => ?_) H
      refine ev_iinc (v := 1) rfl rfl (by decide) rfl (a_dec_at dc_Ma_bestForBecks 19 rfl) ?_
      refine ev_goto (tgt := 6) (a_dec_at dc_Ma_bestForBecks 20 rfl) (by decide) ?_
      exact Ev.drop (L' := [.ref 55, .ref 17, .int v2, .int (v3 + 1)]) (And.intro rfl (And.intro rfl (And.intro rfl (And.intro rfl trivial)))) H
set_option maxRecDepth 20000 in
theorem t_Ma_settle_17 {l : Launch} {h : Nat} (mi : TMi) (ml : TMl) (z : Nat) (a2 : Int32) {Q : TMi → TMl → Nat → Prop} (H : Ev l (h + 1) m_Ma_settle 5 ([.ref 55, .ref 17, .retAddr 0, .int a2, .int 0, .retAddr 0], [], st mi ml z) (qV Q)) : CV l (h + 1) m_Ma_settle [.ref 55, .ref 17, .int a2] mi ml z Q := by
  show Ev l (h + 1) m_Ma_settle 0 ([.ref 55, .ref 17, .int a2, .retAddr 0, .retAddr 0, .retAddr 0], [], st mi ml z) (qV Q)
  refine ev_iload_n (i := 2) rfl rfl (a_dec_at dc_Ma_settle 0 rfl) ?_
  refine ev_istore_n (i := 3) rfl (by decide) rfl (a_dec_at dc_Ma_settle 1 rfl) ?_
  refine ev_iconst (v := 0) rfl (a_dec_at dc_Ma_settle 2 rfl) ?_
  refine ev_istore (by decide) rfl (a_dec_at dc_Ma_settle 3 rfl) ?_
  exact Ev.drop (L' := [.ref 55, .ref 17, .retAddr 0, .int a2, .int 0, .retAddr 0]) (And.intro rfl (And.intro rfl (And.intro rfl (And.intro rfl trivial)))) H
set_option maxRecDepth 20000 in
theorem t_Ma_settle_17_5 {l : Launch} {h : Nat} (mi : TMi) (ml : TMl) (z : Nat) (v3 : Int32) (v4 : Int32) {Q : TMi → TMl → Nat → Prop} (H : ((24 ≤ v4 → Q mi ml z) ∧ (¬ 24 ≤ v4 → ((v3 = (-1) → Q mi ml z) ∧ (¬ v3 = (-1) → CI l h m_Ma_nextRiver [.ref 55, .ref 17, .int v3] mi ml z (fun x3 mi3 ml3 z3 => ((¬ x3 = (-1) → CI l h m_Ma_admit [.ref 55, .ref 17, .int v3, .int x3] mi3 ml3 z3 (fun x5 mi5 ml5 z5 => Ev l (h + 1) m_Ma_settle 5 ([.ref 55, .ref 17, .retAddr 0, .int x5, .int (v4 + 1), .retAddr 0], [], st mi5 ml5 z5) (qV Q))) ∧ (x3 = (-1) → Ev l (h + 1) m_Ma_settle 5 ([.ref 55, .ref 17, .retAddr 0, .int (-1), .int (v4 + 1), .retAddr 0], [], st mi3 ml3 z3) (qV Q))))))))) : Ev l (h + 1) m_Ma_settle 5 ([.ref 55, .ref 17, .retAddr 0, .int v3, .int v4, .retAddr 0], [], st mi ml z) (qV Q) := by
  refine ev_iload rfl (a_dec_at dc_Ma_settle 4 rfl) ?_
  refine ev_bipush (v := 24) rfl (a_dec_at dc_Ma_settle 5 rfl) ?_
  refine ev_icmp_ge (tgt := 50) (a_dec_at dc_Ma_settle 6 rfl) (by decide) (fun b1 => ?_) (fun b1 => ?_)
  · have H := H.1 b1
    exact m_retV (a_dec_at dc_Ma_settle 28 rfl) rfl H
  · have H := H.2 b1
    refine ev_iload_n (i := 3) rfl rfl (a_dec_at dc_Ma_settle 7 rfl) ?_
    refine ev_iconst (v := (-1)) rfl (a_dec_at dc_Ma_settle 8 rfl) ?_
    refine ev_icmp_eq (tgt := 50) (a_dec_at dc_Ma_settle 9 rfl) (by decide) (fun b2 => ?_) (fun b2 => ?_)
    · have H := H.1 b2
      exact m_retV (a_dec_at dc_Ma_settle 28 rfl) rfl H
    · have H := H.2 b2
      refine ev_aload_n (i := 0) rfl rfl (a_dec_at dc_Ma_settle 10 rfl) ?_
      refine ev_aload_n (i := 1) rfl rfl (a_dec_at dc_Ma_settle 11 rfl) ?_
      refine ev_iload_n (i := 3) rfl rfl (a_dec_at dc_Ma_settle 12 rfl) ?_
      refine cV2I cs_Ma_43 sh55 rfl (Nat.le_of_ble_eq_true rfl) (Nat.le_of_ble_eq_true rfl) (a_dec_at dc_Ma_settle 13 rfl) ?_
      refine CI.mono (fun x3 mi3 ml3 z3 H => ?_) H
      refine ev_istore (by decide) rfl (a_dec_at dc_Ma_settle 14 rfl) ?_
      refine ev_iload rfl (a_dec_at dc_Ma_settle 15 rfl) ?_
      refine ev_iconst (v := (-1)) rfl (a_dec_at dc_Ma_settle 16 rfl) ?_
      refine ev_icmp_ne (tgt := 35) (a_dec_at dc_Ma_settle 17 rfl) (by decide) (fun b4 => ?_) (fun b4 => ?_)
      · have H := H.1 b4
        refine ev_aload_n (i := 0) rfl rfl (a_dec_at dc_Ma_settle 20 rfl) ?_
        refine ev_aload_n (i := 1) rfl rfl (a_dec_at dc_Ma_settle 21 rfl) ?_
        refine ev_iload_n (i := 3) rfl rfl (a_dec_at dc_Ma_settle 22 rfl) ?_
        refine ev_iload rfl (a_dec_at dc_Ma_settle 23 rfl) ?_
        refine cV3I cs_Ma_47 sh55 rfl (Nat.le_of_ble_eq_true rfl) (Nat.le_of_ble_eq_true rfl) (a_dec_at dc_Ma_settle 24 rfl) ?_
        refine CI.mono (fun x5 mi5 ml5 z5 H => ?_) H
        refine ev_istore_n (i := 3) rfl (by decide) rfl (a_dec_at dc_Ma_settle 25 rfl) ?_
        refine ev_iinc (v := 1) rfl rfl (by decide) rfl (a_dec_at dc_Ma_settle 26 rfl) ?_
        refine ev_goto (tgt := 5) (a_dec_at dc_Ma_settle 27 rfl) (by decide) ?_
        exact Ev.drop (L' := [.ref 55, .ref 17, .retAddr 0, .int x5, .int (v4 + 1), .retAddr 0]) (And.intro rfl (And.intro rfl (And.intro rfl (And.intro rfl trivial)))) H
      · have H := H.2 b4
        refine ev_iconst (v := (-1)) rfl (a_dec_at dc_Ma_settle 18 rfl) ?_
        refine ev_goto (tgt := 43) (a_dec_at dc_Ma_settle 19 rfl) (by decide) ?_
        refine ev_istore_n (i := 3) rfl (by decide) rfl (a_dec_at dc_Ma_settle 25 rfl) ?_
        refine ev_iinc (v := 1) rfl rfl (by decide) rfl (a_dec_at dc_Ma_settle 26 rfl) ?_
        refine ev_goto (tgt := 5) (a_dec_at dc_Ma_settle 27 rfl) (by decide) ?_
        exact Ev.drop (L' := [.ref 55, .ref 17, .retAddr 0, .int (-1), .int (v4 + 1), .retAddr 0]) (And.intro rfl (And.intro rfl (And.intro rfl (And.intro rfl trivial)))) H
set_option maxRecDepth 20000 in
theorem t_Ma_nextRiver_17 {l : Launch} {h : Nat} (mi : TMi) (ml : TMl) (z : Nat) (a2 : Int32) {Q : Int32 → TMi → TMl → Nat → Prop} (H : (vp_in a2 6) ∧ (vp_in a2 6) ∧ CI l h m_B_pair [.int a2, .int 0] mi ml z (fun x3 mi3 ml3 z3 => Ev l (h + 1) m_Ma_nextRiver 32 ([.retAddr 0, .ref 17, .retAddr 0, .int ((mi 32 a2.toNatClampNeg) &&& ((mi 59 a2.toNatClampNeg) ^^^ (-1))), .int x3, .int (-1), .int 0, .int 0], [], st mi3 ml3 z3) (qI Q))) : CI l (h + 1) m_Ma_nextRiver [.ref 55, .ref 17, .int a2] mi ml z Q := by
  show Ev l (h + 1) m_Ma_nextRiver 0 ([.ref 55, .ref 17, .int a2, .retAddr 0, .retAddr 0, .retAddr 0, .retAddr 0, .retAddr 0], [], st mi ml z) (qI Q)
  refine ev_aload_n (i := 1) rfl rfl (a_dec_at dc_Ma_nextRiver 0 rfl) ?_
  refine m_getR (y := 32) fl_Ma_51 rfl sh17 (mr_17_7 _) (by decide) (a_dec_at dc_Ma_nextRiver 1 rfl) ?_
  refine ev_iload_n (i := 2) rfl rfl (a_dec_at dc_Ma_nextRiver 2 rfl) ?_
  obtain ⟨c1, H⟩ := H
  refine w_iald (k := a2.toNatClampNeg) sh32 c1 rfl (a_dec_at dc_Ma_nextRiver 3 rfl) ?_
  refine ev_aload_n (i := 0) rfl rfl (a_dec_at dc_Ma_nextRiver 4 rfl) ?_
  refine m_getR (y := 59) fl_Ma_21 rfl sh55 (mr_55_3 _) (by decide) (a_dec_at dc_Ma_nextRiver 5 rfl) ?_
  refine ev_iload_n (i := 2) rfl rfl (a_dec_at dc_Ma_nextRiver 6 rfl) ?_
  obtain ⟨c2, H⟩ := H
  refine w_iald (k := a2.toNatClampNeg) sh59 c2 rfl (a_dec_at dc_Ma_nextRiver 7 rfl) ?_
  refine ev_iconst (v := (-1)) rfl (a_dec_at dc_Ma_nextRiver 8 rfl) ?_
  refine ev_ixor (a_dec_at dc_Ma_nextRiver 9 rfl) ?_
  refine ev_iand (a_dec_at dc_Ma_nextRiver 10 rfl) ?_
  refine ev_istore_n (i := 3) rfl (by decide) rfl (a_dec_at dc_Ma_nextRiver 11 rfl) ?_
  refine ev_iload_n (i := 2) rfl rfl (a_dec_at dc_Ma_nextRiver 12 rfl) ?_
  refine ev_iconst (v := 0) rfl (a_dec_at dc_Ma_nextRiver 13 rfl) ?_
  refine cN2I cs_Ma_54 rfl (Nat.le_of_ble_eq_true rfl) (Nat.le_of_ble_eq_true rfl) (a_dec_at dc_Ma_nextRiver 14 rfl) ?_
  refine CI.mono (fun x3 mi3 ml3 z3 H => ?_) H
  refine ev_istore (by decide) rfl (a_dec_at dc_Ma_nextRiver 15 rfl) ?_
  refine ev_iconst (v := (-1)) rfl (a_dec_at dc_Ma_nextRiver 16 rfl) ?_
  refine ev_istore (by decide) rfl (a_dec_at dc_Ma_nextRiver 17 rfl) ?_
  refine ev_iconst (v := 0) rfl (a_dec_at dc_Ma_nextRiver 18 rfl) ?_
  refine ev_istore (by decide) rfl (a_dec_at dc_Ma_nextRiver 19 rfl) ?_
  refine ev_iconst (v := 0) rfl (a_dec_at dc_Ma_nextRiver 20 rfl) ?_
  refine ev_istore (by decide) rfl (a_dec_at dc_Ma_nextRiver 21 rfl) ?_
  exact Ev.drop (L' := [.retAddr 0, .ref 17, .retAddr 0, .int ((mi 32 a2.toNatClampNeg) &&& ((mi 59 a2.toNatClampNeg) ^^^ (-1))), .int x3, .int (-1), .int 0, .int 0]) (And.intro rfl (And.intro rfl (And.intro rfl (And.intro rfl (And.intro rfl (And.intro rfl trivial)))))) H
set_option maxRecDepth 20000 in
theorem t_Ma_nextRiver_17_32 {l : Launch} {h : Nat} (mi : TMi) (ml : TMl) (z : Nat) (v3 : Int32) (v4 : Int32) (v5 : Int32) (v6 : Int32) (v7 : Int32) {Q : Int32 → TMi → TMl → Nat → Prop} (H : (((v3 >>> (v7 &&& 31)) = 0 → Q v5 mi ml z) ∧ (¬ (v3 >>> (v7 &&& 31)) = 0 → ((4 ≤ v7 → Q v5 mi ml z) ∧ (¬ 4 ≤ v7 → ((((v3 >>> (v7 &&& 31)) &&& 1) = 0 → Ev l (h + 1) m_Ma_nextRiver 32 ([.retAddr 0, .ref 17, .retAddr 0, .int v3, .int v4, .int v5, .int v6, .int (v7 + 1)], [], st mi ml z) (qI Q)) ∧ (¬ ((v3 >>> (v7 &&& 31)) &&& 1) = 0 → ((v5 = (-1) → (vp_in (v4 + v7) 24) ∧ Ev l (h + 1) m_Ma_nextRiver 32 ([.retAddr 0, .ref 17, .retAddr 0, .int v3, .int v4, .int v7, .int (mi 30 ((v4 + v7).toNatClampNeg)), .int (v7 + 1)], [], st mi ml z) (qI Q)) ∧ (¬ v5 = (-1) → (vp_in (v4 + v7) 24) ∧ (((mi 30 ((v4 + v7).toNatClampNeg)) ≤ v6 → Ev l (h + 1) m_Ma_nextRiver 32 ([.retAddr 0, .ref 17, .retAddr 0, .int v3, .int v4, .int v5, .int v6, .int (v7 + 1)], [], st mi ml z) (qI Q)) ∧ (¬ (mi 30 ((v4 + v7).toNatClampNeg)) ≤ v6 → (vp_in (v4 + v7) 24) ∧ Ev l (h + 1) m_Ma_nextRiver 32 ([.retAddr 0, .ref 17, .retAddr 0, .int v3, .int v4, .int v7, .int (mi 30 ((v4 + v7).toNatClampNeg)), .int (v7 + 1)], [], st mi ml z) (qI Q)))))))))))) : Ev l (h + 1) m_Ma_nextRiver 32 ([.retAddr 0, .ref 17, .retAddr 0, .int v3, .int v4, .int v5, .int v6, .int v7], [], st mi ml z) (qI Q) := by
  refine ev_iload_n (i := 3) rfl rfl (a_dec_at dc_Ma_nextRiver 22 rfl) ?_
  refine ev_iload rfl (a_dec_at dc_Ma_nextRiver 23 rfl) ?_
  refine ev_ishr (a_dec_at dc_Ma_nextRiver 24 rfl) ?_
  refine ev_if_eq (tgt := 97) (a_dec_at dc_Ma_nextRiver 25 rfl) (by decide) (fun b1 => ?_) (fun b1 => ?_)
  · have H := H.1 b1
    refine ev_iload rfl (a_dec_at dc_Ma_nextRiver 57 rfl) ?_
    exact m_retI (a_dec_at dc_Ma_nextRiver 58 rfl) rfl rfl H
  · have H := H.2 b1
    refine ev_iload rfl (a_dec_at dc_Ma_nextRiver 26 rfl) ?_
    refine ev_iconst (v := 4) rfl (a_dec_at dc_Ma_nextRiver 27 rfl) ?_
    refine ev_icmp_ge (tgt := 97) (a_dec_at dc_Ma_nextRiver 28 rfl) (by decide) (fun b2 => ?_) (fun b2 => ?_)
    · have H := H.1 b2
      refine ev_iload rfl (a_dec_at dc_Ma_nextRiver 57 rfl) ?_
      exact m_retI (a_dec_at dc_Ma_nextRiver 58 rfl) rfl rfl H
    · have H := H.2 b2
      refine ev_iload_n (i := 3) rfl rfl (a_dec_at dc_Ma_nextRiver 29 rfl) ?_
      refine ev_iload rfl (a_dec_at dc_Ma_nextRiver 30 rfl) ?_
      refine ev_ishr (a_dec_at dc_Ma_nextRiver 31 rfl) ?_
      refine ev_iconst (v := 1) rfl (a_dec_at dc_Ma_nextRiver 32 rfl) ?_
      refine ev_iand (a_dec_at dc_Ma_nextRiver 33 rfl) ?_
      refine ev_if_eq (tgt := 91) (a_dec_at dc_Ma_nextRiver 34 rfl) (by decide) (fun b3 => ?_) (fun b3 => ?_)
      · have H := H.1 b3
        refine ev_iinc (v := 1) rfl rfl (by decide) rfl (a_dec_at dc_Ma_nextRiver 55 rfl) ?_
        refine ev_goto (tgt := 32) (a_dec_at dc_Ma_nextRiver 56 rfl) (by decide) ?_
        exact Ev.drop (L' := [.retAddr 0, .ref 17, .retAddr 0, .int v3, .int v4, .int v5, .int v6, .int (v7 + 1)]) (And.intro rfl (And.intro rfl (And.intro rfl (And.intro rfl (And.intro rfl (And.intro rfl trivial)))))) H
      · have H := H.2 b3
        refine ev_iload rfl (a_dec_at dc_Ma_nextRiver 35 rfl) ?_
        refine ev_iconst (v := (-1)) rfl (a_dec_at dc_Ma_nextRiver 36 rfl) ?_
        refine ev_icmp_eq (tgt := 75) (a_dec_at dc_Ma_nextRiver 37 rfl) (by decide) (fun b4 => ?_) (fun b4 => ?_)
        · have H := H.1 b4
          refine ev_iload rfl (a_dec_at dc_Ma_nextRiver 46 rfl) ?_
          refine ev_istore (by decide) rfl (a_dec_at dc_Ma_nextRiver 47 rfl) ?_
          refine ev_aload_n (i := 1) rfl rfl (a_dec_at dc_Ma_nextRiver 48 rfl) ?_
          refine m_getR (y := 30) fl_Ma_58 rfl sh17 (mr_17_5 _) (by decide) (a_dec_at dc_Ma_nextRiver 49 rfl) ?_
          refine ev_iload rfl (a_dec_at dc_Ma_nextRiver 50 rfl) ?_
          refine ev_iload rfl (a_dec_at dc_Ma_nextRiver 51 rfl) ?_
          refine ev_iadd (a_dec_at dc_Ma_nextRiver 52 rfl) ?_
          obtain ⟨c5, H⟩ := H
          refine w_iald (k := (v4 + v7).toNatClampNeg) sh30 c5 rfl (a_dec_at dc_Ma_nextRiver 53 rfl) ?_
          refine ev_istore (by decide) rfl (a_dec_at dc_Ma_nextRiver 54 rfl) ?_
          refine ev_iinc (v := 1) rfl rfl (by decide) rfl (a_dec_at dc_Ma_nextRiver 55 rfl) ?_
          refine ev_goto (tgt := 32) (a_dec_at dc_Ma_nextRiver 56 rfl) (by decide) ?_
          exact Ev.drop (L' := [.retAddr 0, .ref 17, .retAddr 0, .int v3, .int v4, .int v7, .int (mi 30 ((v4 + v7).toNatClampNeg)), .int (v7 + 1)]) (And.intro rfl (And.intro rfl (And.intro rfl (And.intro rfl (And.intro rfl (And.intro rfl trivial)))))) H
        · have H := H.2 b4
          refine ev_aload_n (i := 1) rfl rfl (a_dec_at dc_Ma_nextRiver 38 rfl) ?_
          refine m_getR (y := 30) fl_Ma_58 rfl sh17 (mr_17_5 _) (by decide) (a_dec_at dc_Ma_nextRiver 39 rfl) ?_
          refine ev_iload rfl (a_dec_at dc_Ma_nextRiver 40 rfl) ?_
          refine ev_iload rfl (a_dec_at dc_Ma_nextRiver 41 rfl) ?_
          refine ev_iadd (a_dec_at dc_Ma_nextRiver 42 rfl) ?_
          obtain ⟨c6, H⟩ := H
          refine w_iald (k := (v4 + v7).toNatClampNeg) sh30 c6 rfl (a_dec_at dc_Ma_nextRiver 43 rfl) ?_
          refine ev_iload rfl (a_dec_at dc_Ma_nextRiver 44 rfl) ?_
          refine ev_icmp_le (tgt := 91) (a_dec_at dc_Ma_nextRiver 45 rfl) (by decide) (fun b7 => ?_) (fun b7 => ?_)
          · have H := H.1 b7
            refine ev_iinc (v := 1) rfl rfl (by decide) rfl (a_dec_at dc_Ma_nextRiver 55 rfl) ?_
            refine ev_goto (tgt := 32) (a_dec_at dc_Ma_nextRiver 56 rfl) (by decide) ?_
            exact Ev.drop (L' := [.retAddr 0, .ref 17, .retAddr 0, .int v3, .int v4, .int v5, .int v6, .int (v7 + 1)]) (And.intro rfl (And.intro rfl (And.intro rfl (And.intro rfl (And.intro rfl (And.intro rfl trivial)))))) H
          · have H := H.2 b7
            refine ev_iload rfl (a_dec_at dc_Ma_nextRiver 46 rfl) ?_
            refine ev_istore (by decide) rfl (a_dec_at dc_Ma_nextRiver 47 rfl) ?_
            refine ev_aload_n (i := 1) rfl rfl (a_dec_at dc_Ma_nextRiver 48 rfl) ?_
            refine m_getR (y := 30) fl_Ma_58 rfl sh17 (mr_17_5 _) (by decide) (a_dec_at dc_Ma_nextRiver 49 rfl) ?_
            refine ev_iload rfl (a_dec_at dc_Ma_nextRiver 50 rfl) ?_
            refine ev_iload rfl (a_dec_at dc_Ma_nextRiver 51 rfl) ?_
            refine ev_iadd (a_dec_at dc_Ma_nextRiver 52 rfl) ?_
            obtain ⟨c8, H⟩ := H
            refine w_iald (k := (v4 + v7).toNatClampNeg) sh30 c8 rfl (a_dec_at dc_Ma_nextRiver 53 rfl) ?_
            refine ev_istore (by decide) rfl (a_dec_at dc_Ma_nextRiver 54 rfl) ?_
            refine ev_iinc (v := 1) rfl rfl (by decide) rfl (a_dec_at dc_Ma_nextRiver 55 rfl) ?_
            refine ev_goto (tgt := 32) (a_dec_at dc_Ma_nextRiver 56 rfl) (by decide) ?_
            exact Ev.drop (L' := [.retAddr 0, .ref 17, .retAddr 0, .int v3, .int v4, .int v7, .int (mi 30 ((v4 + v7).toNatClampNeg)), .int (v7 + 1)]) (And.intro rfl (And.intro rfl (And.intro rfl (And.intro rfl (And.intro rfl (And.intro rfl trivial)))))) H
set_option maxRecDepth 20000 in
theorem t_Ma_admit_17 {l : Launch} {h : Nat} (mi : TMi) (ml : TMl) (z : Nat) (a2 : Int32) (a3 : Int32) {Q : Int32 → TMi → TMl → Nat → Prop} (H : (vp_in a2 6) ∧ (vp_in a2 6) ∧ CV l h m_Ma_comeIn [.ref 55, .int a2, .int a3] (up mi 59 a2.toNatClampNeg ((mi 59 a2.toNatClampNeg) ||| ((1 : Int32) <<< (a3 &&& 31)))) ml z (fun mi3 ml3 z3 => (vp_in a3 4) ∧ CI l h m_Sc_roomOf [.ref 17, .int a3] mi3 ml3 z3 (fun x5 mi5 ml5 z5 => ((x5 < (mi3 58 a3.toNatClampNeg) → (vp_in a3 4) ∧ CI l h m_Sc_leastLiked [.ref 17, .int a3, .int (mi5 57 a3.toNatClampNeg)] mi5 ml5 z5 (fun x8 mi8 ml8 z8 => ((x8 = (-1) → Q x8 mi8 ml8 z8) ∧ (¬ x8 = (-1) → CV l h m_Ma_goOff [.ref 55, .int x8, .int a3] mi8 ml8 z8 (fun mi10 ml10 z10 => Q x8 mi10 ml10 z10))))) ∧ (¬ x5 < (mi3 58 a3.toNatClampNeg) → Q (-1) mi5 ml5 z5))))) : CI l (h + 1) m_Ma_admit [.ref 55, .ref 17, .int a2, .int a3] mi ml z Q := by
  show Ev l (h + 1) m_Ma_admit 0 ([.ref 55, .ref 17, .int a2, .int a3, .retAddr 0], [], st mi ml z) (qI Q)
  refine ev_aload_n (i := 0) rfl rfl (a_dec_at dc_Ma_admit 0 rfl) ?_
  refine m_getR (y := 59) fl_Ma_21 rfl sh55 (mr_55_3 _) (by decide) (a_dec_at dc_Ma_admit 1 rfl) ?_
  refine ev_iload_n (i := 2) rfl rfl (a_dec_at dc_Ma_admit 2 rfl) ?_
  refine ev_dup2 rfl rfl (a_dec_at dc_Ma_admit 3 rfl) ?_
  obtain ⟨c1, H⟩ := H
  refine w_iald (k := a2.toNatClampNeg) sh59 c1 rfl (a_dec_at dc_Ma_admit 4 rfl) ?_
  refine ev_iconst (v := 1) rfl (a_dec_at dc_Ma_admit 5 rfl) ?_
  refine ev_iload_n (i := 3) rfl rfl (a_dec_at dc_Ma_admit 6 rfl) ?_
  refine ev_ishl (a_dec_at dc_Ma_admit 7 rfl) ?_
  refine ev_ior (a_dec_at dc_Ma_admit 8 rfl) ?_
  obtain ⟨c2, H⟩ := H
  refine w_iast (k := a2.toNatClampNeg) sh59 c2 rfl (a_dec_at dc_Ma_admit 9 rfl) ?_
  refine ev_aload_n (i := 0) rfl rfl (a_dec_at dc_Ma_admit 10 rfl) ?_
  refine ev_iload_n (i := 2) rfl rfl (a_dec_at dc_Ma_admit 11 rfl) ?_
  refine ev_iload_n (i := 3) rfl rfl (a_dec_at dc_Ma_admit 12 rfl) ?_
  refine cV2V cs_Ma_61 sh55 rfl (Nat.le_of_ble_eq_true rfl) (Nat.le_of_ble_eq_true rfl) (a_dec_at dc_Ma_admit 13 rfl) ?_
  refine CV.mono (fun mi3 ml3 z3 H => ?_) H
  refine ev_aload_n (i := 0) rfl rfl (a_dec_at dc_Ma_admit 14 rfl) ?_
  refine m_getR (y := 58) fl_Ma_18 rfl sh55 (mr_55_2 _) (by decide) (a_dec_at dc_Ma_admit 15 rfl) ?_
  refine ev_iload_n (i := 3) rfl rfl (a_dec_at dc_Ma_admit 16 rfl) ?_
  obtain ⟨c4, H⟩ := H
  refine w_iald (k := a3.toNatClampNeg) sh58 c4 rfl (a_dec_at dc_Ma_admit 17 rfl) ?_
  refine ev_aload_n (i := 1) rfl rfl (a_dec_at dc_Ma_admit 18 rfl) ?_
  refine ev_iload_n (i := 3) rfl rfl (a_dec_at dc_Ma_admit 19 rfl) ?_
  refine cV1I cs_Ma_65 sh17 rfl (Nat.le_of_ble_eq_true rfl) (Nat.le_of_ble_eq_true rfl) (a_dec_at dc_Ma_admit 20 rfl) ?_
  refine CI.mono (fun x5 mi5 ml5 z5 H => ?_) H
  refine ev_icmp_gt (tgt := 34) (a_dec_at dc_Ma_admit 21 rfl) (by decide) (fun b6 => ?_) (fun b6 => ?_)
  · have H := H.1 b6
    refine ev_aload_n (i := 1) rfl rfl (a_dec_at dc_Ma_admit 24 rfl) ?_
    refine ev_iload_n (i := 3) rfl rfl (a_dec_at dc_Ma_admit 25 rfl) ?_
    refine ev_aload_n (i := 0) rfl rfl (a_dec_at dc_Ma_admit 26 rfl) ?_
    refine m_getR (y := 57) fl_Ma_15 rfl sh55 (mr_55_1 _) (by decide) (a_dec_at dc_Ma_admit 27 rfl) ?_
    refine ev_iload_n (i := 3) rfl rfl (a_dec_at dc_Ma_admit 28 rfl) ?_
    obtain ⟨c7, H⟩ := H
    refine w_iald (k := a3.toNatClampNeg) sh57 c7 rfl (a_dec_at dc_Ma_admit 29 rfl) ?_
    refine cV2I cs_Ma_69 sh17 rfl (Nat.le_of_ble_eq_true rfl) (Nat.le_of_ble_eq_true rfl) (a_dec_at dc_Ma_admit 30 rfl) ?_
    refine CI.mono (fun x8 mi8 ml8 z8 H => ?_) H
    refine ev_istore (by decide) rfl (a_dec_at dc_Ma_admit 31 rfl) ?_
    refine ev_iload rfl (a_dec_at dc_Ma_admit 32 rfl) ?_
    refine ev_iconst (v := (-1)) rfl (a_dec_at dc_Ma_admit 33 rfl) ?_
    refine ev_icmp_eq (tgt := 60) (a_dec_at dc_Ma_admit 34 rfl) (by decide) (fun b9 => ?_) (fun b9 => ?_)
    · have H := H.1 b9
      refine ev_iload rfl (a_dec_at dc_Ma_admit 39 rfl) ?_
      exact m_retI (a_dec_at dc_Ma_admit 40 rfl) rfl rfl H
    · have H := H.2 b9
      refine ev_aload_n (i := 0) rfl rfl (a_dec_at dc_Ma_admit 35 rfl) ?_
      refine ev_iload rfl (a_dec_at dc_Ma_admit 36 rfl) ?_
      refine ev_iload_n (i := 3) rfl rfl (a_dec_at dc_Ma_admit 37 rfl) ?_
      refine cV2V cs_Ma_72 sh55 rfl (Nat.le_of_ble_eq_true rfl) (Nat.le_of_ble_eq_true rfl) (a_dec_at dc_Ma_admit 38 rfl) ?_
      refine CV.mono (fun mi10 ml10 z10 H => ?_) H
      refine ev_iload rfl (a_dec_at dc_Ma_admit 39 rfl) ?_
      exact m_retI (a_dec_at dc_Ma_admit 40 rfl) rfl rfl H
  · have H := H.2 b6
    refine ev_iconst (v := (-1)) rfl (a_dec_at dc_Ma_admit 22 rfl) ?_
    exact m_retI (a_dec_at dc_Ma_admit 23 rfl) rfl rfl H
set_option maxRecDepth 20000 in
theorem t_Ma_bestForRivers_17 {l : Launch} {h : Nat} (mi : TMi) (ml : TMl) (z : Nat) {Q : TMi → TMl → Nat → Prop} (H : CV l h m_Ma_clear [.ref 55] mi ml z (fun mi1 ml1 z1 => Ev l (h + 1) m_Ma_bestForRivers 8 ([.ref 55, .ref 17, .int 1, .int 0, .retAddr 0], [], st mi1 ml1 z1) (qV Q))) : CV l (h + 1) m_Ma_bestForRivers [.ref 55, .ref 17] mi ml z Q := by
  show Ev l (h + 1) m_Ma_bestForRivers 0 ([.ref 55, .ref 17, .retAddr 0, .retAddr 0, .retAddr 0], [], st mi ml z) (qV Q)
  refine ev_aload_n (i := 0) rfl rfl (a_dec_at dc_Ma_bestForRivers 0 rfl) ?_
  refine cV0V cs_Ma_24 sh55 rfl (Nat.le_of_ble_eq_true rfl) (Nat.le_of_ble_eq_true rfl) (a_dec_at dc_Ma_bestForRivers 1 rfl) ?_
  refine CV.mono (fun mi1 ml1 z1 H => ?_) H
  refine ev_iconst (v := 1) rfl (a_dec_at dc_Ma_bestForRivers 2 rfl) ?_
  refine ev_istore_n (i := 2) rfl (by decide) rfl (a_dec_at dc_Ma_bestForRivers 3 rfl) ?_
  refine ev_iconst (v := 0) rfl (a_dec_at dc_Ma_bestForRivers 4 rfl) ?_
  refine ev_istore_n (i := 3) rfl (by decide) rfl (a_dec_at dc_Ma_bestForRivers 5 rfl) ?_
  exact Ev.drop (L' := [.ref 55, .ref 17, .int 1, .int 0, .retAddr 0]) (And.intro rfl (And.intro rfl (And.intro rfl (And.intro rfl trivial)))) H
set_option maxRecDepth 20000 in
theorem t_Ma_bestForRivers_17_8 {l : Launch} {h : Nat} (mi : TMi) (ml : TMl) (z : Nat) (v2 : Int32) (v3 : Int32) {Q : TMi → TMl → Nat → Prop} (H : ((24 < v3 → Q mi ml z) ∧ (¬ 24 < v3 → ((v2 = 0 → Q mi ml z) ∧ (¬ v2 = 0 → Ev l (h + 1) m_Ma_bestForRivers 23 ([.ref 55, .ref 17, .int 0, .int v3, .int 0], [], st mi ml z) (qV Q)))))) : Ev l (h + 1) m_Ma_bestForRivers 8 ([.ref 55, .ref 17, .int v2, .int v3, .retAddr 0], [], st mi ml z) (qV Q) := by
  refine ev_iload_n (i := 3) rfl rfl (a_dec_at dc_Ma_bestForRivers 6 rfl) ?_
  refine ev_bipush (v := 24) rfl (a_dec_at dc_Ma_bestForRivers 7 rfl) ?_
  refine ev_icmp_gt (tgt := 57) (a_dec_at dc_Ma_bestForRivers 8 rfl) (by decide) (fun b1 => ?_) (fun b1 => ?_)
  · have H := H.1 b1
    exact m_retV (a_dec_at dc_Ma_bestForRivers 31 rfl) rfl H
  · have H := H.2 b1
    refine ev_iload_n (i := 2) rfl rfl (a_dec_at dc_Ma_bestForRivers 9 rfl) ?_
    refine ev_if_eq (tgt := 57) (a_dec_at dc_Ma_bestForRivers 10 rfl) (by decide) (fun b2 => ?_) (fun b2 => ?_)
    · have H := H.1 b2
      exact m_retV (a_dec_at dc_Ma_bestForRivers 31 rfl) rfl H
    · have H := H.2 b2
      refine ev_iconst (v := 0) rfl (a_dec_at dc_Ma_bestForRivers 11 rfl) ?_
      refine ev_istore_n (i := 2) rfl (by decide) rfl (a_dec_at dc_Ma_bestForRivers 12 rfl) ?_
      refine ev_iconst (v := 0) rfl (a_dec_at dc_Ma_bestForRivers 13 rfl) ?_
      refine ev_istore (by decide) rfl (a_dec_at dc_Ma_bestForRivers 14 rfl) ?_
      exact Ev.drop (L' := [.ref 55, .ref 17, .int 0, .int v3, .int 0]) (And.intro rfl (And.intro rfl (And.intro rfl (And.intro rfl (And.intro rfl trivial))))) H
set_option maxRecDepth 20000 in
theorem t_Ma_bestForRivers_17_23 {l : Launch} {h : Nat} (mi : TMi) (ml : TMl) (z : Nat) (v2 : Int32) (v3 : Int32) (v4 : Int32) {Q : TMi → TMl → Nat → Prop} (H : (((mi 18 1) ≤ v4 → Ev l (h + 1) m_Ma_bestForRivers 8 ([.ref 55, .ref 17, .int v2, .int (v3 + 1), .retAddr 0], [], st mi ml z) (qV Q)) ∧ (¬ (mi 18 1) ≤ v4 → CI l h m_Ma_asksOne [.ref 55, .ref 17, .int v4] mi ml z (fun x2 mi2 ml2 z2 => Ev l (h + 1) m_Ma_bestForRivers 23 ([.ref 55, .ref 17, .int (v2 ||| x2), .int v3, .int (v4 + 1)], [], st mi2 ml2 z2) (qV Q))))) : Ev l (h + 1) m_Ma_bestForRivers 23 ([.ref 55, .ref 17, .int v2, .int v3, .int v4], [], st mi ml z) (qV Q) := by
  refine ev_iload rfl (a_dec_at dc_Ma_bestForRivers 15 rfl) ?_
  refine ev_aload_n (i := 1) rfl rfl (a_dec_at dc_Ma_bestForRivers 16 rfl) ?_
  refine m_getR (y := 18) fl_Ma_27 rfl sh17 (mr_17_0 _) (by decide) (a_dec_at dc_Ma_bestForRivers 17 rfl) ?_
  refine m_getI fl_Ma_75 rfl sh18 (a_dec_at dc_Ma_bestForRivers 18 rfl) ?_
  refine ev_icmp_ge (tgt := 51) (a_dec_at dc_Ma_bestForRivers 19 rfl) (by decide) (fun b1 => ?_) (fun b1 => ?_)
  · have H := H.1 b1
    refine ev_iinc (v := 1) rfl rfl (by decide) rfl (a_dec_at dc_Ma_bestForRivers 29 rfl) ?_
    refine ev_goto (tgt := 8) (a_dec_at dc_Ma_bestForRivers 30 rfl) (by decide) ?_
    exact Ev.drop (L' := [.ref 55, .ref 17, .int v2, .int (v3 + 1), .retAddr 0]) (And.intro rfl (And.intro rfl (And.intro rfl (And.intro rfl trivial)))) H
  · have H := H.2 b1
    refine ev_iload_n (i := 2) rfl rfl (a_dec_at dc_Ma_bestForRivers 20 rfl) ?_
    refine ev_aload_n (i := 0) rfl rfl (a_dec_at dc_Ma_bestForRivers 21 rfl) ?_
    refine ev_aload_n (i := 1) rfl rfl (a_dec_at dc_Ma_bestForRivers 22 rfl) ?_
    refine ev_iload rfl (a_dec_at dc_Ma_bestForRivers 23 rfl) ?_
    refine cV2I cs_Ma_78 sh55 rfl (Nat.le_of_ble_eq_true rfl) (Nat.le_of_ble_eq_true rfl) (a_dec_at dc_Ma_bestForRivers 24 rfl) ?_
    refine CI.mono (fun x2 mi2 ml2 z2 H => ?_) H
    refine ev_ior (a_dec_at dc_Ma_bestForRivers 25 rfl) ?_
    refine ev_istore_n (i := 2) rfl (by decide) rfl (a_dec_at dc_Ma_bestForRivers 26 rfl) ?_
    refine ev_iinc (v := 1) rfl rfl (by decide) rfl (a_dec_at dc_Ma_bestForRivers 27 rfl) ?_
    refine ev_goto (tgt := 23) (a_dec_at dc_Ma_bestForRivers 28 rfl) (by decide) ?_
    exact Ev.drop (L' := [.ref 55, .ref 17, .int (v2 ||| x2), .int v3, .int (v4 + 1)]) (And.intro rfl (And.intro rfl (And.intro rfl (And.intro rfl (And.intro rfl trivial))))) H
set_option maxRecDepth 20000 in
theorem t_Ma_asksOne_17 {l : Launch} {h : Nat} (mi : TMi) (ml : TMl) (z : Nat) (a2 : Int32) {Q : Int32 → TMi → TMl → Nat → Prop} (H : (vp_in a2 4) ∧ CI l h m_Sc_roomOf [.ref 17, .int a2] mi ml z (fun x2 mi2 ml2 z2 => ((x2 ≤ (mi 58 a2.toNatClampNeg) → Q 0 mi2 ml2 z2) ∧ (¬ x2 ≤ (mi 58 a2.toNatClampNeg) → CI l h m_Ma_nextBeck [.ref 55, .ref 17, .int a2] mi2 ml2 z2 (fun x4 mi4 ml4 z4 => ((¬ x4 = (-1) → (vp_in a2 6) ∧ (vp_in a2 6) ∧ (vp_in x4 6) ∧ ((¬ ((up mi4 59 a2.toNatClampNeg ((mi4 59 a2.toNatClampNeg) ||| ((1 : Int32) <<< (x4 &&& 31)))) 56 x4.toNatClampNeg) = (-1) → CI l h m_Sc_likesBetter [.ref 17, .int x4, .int a2, .int ((up mi4 59 a2.toNatClampNeg ((mi4 59 a2.toNatClampNeg) ||| ((1 : Int32) <<< (x4 &&& 31)))) 56 x4.toNatClampNeg)] (up mi4 59 a2.toNatClampNeg ((mi4 59 a2.toNatClampNeg) ||| ((1 : Int32) <<< (x4 &&& 31)))) ml4 z4 (fun x10 mi10 ml10 z10 => ((x10 = 0 → Q 1 mi10 ml10 z10) ∧ (¬ x10 = 0 → CV l h m_Ma_goOff [.ref 55, .int x4, .int ((up mi4 59 a2.toNatClampNeg ((mi4 59 a2.toNatClampNeg) ||| ((1 : Int32) <<< (x4 &&& 31)))) 56 x4.toNatClampNeg)] mi10 ml10 z10 (fun mi12 ml12 z12 => CV l h m_Ma_comeIn [.ref 55, .int x4, .int a2] mi12 ml12 z12 (fun mi13 ml13 z13 => Q 1 mi13 ml13 z13)))))) ∧ (((up mi4 59 a2.toNatClampNeg ((mi4 59 a2.toNatClampNeg) ||| ((1 : Int32) <<< (x4 &&& 31)))) 56 x4.toNatClampNeg) = (-1) → CV l h m_Ma_comeIn [.ref 55, .int x4, .int a2] (up mi4 59 a2.toNatClampNeg ((mi4 59 a2.toNatClampNeg) ||| ((1 : Int32) <<< (x4 &&& 31)))) ml4 z4 (fun mi14 ml14 z14 => Q 1 mi14 ml14 z14)))) ∧ (x4 = (-1) → Q 0 mi4 ml4 z4))))))) : CI l (h + 1) m_Ma_asksOne [.ref 55, .ref 17, .int a2] mi ml z Q := by
  show Ev l (h + 1) m_Ma_asksOne 0 ([.ref 55, .ref 17, .int a2, .retAddr 0, .retAddr 0], [], st mi ml z) (qI Q)
  refine ev_aload_n (i := 0) rfl rfl (a_dec_at dc_Ma_asksOne 0 rfl) ?_
  refine m_getR (y := 58) fl_Ma_18 rfl sh55 (mr_55_2 _) (by decide) (a_dec_at dc_Ma_asksOne 1 rfl) ?_
  refine ev_iload_n (i := 2) rfl rfl (a_dec_at dc_Ma_asksOne 2 rfl) ?_
  obtain ⟨c1, H⟩ := H
  refine w_iald (k := a2.toNatClampNeg) sh58 c1 rfl (a_dec_at dc_Ma_asksOne 3 rfl) ?_
  refine ev_aload_n (i := 1) rfl rfl (a_dec_at dc_Ma_asksOne 4 rfl) ?_
  refine ev_iload_n (i := 2) rfl rfl (a_dec_at dc_Ma_asksOne 5 rfl) ?_
  refine cV1I cs_Ma_65 sh17 rfl (Nat.le_of_ble_eq_true rfl) (Nat.le_of_ble_eq_true rfl) (a_dec_at dc_Ma_asksOne 6 rfl) ?_
  refine CI.mono (fun x2 mi2 ml2 z2 H => ?_) H
  refine ev_icmp_ge (tgt := 23) (a_dec_at dc_Ma_asksOne 7 rfl) (by decide) (fun b3 => ?_) (fun b3 => ?_)
  · have H := H.1 b3
    refine ev_iconst (v := (-1)) rfl (a_dec_at dc_Ma_asksOne 13 rfl) ?_
    refine ev_istore_n (i := 3) rfl (by decide) rfl (a_dec_at dc_Ma_asksOne 14 rfl) ?_
    refine ev_iload_n (i := 3) rfl rfl (a_dec_at dc_Ma_asksOne 15 rfl) ?_
    refine ev_iconst (v := (-1)) rfl (a_dec_at dc_Ma_asksOne 16 rfl) ?_
    refine ev_icmp_ne (tgt := 32) (a_dec_at dc_Ma_asksOne 17 rfl) (by decide) (fun q => absurd rfl q) (fun _ => ?_)
    refine ev_iconst (v := 0) rfl (a_dec_at dc_Ma_asksOne 18 rfl) ?_
    exact m_retI (a_dec_at dc_Ma_asksOne 19 rfl) rfl rfl H
  · have H := H.2 b3
    refine ev_aload_n (i := 0) rfl rfl (a_dec_at dc_Ma_asksOne 8 rfl) ?_
    refine ev_aload_n (i := 1) rfl rfl (a_dec_at dc_Ma_asksOne 9 rfl) ?_
    refine ev_iload_n (i := 2) rfl rfl (a_dec_at dc_Ma_asksOne 10 rfl) ?_
    refine cV2I cs_Ma_82 sh55 rfl (Nat.le_of_ble_eq_true rfl) (Nat.le_of_ble_eq_true rfl) (a_dec_at dc_Ma_asksOne 11 rfl) ?_
    refine CI.mono (fun x4 mi4 ml4 z4 H => ?_) H
    refine ev_goto (tgt := 24) (a_dec_at dc_Ma_asksOne 12 rfl) (by decide) ?_
    refine ev_istore_n (i := 3) rfl (by decide) rfl (a_dec_at dc_Ma_asksOne 14 rfl) ?_
    refine ev_iload_n (i := 3) rfl rfl (a_dec_at dc_Ma_asksOne 15 rfl) ?_
    refine ev_iconst (v := (-1)) rfl (a_dec_at dc_Ma_asksOne 16 rfl) ?_
    refine ev_icmp_ne (tgt := 32) (a_dec_at dc_Ma_asksOne 17 rfl) (by decide) (fun b5 => ?_) (fun b5 => ?_)
    · have H := H.1 b5
      refine ev_aload_n (i := 0) rfl rfl (a_dec_at dc_Ma_asksOne 20 rfl) ?_
      refine m_getR (y := 59) fl_Ma_21 rfl sh55 (mr_55_3 _) (by decide) (a_dec_at dc_Ma_asksOne 21 rfl) ?_
      refine ev_iload_n (i := 2) rfl rfl (a_dec_at dc_Ma_asksOne 22 rfl) ?_
      refine ev_dup2 rfl rfl (a_dec_at dc_Ma_asksOne 23 rfl) ?_
      obtain ⟨c6, H⟩ := H
      refine w_iald (k := a2.toNatClampNeg) sh59 c6 rfl (a_dec_at dc_Ma_asksOne 24 rfl) ?_
      refine ev_iconst (v := 1) rfl (a_dec_at dc_Ma_asksOne 25 rfl) ?_
      refine ev_iload_n (i := 3) rfl rfl (a_dec_at dc_Ma_asksOne 26 rfl) ?_
      refine ev_ishl (a_dec_at dc_Ma_asksOne 27 rfl) ?_
      refine ev_ior (a_dec_at dc_Ma_asksOne 28 rfl) ?_
      obtain ⟨c7, H⟩ := H
      refine w_iast (k := a2.toNatClampNeg) sh59 c7 rfl (a_dec_at dc_Ma_asksOne 29 rfl) ?_
      refine ev_aload_n (i := 0) rfl rfl (a_dec_at dc_Ma_asksOne 30 rfl) ?_
      refine m_getR (y := 56) fl_Ma_9 rfl sh55 (mr_55_0 _) (by decide) (a_dec_at dc_Ma_asksOne 31 rfl) ?_
      refine ev_iload_n (i := 3) rfl rfl (a_dec_at dc_Ma_asksOne 32 rfl) ?_
      obtain ⟨c8, H⟩ := H
      refine w_iald (k := x4.toNatClampNeg) sh56 c8 rfl (a_dec_at dc_Ma_asksOne 33 rfl) ?_
      refine ev_istore (by decide) rfl (a_dec_at dc_Ma_asksOne 34 rfl) ?_
      refine ev_iload rfl (a_dec_at dc_Ma_asksOne 35 rfl) ?_
      refine ev_iconst (v := (-1)) rfl (a_dec_at dc_Ma_asksOne 36 rfl) ?_
      refine ev_icmp_ne (tgt := 67) (a_dec_at dc_Ma_asksOne 37 rfl) (by decide) (fun b9 => ?_) (fun b9 => ?_)
      · have H := H.1 b9
        refine ev_aload_n (i := 1) rfl rfl (a_dec_at dc_Ma_asksOne 43 rfl) ?_
        refine ev_iload_n (i := 3) rfl rfl (a_dec_at dc_Ma_asksOne 44 rfl) ?_
        refine ev_iload_n (i := 2) rfl rfl (a_dec_at dc_Ma_asksOne 45 rfl) ?_
        refine ev_iload rfl (a_dec_at dc_Ma_asksOne 46 rfl) ?_
        refine cV3I cs_Ma_85 sh17 rfl (Nat.le_of_ble_eq_true rfl) (Nat.le_of_ble_eq_true rfl) (a_dec_at dc_Ma_asksOne 47 rfl) ?_
        refine CI.mono (fun x10 mi10 ml10 z10 H => ?_) H
        refine ev_if_eq (tgt := 91) (a_dec_at dc_Ma_asksOne 48 rfl) (by decide) (fun b11 => ?_) (fun b11 => ?_)
        · have H := H.1 b11
          refine ev_iconst (v := 1) rfl (a_dec_at dc_Ma_asksOne 57 rfl) ?_
          exact m_retI (a_dec_at dc_Ma_asksOne 58 rfl) rfl rfl H
        · have H := H.2 b11
          refine ev_aload_n (i := 0) rfl rfl (a_dec_at dc_Ma_asksOne 49 rfl) ?_
          refine ev_iload_n (i := 3) rfl rfl (a_dec_at dc_Ma_asksOne 50 rfl) ?_
          refine ev_iload rfl (a_dec_at dc_Ma_asksOne 51 rfl) ?_
          refine cV2V cs_Ma_72 sh55 rfl (Nat.le_of_ble_eq_true rfl) (Nat.le_of_ble_eq_true rfl) (a_dec_at dc_Ma_asksOne 52 rfl) ?_
          refine CV.mono (fun mi12 ml12 z12 H => ?_) H
          refine ev_aload_n (i := 0) rfl rfl (a_dec_at dc_Ma_asksOne 53 rfl) ?_
          refine ev_iload_n (i := 3) rfl rfl (a_dec_at dc_Ma_asksOne 54 rfl) ?_
          refine ev_iload_n (i := 2) rfl rfl (a_dec_at dc_Ma_asksOne 55 rfl) ?_
          refine cV2V cs_Ma_61 sh55 rfl (Nat.le_of_ble_eq_true rfl) (Nat.le_of_ble_eq_true rfl) (a_dec_at dc_Ma_asksOne 56 rfl) ?_
          refine CV.mono (fun mi13 ml13 z13 H => ?_) H
          refine ev_iconst (v := 1) rfl (a_dec_at dc_Ma_asksOne 57 rfl) ?_
          exact m_retI (a_dec_at dc_Ma_asksOne 58 rfl) rfl rfl H
      · have H := H.2 b9
        refine ev_aload_n (i := 0) rfl rfl (a_dec_at dc_Ma_asksOne 38 rfl) ?_
        refine ev_iload_n (i := 3) rfl rfl (a_dec_at dc_Ma_asksOne 39 rfl) ?_
        refine ev_iload_n (i := 2) rfl rfl (a_dec_at dc_Ma_asksOne 40 rfl) ?_
        refine cV2V cs_Ma_61 sh55 rfl (Nat.le_of_ble_eq_true rfl) (Nat.le_of_ble_eq_true rfl) (a_dec_at dc_Ma_asksOne 41 rfl) ?_
        refine CV.mono (fun mi14 ml14 z14 H => ?_) H
        refine ev_goto (tgt := 91) (a_dec_at dc_Ma_asksOne 42 rfl) (by decide) ?_
        refine ev_iconst (v := 1) rfl (a_dec_at dc_Ma_asksOne 57 rfl) ?_
        exact m_retI (a_dec_at dc_Ma_asksOne 58 rfl) rfl rfl H
    · have H := H.2 b5
      refine ev_iconst (v := 0) rfl (a_dec_at dc_Ma_asksOne 18 rfl) ?_
      exact m_retI (a_dec_at dc_Ma_asksOne 19 rfl) rfl rfl H
set_option maxRecDepth 20000 in
theorem t_Ma_nextBeck_17 {l : Launch} {h : Nat} (mi : TMi) (ml : TMl) (z : Nat) (a2 : Int32) {Q : Int32 → TMi → TMl → Nat → Prop} (H : Ev l (h + 1) m_Ma_nextBeck 5 ([.ref 55, .ref 17, .int a2, .int (-1), .int 0, .retAddr 0], [], st mi ml z) (qI Q)) : CI l (h + 1) m_Ma_nextBeck [.ref 55, .ref 17, .int a2] mi ml z Q := by
  show Ev l (h + 1) m_Ma_nextBeck 0 ([.ref 55, .ref 17, .int a2, .retAddr 0, .retAddr 0, .retAddr 0], [], st mi ml z) (qI Q)
  refine ev_iconst (v := (-1)) rfl (a_dec_at dc_Ma_nextBeck 0 rfl) ?_
  refine ev_istore_n (i := 3) rfl (by decide) rfl (a_dec_at dc_Ma_nextBeck 1 rfl) ?_
  refine ev_iconst (v := 0) rfl (a_dec_at dc_Ma_nextBeck 2 rfl) ?_
  refine ev_istore (by decide) rfl (a_dec_at dc_Ma_nextBeck 3 rfl) ?_
  exact Ev.drop (L' := [.ref 55, .ref 17, .int a2, .int (-1), .int 0, .retAddr 0]) (And.intro rfl (And.intro rfl (And.intro rfl (And.intro rfl (And.intro rfl trivial))))) H
set_option maxRecDepth 20000 in
theorem t_Ma_nextBeck_17_5 {l : Launch} {h : Nat} (mi : TMi) (ml : TMl) (z : Nat) (v2 : Int32) (v3 : Int32) (v4 : Int32) {Q : Int32 → TMi → TMl → Nat → Prop} (H : (((mi 18 0) ≤ v4 → Q v3 mi ml z) ∧ (¬ (mi 18 0) ≤ v4 → CI l h m_Sc_bothWould [.ref 17, .int v4, .int v2] mi ml z (fun x2 mi2 ml2 z2 => ((x2 = 0 → Ev l (h + 1) m_Ma_nextBeck 5 ([.ref 55, .ref 17, .int v2, .int v3, .int (v4 + 1), .retAddr 0], [], st mi2 ml2 z2) (qI Q)) ∧ (¬ x2 = 0 → (vp_in v2 6) ∧ ((¬ (((mi2 59 v2.toNatClampNeg) >>> (v4 &&& 31)) &&& 1) = 0 → Ev l (h + 1) m_Ma_nextBeck 5 ([.ref 55, .ref 17, .int v2, .int v3, .int (v4 + 1), .retAddr 0], [], st mi2 ml2 z2) (qI Q)) ∧ ((((mi2 59 v2.toNatClampNeg) >>> (v4 &&& 31)) &&& 1) = 0 → ((v3 = (-1) → Ev l (h + 1) m_Ma_nextBeck 5 ([.ref 55, .ref 17, .int v2, .int v4, .int (v4 + 1), .retAddr 0], [], st mi2 ml2 z2) (qI Q)) ∧ (¬ v3 = (-1) → CI l h m_Sc_takesBetter [.ref 17, .int v2, .int v4, .int v3] mi2 ml2 z2 (fun x7 mi7 ml7 z7 => ((x7 = 0 → Ev l (h + 1) m_Ma_nextBeck 5 ([.ref 55, .ref 17, .int v2, .int v3, .int (v4 + 1), .retAddr 0], [], st mi7 ml7 z7) (qI Q)) ∧ (¬ x7 = 0 → Ev l (h + 1) m_Ma_nextBeck 5 ([.ref 55, .ref 17, .int v2, .int v4, .int (v4 + 1), .retAddr 0], [], st mi7 ml7 z7) (qI Q)))))))))))))) : Ev l (h + 1) m_Ma_nextBeck 5 ([.ref 55, .ref 17, .int v2, .int v3, .int v4, .retAddr 0], [], st mi ml z) (qI Q) := by
  refine ev_iload rfl (a_dec_at dc_Ma_nextBeck 4 rfl) ?_
  refine ev_aload_n (i := 1) rfl rfl (a_dec_at dc_Ma_nextBeck 5 rfl) ?_
  refine m_getR (y := 18) fl_Ma_27 rfl sh17 (mr_17_0 _) (by decide) (a_dec_at dc_Ma_nextBeck 6 rfl) ?_
  refine m_getI fl_Ma_33 rfl sh18 (a_dec_at dc_Ma_nextBeck 7 rfl) ?_
  refine ev_icmp_ge (tgt := 78) (a_dec_at dc_Ma_nextBeck 8 rfl) (by decide) (fun b1 => ?_) (fun b1 => ?_)
  · have H := H.1 b1
    refine ev_iload_n (i := 3) rfl rfl (a_dec_at dc_Ma_nextBeck 42 rfl) ?_
    exact m_retI (a_dec_at dc_Ma_nextBeck 43 rfl) rfl rfl H
  · have H := H.2 b1
    refine ev_aload_n (i := 1) rfl rfl (a_dec_at dc_Ma_nextBeck 9 rfl) ?_
    refine ev_iload rfl (a_dec_at dc_Ma_nextBeck 10 rfl) ?_
    refine ev_iload_n (i := 2) rfl rfl (a_dec_at dc_Ma_nextBeck 11 rfl) ?_
    refine cV2I cs_Ma_89 sh17 rfl (Nat.le_of_ble_eq_true rfl) (Nat.le_of_ble_eq_true rfl) (a_dec_at dc_Ma_nextBeck 12 rfl) ?_
    refine CI.mono (fun x2 mi2 ml2 z2 H => ?_) H
    refine ev_if_eq (tgt := 45) (a_dec_at dc_Ma_nextBeck 13 rfl) (by decide) (fun b3 => ?_) (fun b3 => ?_)
    · have H := H.1 b3
      refine ev_iconst (v := 0) rfl (a_dec_at dc_Ma_nextBeck 25 rfl) ?_
      refine ev_istore (by decide) rfl (a_dec_at dc_Ma_nextBeck 26 rfl) ?_
      refine ev_iload rfl (a_dec_at dc_Ma_nextBeck 27 rfl) ?_
      refine ev_if_eq (tgt := 72) (a_dec_at dc_Ma_nextBeck 28 rfl) (by decide) (fun _ => ?_) (fun q => absurd (by decide) q)
      refine ev_iinc (v := 1) rfl rfl (by decide) rfl (a_dec_at dc_Ma_nextBeck 40 rfl) ?_
      refine ev_goto (tgt := 5) (a_dec_at dc_Ma_nextBeck 41 rfl) (by decide) ?_
      exact Ev.drop (L' := [.ref 55, .ref 17, .int v2, .int v3, .int (v4 + 1), .retAddr 0]) (And.intro rfl (And.intro rfl (And.intro rfl (And.intro rfl (And.intro rfl trivial))))) H
    · have H := H.2 b3
      refine ev_aload_n (i := 0) rfl rfl (a_dec_at dc_Ma_nextBeck 14 rfl) ?_
      refine m_getR (y := 59) fl_Ma_21 rfl sh55 (mr_55_3 _) (by decide) (a_dec_at dc_Ma_nextBeck 15 rfl) ?_
      refine ev_iload_n (i := 2) rfl rfl (a_dec_at dc_Ma_nextBeck 16 rfl) ?_
      obtain ⟨c4, H⟩ := H
      refine w_iald (k := v2.toNatClampNeg) sh59 c4 rfl (a_dec_at dc_Ma_nextBeck 17 rfl) ?_
      refine ev_iload rfl (a_dec_at dc_Ma_nextBeck 18 rfl) ?_
      refine ev_ishr (a_dec_at dc_Ma_nextBeck 19 rfl) ?_
      refine ev_iconst (v := 1) rfl (a_dec_at dc_Ma_nextBeck 20 rfl) ?_
      refine ev_iand (a_dec_at dc_Ma_nextBeck 21 rfl) ?_
      refine ev_if_ne (tgt := 45) (a_dec_at dc_Ma_nextBeck 22 rfl) (by decide) (fun b5 => ?_) (fun b5 => ?_)
      · have H := H.1 b5
        refine ev_iconst (v := 0) rfl (a_dec_at dc_Ma_nextBeck 25 rfl) ?_
        refine ev_istore (by decide) rfl (a_dec_at dc_Ma_nextBeck 26 rfl) ?_
        refine ev_iload rfl (a_dec_at dc_Ma_nextBeck 27 rfl) ?_
        refine ev_if_eq (tgt := 72) (a_dec_at dc_Ma_nextBeck 28 rfl) (by decide) (fun _ => ?_) (fun q => absurd (by decide) q)
        refine ev_iinc (v := 1) rfl rfl (by decide) rfl (a_dec_at dc_Ma_nextBeck 40 rfl) ?_
        refine ev_goto (tgt := 5) (a_dec_at dc_Ma_nextBeck 41 rfl) (by decide) ?_
        exact Ev.drop (L' := [.ref 55, .ref 17, .int v2, .int v3, .int (v4 + 1), .retAddr 0]) (And.intro rfl (And.intro rfl (And.intro rfl (And.intro rfl (And.intro rfl trivial))))) H
      · have H := H.2 b5
        refine ev_iconst (v := 1) rfl (a_dec_at dc_Ma_nextBeck 23 rfl) ?_
        refine ev_goto (tgt := 46) (a_dec_at dc_Ma_nextBeck 24 rfl) (by decide) ?_
        refine ev_istore (by decide) rfl (a_dec_at dc_Ma_nextBeck 26 rfl) ?_
        refine ev_iload rfl (a_dec_at dc_Ma_nextBeck 27 rfl) ?_
        refine ev_if_eq (tgt := 72) (a_dec_at dc_Ma_nextBeck 28 rfl) (by decide) (fun q => absurd q (by decide)) (fun _ => ?_)
        refine ev_iload_n (i := 3) rfl rfl (a_dec_at dc_Ma_nextBeck 29 rfl) ?_
        refine ev_iconst (v := (-1)) rfl (a_dec_at dc_Ma_nextBeck 30 rfl) ?_
        refine ev_icmp_eq (tgt := 69) (a_dec_at dc_Ma_nextBeck 31 rfl) (by decide) (fun b6 => ?_) (fun b6 => ?_)
        · have H := H.1 b6
          refine ev_iload rfl (a_dec_at dc_Ma_nextBeck 38 rfl) ?_
          refine ev_istore_n (i := 3) rfl (by decide) rfl (a_dec_at dc_Ma_nextBeck 39 rfl) ?_
          refine ev_iinc (v := 1) rfl rfl (by decide) rfl (a_dec_at dc_Ma_nextBeck 40 rfl) ?_
          refine ev_goto (tgt := 5) (a_dec_at dc_Ma_nextBeck 41 rfl) (by decide) ?_
          exact Ev.drop (L' := [.ref 55, .ref 17, .int v2, .int v4, .int (v4 + 1), .retAddr 0]) (And.intro rfl (And.intro rfl (And.intro rfl (And.intro rfl (And.intro rfl trivial))))) H
        · have H := H.2 b6
          refine ev_aload_n (i := 1) rfl rfl (a_dec_at dc_Ma_nextBeck 32 rfl) ?_
          refine ev_iload_n (i := 2) rfl rfl (a_dec_at dc_Ma_nextBeck 33 rfl) ?_
          refine ev_iload rfl (a_dec_at dc_Ma_nextBeck 34 rfl) ?_
          refine ev_iload_n (i := 3) rfl rfl (a_dec_at dc_Ma_nextBeck 35 rfl) ?_
          refine cV3I cs_Ma_93 sh17 rfl (Nat.le_of_ble_eq_true rfl) (Nat.le_of_ble_eq_true rfl) (a_dec_at dc_Ma_nextBeck 36 rfl) ?_
          refine CI.mono (fun x7 mi7 ml7 z7 H => ?_) H
          refine ev_if_eq (tgt := 72) (a_dec_at dc_Ma_nextBeck 37 rfl) (by decide) (fun b8 => ?_) (fun b8 => ?_)
          · have H := H.1 b8
            refine ev_iinc (v := 1) rfl rfl (by decide) rfl (a_dec_at dc_Ma_nextBeck 40 rfl) ?_
            refine ev_goto (tgt := 5) (a_dec_at dc_Ma_nextBeck 41 rfl) (by decide) ?_
            exact Ev.drop (L' := [.ref 55, .ref 17, .int v2, .int v3, .int (v4 + 1), .retAddr 0]) (And.intro rfl (And.intro rfl (And.intro rfl (And.intro rfl (And.intro rfl trivial))))) H
          · have H := H.2 b8
            refine ev_iload rfl (a_dec_at dc_Ma_nextBeck 38 rfl) ?_
            refine ev_istore_n (i := 3) rfl (by decide) rfl (a_dec_at dc_Ma_nextBeck 39 rfl) ?_
            refine ev_iinc (v := 1) rfl rfl (by decide) rfl (a_dec_at dc_Ma_nextBeck 40 rfl) ?_
            refine ev_goto (tgt := 5) (a_dec_at dc_Ma_nextBeck 41 rfl) (by decide) ?_
            exact Ev.drop (L' := [.ref 55, .ref 17, .int v2, .int v4, .int (v4 + 1), .retAddr 0]) (And.intro rfl (And.intro rfl (And.intro rfl (And.intro rfl (And.intro rfl trivial))))) H
set_option maxRecDepth 20000 in
theorem t_Ma_bestForBecks_33 {l : Launch} {h : Nat} (mi : TMi) (ml : TMl) (z : Nat) (a2 : Int32) {Q : TMi → TMl → Nat → Prop} (H : CV l h m_Ma_clear [.ref 55] mi ml z (fun mi1 ml1 z1 => Ev l (h + 1) m_Ma_bestForBecks 6 ([.ref 55, .ref 33, .int a2, .int 0], [], st mi1 ml1 z1) (qV Q))) : CV l (h + 1) m_Ma_bestForBecks [.ref 55, .ref 33, .int a2] mi ml z Q := by
  show Ev l (h + 1) m_Ma_bestForBecks 0 ([.ref 55, .ref 33, .int a2, .retAddr 0], [], st mi ml z) (qV Q)
  refine ev_aload_n (i := 0) rfl rfl (a_dec_at dc_Ma_bestForBecks 0 rfl) ?_
  refine cV0V cs_Ma_24 sh55 rfl (Nat.le_of_ble_eq_true rfl) (Nat.le_of_ble_eq_true rfl) (a_dec_at dc_Ma_bestForBecks 1 rfl) ?_
  refine CV.mono (fun mi1 ml1 z1 H => ?_) H
  refine ev_iconst (v := 0) rfl (a_dec_at dc_Ma_bestForBecks 2 rfl) ?_
  refine ev_istore_n (i := 3) rfl (by decide) rfl (a_dec_at dc_Ma_bestForBecks 3 rfl) ?_
  exact Ev.drop (L' := [.ref 55, .ref 33, .int a2, .int 0]) (And.intro rfl (And.intro rfl (And.intro rfl (And.intro rfl trivial)))) H
set_option maxRecDepth 20000 in
theorem t_Ma_bestForBecks_33_6 {l : Launch} {h : Nat} (mi : TMi) (ml : TMl) (z : Nat) (v2 : Int32) (v3 : Int32) {Q : TMi → TMl → Nat → Prop} (H : (((mi 18 0) ≤ v3 → Q mi ml z) ∧ (¬ (mi 18 0) ≤ v3 → ((((v2 >>> (v3 &&& 31)) &&& 1) = 0 → Ev l (h + 1) m_Ma_bestForBecks 6 ([.ref 55, .ref 33, .int v2, .int (v3 + 1)], [], st mi ml z) (qV Q)) ∧ (¬ ((v2 >>> (v3 &&& 31)) &&& 1) = 0 → CV l h m_Ma_settle [.ref 55, .ref 33, .int v3] mi ml z (fun mi3 ml3 z3 => Ev l (h + 1) m_Ma_bestForBecks 6 ([.ref 55, .ref 33, .int v2, .int (v3 + 1)], [], st mi3 ml3 z3) (qV Q))))))) : Ev l (h + 1) m_Ma_bestForBecks 6 ([.ref 55, .ref 33, .int v2, .int v3], [], st mi ml z) (qV Q) := by
  refine ev_iload_n (i := 3) rfl rfl (a_dec_at dc_Ma_bestForBecks 4 rfl) ?_
  refine ev_aload_n (i := 1) rfl rfl (a_dec_at dc_Ma_bestForBecks 5 rfl) ?_
  refine m_getR (y := 18) fl_Ma_27 rfl sh33 (mr_33_0 _) (by decide) (a_dec_at dc_Ma_bestForBecks 6 rfl) ?_
  refine m_getI fl_Ma_33 rfl sh18 (a_dec_at dc_Ma_bestForBecks 7 rfl) ?_
  refine ev_icmp_ge (tgt := 37) (a_dec_at dc_Ma_bestForBecks 8 rfl) (by decide) (fun b1 => ?_) (fun b1 => ?_)
  · have H := H.1 b1
    exact m_retV (a_dec_at dc_Ma_bestForBecks 21 rfl) rfl H
  · have H := H.2 b1
    refine ev_iload_n (i := 2) rfl rfl (a_dec_at dc_Ma_bestForBecks 9 rfl) ?_
    refine ev_iload_n (i := 3) rfl rfl (a_dec_at dc_Ma_bestForBecks 10 rfl) ?_
    refine ev_ishr (a_dec_at dc_Ma_bestForBecks 11 rfl) ?_
    refine ev_iconst (v := 1) rfl (a_dec_at dc_Ma_bestForBecks 12 rfl) ?_
    refine ev_iand (a_dec_at dc_Ma_bestForBecks 13 rfl) ?_
    refine ev_if_eq (tgt := 31) (a_dec_at dc_Ma_bestForBecks 14 rfl) (by decide) (fun b2 => ?_) (fun b2 => ?_)
    · have H := H.1 b2
      refine ev_iinc (v := 1) rfl rfl (by decide) rfl (a_dec_at dc_Ma_bestForBecks 19 rfl) ?_
      refine ev_goto (tgt := 6) (a_dec_at dc_Ma_bestForBecks 20 rfl) (by decide) ?_
      exact Ev.drop (L' := [.ref 55, .ref 33, .int v2, .int (v3 + 1)]) (And.intro rfl (And.intro rfl (And.intro rfl (And.intro rfl trivial)))) H
    · have H := H.2 b2
      refine ev_aload_n (i := 0) rfl rfl (a_dec_at dc_Ma_bestForBecks 15 rfl) ?_
      refine ev_aload_n (i := 1) rfl rfl (a_dec_at dc_Ma_bestForBecks 16 rfl) ?_
      refine ev_iload_n (i := 3) rfl rfl (a_dec_at dc_Ma_bestForBecks 17 rfl) ?_
      refine cV2V cs_Ma_39 sh55 rfl (Nat.le_of_ble_eq_true rfl) (Nat.le_of_ble_eq_true rfl) (a_dec_at dc_Ma_bestForBecks 18 rfl) ?_
      refine CV.mono (fun mi3 ml3 z3 H => ?_) H
      refine ev_iinc (v := 1) rfl rfl (by decide) rfl (a_dec_at dc_Ma_bestForBecks 19 rfl) ?_
      refine ev_goto (tgt := 6) (a_dec_at dc_Ma_bestForBecks 20 rfl) (by decide) ?_
      exact Ev.drop (L' := [.ref 55, .ref 33, .int v2, .int (v3 + 1)]) (And.intro rfl (And.intro rfl (And.intro rfl (And.intro rfl trivial)))) H
set_option maxRecDepth 20000 in
theorem t_Ma_settle_33 {l : Launch} {h : Nat} (mi : TMi) (ml : TMl) (z : Nat) (a2 : Int32) {Q : TMi → TMl → Nat → Prop} (H : Ev l (h + 1) m_Ma_settle 5 ([.ref 55, .ref 33, .retAddr 0, .int a2, .int 0, .retAddr 0], [], st mi ml z) (qV Q)) : CV l (h + 1) m_Ma_settle [.ref 55, .ref 33, .int a2] mi ml z Q := by
  show Ev l (h + 1) m_Ma_settle 0 ([.ref 55, .ref 33, .int a2, .retAddr 0, .retAddr 0, .retAddr 0], [], st mi ml z) (qV Q)
  refine ev_iload_n (i := 2) rfl rfl (a_dec_at dc_Ma_settle 0 rfl) ?_
  refine ev_istore_n (i := 3) rfl (by decide) rfl (a_dec_at dc_Ma_settle 1 rfl) ?_
  refine ev_iconst (v := 0) rfl (a_dec_at dc_Ma_settle 2 rfl) ?_
  refine ev_istore (by decide) rfl (a_dec_at dc_Ma_settle 3 rfl) ?_
  exact Ev.drop (L' := [.ref 55, .ref 33, .retAddr 0, .int a2, .int 0, .retAddr 0]) (And.intro rfl (And.intro rfl (And.intro rfl (And.intro rfl trivial)))) H
set_option maxRecDepth 20000 in
theorem t_Ma_settle_33_5 {l : Launch} {h : Nat} (mi : TMi) (ml : TMl) (z : Nat) (v3 : Int32) (v4 : Int32) {Q : TMi → TMl → Nat → Prop} (H : ((24 ≤ v4 → Q mi ml z) ∧ (¬ 24 ≤ v4 → ((v3 = (-1) → Q mi ml z) ∧ (¬ v3 = (-1) → CI l h m_Ma_nextRiver [.ref 55, .ref 33, .int v3] mi ml z (fun x3 mi3 ml3 z3 => ((¬ x3 = (-1) → CI l h m_Ma_admit [.ref 55, .ref 33, .int v3, .int x3] mi3 ml3 z3 (fun x5 mi5 ml5 z5 => Ev l (h + 1) m_Ma_settle 5 ([.ref 55, .ref 33, .retAddr 0, .int x5, .int (v4 + 1), .retAddr 0], [], st mi5 ml5 z5) (qV Q))) ∧ (x3 = (-1) → Ev l (h + 1) m_Ma_settle 5 ([.ref 55, .ref 33, .retAddr 0, .int (-1), .int (v4 + 1), .retAddr 0], [], st mi3 ml3 z3) (qV Q))))))))) : Ev l (h + 1) m_Ma_settle 5 ([.ref 55, .ref 33, .retAddr 0, .int v3, .int v4, .retAddr 0], [], st mi ml z) (qV Q) := by
  refine ev_iload rfl (a_dec_at dc_Ma_settle 4 rfl) ?_
  refine ev_bipush (v := 24) rfl (a_dec_at dc_Ma_settle 5 rfl) ?_
  refine ev_icmp_ge (tgt := 50) (a_dec_at dc_Ma_settle 6 rfl) (by decide) (fun b1 => ?_) (fun b1 => ?_)
  · have H := H.1 b1
    exact m_retV (a_dec_at dc_Ma_settle 28 rfl) rfl H
  · have H := H.2 b1
    refine ev_iload_n (i := 3) rfl rfl (a_dec_at dc_Ma_settle 7 rfl) ?_
    refine ev_iconst (v := (-1)) rfl (a_dec_at dc_Ma_settle 8 rfl) ?_
    refine ev_icmp_eq (tgt := 50) (a_dec_at dc_Ma_settle 9 rfl) (by decide) (fun b2 => ?_) (fun b2 => ?_)
    · have H := H.1 b2
      exact m_retV (a_dec_at dc_Ma_settle 28 rfl) rfl H
    · have H := H.2 b2
      refine ev_aload_n (i := 0) rfl rfl (a_dec_at dc_Ma_settle 10 rfl) ?_
      refine ev_aload_n (i := 1) rfl rfl (a_dec_at dc_Ma_settle 11 rfl) ?_
      refine ev_iload_n (i := 3) rfl rfl (a_dec_at dc_Ma_settle 12 rfl) ?_
      refine cV2I cs_Ma_43 sh55 rfl (Nat.le_of_ble_eq_true rfl) (Nat.le_of_ble_eq_true rfl) (a_dec_at dc_Ma_settle 13 rfl) ?_
      refine CI.mono (fun x3 mi3 ml3 z3 H => ?_) H
      refine ev_istore (by decide) rfl (a_dec_at dc_Ma_settle 14 rfl) ?_
      refine ev_iload rfl (a_dec_at dc_Ma_settle 15 rfl) ?_
      refine ev_iconst (v := (-1)) rfl (a_dec_at dc_Ma_settle 16 rfl) ?_
      refine ev_icmp_ne (tgt := 35) (a_dec_at dc_Ma_settle 17 rfl) (by decide) (fun b4 => ?_) (fun b4 => ?_)
      · have H := H.1 b4
        refine ev_aload_n (i := 0) rfl rfl (a_dec_at dc_Ma_settle 20 rfl) ?_
        refine ev_aload_n (i := 1) rfl rfl (a_dec_at dc_Ma_settle 21 rfl) ?_
        refine ev_iload_n (i := 3) rfl rfl (a_dec_at dc_Ma_settle 22 rfl) ?_
        refine ev_iload rfl (a_dec_at dc_Ma_settle 23 rfl) ?_
        refine cV3I cs_Ma_47 sh55 rfl (Nat.le_of_ble_eq_true rfl) (Nat.le_of_ble_eq_true rfl) (a_dec_at dc_Ma_settle 24 rfl) ?_
        refine CI.mono (fun x5 mi5 ml5 z5 H => ?_) H
        refine ev_istore_n (i := 3) rfl (by decide) rfl (a_dec_at dc_Ma_settle 25 rfl) ?_
        refine ev_iinc (v := 1) rfl rfl (by decide) rfl (a_dec_at dc_Ma_settle 26 rfl) ?_
        refine ev_goto (tgt := 5) (a_dec_at dc_Ma_settle 27 rfl) (by decide) ?_
        exact Ev.drop (L' := [.ref 55, .ref 33, .retAddr 0, .int x5, .int (v4 + 1), .retAddr 0]) (And.intro rfl (And.intro rfl (And.intro rfl (And.intro rfl trivial)))) H
      · have H := H.2 b4
        refine ev_iconst (v := (-1)) rfl (a_dec_at dc_Ma_settle 18 rfl) ?_
        refine ev_goto (tgt := 43) (a_dec_at dc_Ma_settle 19 rfl) (by decide) ?_
        refine ev_istore_n (i := 3) rfl (by decide) rfl (a_dec_at dc_Ma_settle 25 rfl) ?_
        refine ev_iinc (v := 1) rfl rfl (by decide) rfl (a_dec_at dc_Ma_settle 26 rfl) ?_
        refine ev_goto (tgt := 5) (a_dec_at dc_Ma_settle 27 rfl) (by decide) ?_
        exact Ev.drop (L' := [.ref 55, .ref 33, .retAddr 0, .int (-1), .int (v4 + 1), .retAddr 0]) (And.intro rfl (And.intro rfl (And.intro rfl (And.intro rfl trivial)))) H
set_option maxRecDepth 20000 in
theorem t_Ma_nextRiver_33 {l : Launch} {h : Nat} (mi : TMi) (ml : TMl) (z : Nat) (a2 : Int32) {Q : Int32 → TMi → TMl → Nat → Prop} (H : (vp_in a2 6) ∧ (vp_in a2 6) ∧ CI l h m_B_pair [.int a2, .int 0] mi ml z (fun x3 mi3 ml3 z3 => Ev l (h + 1) m_Ma_nextRiver 32 ([.retAddr 0, .ref 33, .retAddr 0, .int ((mi 39 a2.toNatClampNeg) &&& ((mi 59 a2.toNatClampNeg) ^^^ (-1))), .int x3, .int (-1), .int 0, .int 0], [], st mi3 ml3 z3) (qI Q))) : CI l (h + 1) m_Ma_nextRiver [.ref 55, .ref 33, .int a2] mi ml z Q := by
  show Ev l (h + 1) m_Ma_nextRiver 0 ([.ref 55, .ref 33, .int a2, .retAddr 0, .retAddr 0, .retAddr 0, .retAddr 0, .retAddr 0], [], st mi ml z) (qI Q)
  refine ev_aload_n (i := 1) rfl rfl (a_dec_at dc_Ma_nextRiver 0 rfl) ?_
  refine m_getR (y := 39) fl_Ma_51 rfl sh33 (mr_33_7 _) (by decide) (a_dec_at dc_Ma_nextRiver 1 rfl) ?_
  refine ev_iload_n (i := 2) rfl rfl (a_dec_at dc_Ma_nextRiver 2 rfl) ?_
  obtain ⟨c1, H⟩ := H
  refine w_iald (k := a2.toNatClampNeg) sh39 c1 rfl (a_dec_at dc_Ma_nextRiver 3 rfl) ?_
  refine ev_aload_n (i := 0) rfl rfl (a_dec_at dc_Ma_nextRiver 4 rfl) ?_
  refine m_getR (y := 59) fl_Ma_21 rfl sh55 (mr_55_3 _) (by decide) (a_dec_at dc_Ma_nextRiver 5 rfl) ?_
  refine ev_iload_n (i := 2) rfl rfl (a_dec_at dc_Ma_nextRiver 6 rfl) ?_
  obtain ⟨c2, H⟩ := H
  refine w_iald (k := a2.toNatClampNeg) sh59 c2 rfl (a_dec_at dc_Ma_nextRiver 7 rfl) ?_
  refine ev_iconst (v := (-1)) rfl (a_dec_at dc_Ma_nextRiver 8 rfl) ?_
  refine ev_ixor (a_dec_at dc_Ma_nextRiver 9 rfl) ?_
  refine ev_iand (a_dec_at dc_Ma_nextRiver 10 rfl) ?_
  refine ev_istore_n (i := 3) rfl (by decide) rfl (a_dec_at dc_Ma_nextRiver 11 rfl) ?_
  refine ev_iload_n (i := 2) rfl rfl (a_dec_at dc_Ma_nextRiver 12 rfl) ?_
  refine ev_iconst (v := 0) rfl (a_dec_at dc_Ma_nextRiver 13 rfl) ?_
  refine cN2I cs_Ma_54 rfl (Nat.le_of_ble_eq_true rfl) (Nat.le_of_ble_eq_true rfl) (a_dec_at dc_Ma_nextRiver 14 rfl) ?_
  refine CI.mono (fun x3 mi3 ml3 z3 H => ?_) H
  refine ev_istore (by decide) rfl (a_dec_at dc_Ma_nextRiver 15 rfl) ?_
  refine ev_iconst (v := (-1)) rfl (a_dec_at dc_Ma_nextRiver 16 rfl) ?_
  refine ev_istore (by decide) rfl (a_dec_at dc_Ma_nextRiver 17 rfl) ?_
  refine ev_iconst (v := 0) rfl (a_dec_at dc_Ma_nextRiver 18 rfl) ?_
  refine ev_istore (by decide) rfl (a_dec_at dc_Ma_nextRiver 19 rfl) ?_
  refine ev_iconst (v := 0) rfl (a_dec_at dc_Ma_nextRiver 20 rfl) ?_
  refine ev_istore (by decide) rfl (a_dec_at dc_Ma_nextRiver 21 rfl) ?_
  exact Ev.drop (L' := [.retAddr 0, .ref 33, .retAddr 0, .int ((mi 39 a2.toNatClampNeg) &&& ((mi 59 a2.toNatClampNeg) ^^^ (-1))), .int x3, .int (-1), .int 0, .int 0]) (And.intro rfl (And.intro rfl (And.intro rfl (And.intro rfl (And.intro rfl (And.intro rfl trivial)))))) H
set_option maxRecDepth 20000 in
theorem t_Ma_nextRiver_33_32 {l : Launch} {h : Nat} (mi : TMi) (ml : TMl) (z : Nat) (v3 : Int32) (v4 : Int32) (v5 : Int32) (v6 : Int32) (v7 : Int32) {Q : Int32 → TMi → TMl → Nat → Prop} (H : (((v3 >>> (v7 &&& 31)) = 0 → Q v5 mi ml z) ∧ (¬ (v3 >>> (v7 &&& 31)) = 0 → ((4 ≤ v7 → Q v5 mi ml z) ∧ (¬ 4 ≤ v7 → ((((v3 >>> (v7 &&& 31)) &&& 1) = 0 → Ev l (h + 1) m_Ma_nextRiver 32 ([.retAddr 0, .ref 33, .retAddr 0, .int v3, .int v4, .int v5, .int v6, .int (v7 + 1)], [], st mi ml z) (qI Q)) ∧ (¬ ((v3 >>> (v7 &&& 31)) &&& 1) = 0 → ((v5 = (-1) → (vp_in (v4 + v7) 24) ∧ Ev l (h + 1) m_Ma_nextRiver 32 ([.retAddr 0, .ref 33, .retAddr 0, .int v3, .int v4, .int v7, .int (mi 37 ((v4 + v7).toNatClampNeg)), .int (v7 + 1)], [], st mi ml z) (qI Q)) ∧ (¬ v5 = (-1) → (vp_in (v4 + v7) 24) ∧ (((mi 37 ((v4 + v7).toNatClampNeg)) ≤ v6 → Ev l (h + 1) m_Ma_nextRiver 32 ([.retAddr 0, .ref 33, .retAddr 0, .int v3, .int v4, .int v5, .int v6, .int (v7 + 1)], [], st mi ml z) (qI Q)) ∧ (¬ (mi 37 ((v4 + v7).toNatClampNeg)) ≤ v6 → (vp_in (v4 + v7) 24) ∧ Ev l (h + 1) m_Ma_nextRiver 32 ([.retAddr 0, .ref 33, .retAddr 0, .int v3, .int v4, .int v7, .int (mi 37 ((v4 + v7).toNatClampNeg)), .int (v7 + 1)], [], st mi ml z) (qI Q)))))))))))) : Ev l (h + 1) m_Ma_nextRiver 32 ([.retAddr 0, .ref 33, .retAddr 0, .int v3, .int v4, .int v5, .int v6, .int v7], [], st mi ml z) (qI Q) := by
  refine ev_iload_n (i := 3) rfl rfl (a_dec_at dc_Ma_nextRiver 22 rfl) ?_
  refine ev_iload rfl (a_dec_at dc_Ma_nextRiver 23 rfl) ?_
  refine ev_ishr (a_dec_at dc_Ma_nextRiver 24 rfl) ?_
  refine ev_if_eq (tgt := 97) (a_dec_at dc_Ma_nextRiver 25 rfl) (by decide) (fun b1 => ?_) (fun b1 => ?_)
  · have H := H.1 b1
    refine ev_iload rfl (a_dec_at dc_Ma_nextRiver 57 rfl) ?_
    exact m_retI (a_dec_at dc_Ma_nextRiver 58 rfl) rfl rfl H
  · have H := H.2 b1
    refine ev_iload rfl (a_dec_at dc_Ma_nextRiver 26 rfl) ?_
    refine ev_iconst (v := 4) rfl (a_dec_at dc_Ma_nextRiver 27 rfl) ?_
    refine ev_icmp_ge (tgt := 97) (a_dec_at dc_Ma_nextRiver 28 rfl) (by decide) (fun b2 => ?_) (fun b2 => ?_)
    · have H := H.1 b2
      refine ev_iload rfl (a_dec_at dc_Ma_nextRiver 57 rfl) ?_
      exact m_retI (a_dec_at dc_Ma_nextRiver 58 rfl) rfl rfl H
    · have H := H.2 b2
      refine ev_iload_n (i := 3) rfl rfl (a_dec_at dc_Ma_nextRiver 29 rfl) ?_
      refine ev_iload rfl (a_dec_at dc_Ma_nextRiver 30 rfl) ?_
      refine ev_ishr (a_dec_at dc_Ma_nextRiver 31 rfl) ?_
      refine ev_iconst (v := 1) rfl (a_dec_at dc_Ma_nextRiver 32 rfl) ?_
      refine ev_iand (a_dec_at dc_Ma_nextRiver 33 rfl) ?_
      refine ev_if_eq (tgt := 91) (a_dec_at dc_Ma_nextRiver 34 rfl) (by decide) (fun b3 => ?_) (fun b3 => ?_)
      · have H := H.1 b3
        refine ev_iinc (v := 1) rfl rfl (by decide) rfl (a_dec_at dc_Ma_nextRiver 55 rfl) ?_
        refine ev_goto (tgt := 32) (a_dec_at dc_Ma_nextRiver 56 rfl) (by decide) ?_
        exact Ev.drop (L' := [.retAddr 0, .ref 33, .retAddr 0, .int v3, .int v4, .int v5, .int v6, .int (v7 + 1)]) (And.intro rfl (And.intro rfl (And.intro rfl (And.intro rfl (And.intro rfl (And.intro rfl trivial)))))) H
      · have H := H.2 b3
        refine ev_iload rfl (a_dec_at dc_Ma_nextRiver 35 rfl) ?_
        refine ev_iconst (v := (-1)) rfl (a_dec_at dc_Ma_nextRiver 36 rfl) ?_
        refine ev_icmp_eq (tgt := 75) (a_dec_at dc_Ma_nextRiver 37 rfl) (by decide) (fun b4 => ?_) (fun b4 => ?_)
        · have H := H.1 b4
          refine ev_iload rfl (a_dec_at dc_Ma_nextRiver 46 rfl) ?_
          refine ev_istore (by decide) rfl (a_dec_at dc_Ma_nextRiver 47 rfl) ?_
          refine ev_aload_n (i := 1) rfl rfl (a_dec_at dc_Ma_nextRiver 48 rfl) ?_
          refine m_getR (y := 37) fl_Ma_58 rfl sh33 (mr_33_5 _) (by decide) (a_dec_at dc_Ma_nextRiver 49 rfl) ?_
          refine ev_iload rfl (a_dec_at dc_Ma_nextRiver 50 rfl) ?_
          refine ev_iload rfl (a_dec_at dc_Ma_nextRiver 51 rfl) ?_
          refine ev_iadd (a_dec_at dc_Ma_nextRiver 52 rfl) ?_
          obtain ⟨c5, H⟩ := H
          refine w_iald (k := (v4 + v7).toNatClampNeg) sh37 c5 rfl (a_dec_at dc_Ma_nextRiver 53 rfl) ?_
          refine ev_istore (by decide) rfl (a_dec_at dc_Ma_nextRiver 54 rfl) ?_
          refine ev_iinc (v := 1) rfl rfl (by decide) rfl (a_dec_at dc_Ma_nextRiver 55 rfl) ?_
          refine ev_goto (tgt := 32) (a_dec_at dc_Ma_nextRiver 56 rfl) (by decide) ?_
          exact Ev.drop (L' := [.retAddr 0, .ref 33, .retAddr 0, .int v3, .int v4, .int v7, .int (mi 37 ((v4 + v7).toNatClampNeg)), .int (v7 + 1)]) (And.intro rfl (And.intro rfl (And.intro rfl (And.intro rfl (And.intro rfl (And.intro rfl trivial)))))) H
        · have H := H.2 b4
          refine ev_aload_n (i := 1) rfl rfl (a_dec_at dc_Ma_nextRiver 38 rfl) ?_
          refine m_getR (y := 37) fl_Ma_58 rfl sh33 (mr_33_5 _) (by decide) (a_dec_at dc_Ma_nextRiver 39 rfl) ?_
          refine ev_iload rfl (a_dec_at dc_Ma_nextRiver 40 rfl) ?_
          refine ev_iload rfl (a_dec_at dc_Ma_nextRiver 41 rfl) ?_
          refine ev_iadd (a_dec_at dc_Ma_nextRiver 42 rfl) ?_
          obtain ⟨c6, H⟩ := H
          refine w_iald (k := (v4 + v7).toNatClampNeg) sh37 c6 rfl (a_dec_at dc_Ma_nextRiver 43 rfl) ?_
          refine ev_iload rfl (a_dec_at dc_Ma_nextRiver 44 rfl) ?_
          refine ev_icmp_le (tgt := 91) (a_dec_at dc_Ma_nextRiver 45 rfl) (by decide) (fun b7 => ?_) (fun b7 => ?_)
          · have H := H.1 b7
            refine ev_iinc (v := 1) rfl rfl (by decide) rfl (a_dec_at dc_Ma_nextRiver 55 rfl) ?_
            refine ev_goto (tgt := 32) (a_dec_at dc_Ma_nextRiver 56 rfl) (by decide) ?_
            exact Ev.drop (L' := [.retAddr 0, .ref 33, .retAddr 0, .int v3, .int v4, .int v5, .int v6, .int (v7 + 1)]) (And.intro rfl (And.intro rfl (And.intro rfl (And.intro rfl (And.intro rfl (And.intro rfl trivial)))))) H
          · have H := H.2 b7
            refine ev_iload rfl (a_dec_at dc_Ma_nextRiver 46 rfl) ?_
            refine ev_istore (by decide) rfl (a_dec_at dc_Ma_nextRiver 47 rfl) ?_
            refine ev_aload_n (i := 1) rfl rfl (a_dec_at dc_Ma_nextRiver 48 rfl) ?_
            refine m_getR (y := 37) fl_Ma_58 rfl sh33 (mr_33_5 _) (by decide) (a_dec_at dc_Ma_nextRiver 49 rfl) ?_
            refine ev_iload rfl (a_dec_at dc_Ma_nextRiver 50 rfl) ?_
            refine ev_iload rfl (a_dec_at dc_Ma_nextRiver 51 rfl) ?_
            refine ev_iadd (a_dec_at dc_Ma_nextRiver 52 rfl) ?_
            obtain ⟨c8, H⟩ := H
            refine w_iald (k := (v4 + v7).toNatClampNeg) sh37 c8 rfl (a_dec_at dc_Ma_nextRiver 53 rfl) ?_
            refine ev_istore (by decide) rfl (a_dec_at dc_Ma_nextRiver 54 rfl) ?_
            refine ev_iinc (v := 1) rfl rfl (by decide) rfl (a_dec_at dc_Ma_nextRiver 55 rfl) ?_
            refine ev_goto (tgt := 32) (a_dec_at dc_Ma_nextRiver 56 rfl) (by decide) ?_
            exact Ev.drop (L' := [.retAddr 0, .ref 33, .retAddr 0, .int v3, .int v4, .int v7, .int (mi 37 ((v4 + v7).toNatClampNeg)), .int (v7 + 1)]) (And.intro rfl (And.intro rfl (And.intro rfl (And.intro rfl (And.intro rfl (And.intro rfl trivial)))))) H
set_option maxRecDepth 20000 in
theorem t_Ma_admit_33 {l : Launch} {h : Nat} (mi : TMi) (ml : TMl) (z : Nat) (a2 : Int32) (a3 : Int32) {Q : Int32 → TMi → TMl → Nat → Prop} (H : (vp_in a2 6) ∧ (vp_in a2 6) ∧ CV l h m_Ma_comeIn [.ref 55, .int a2, .int a3] (up mi 59 a2.toNatClampNeg ((mi 59 a2.toNatClampNeg) ||| ((1 : Int32) <<< (a3 &&& 31)))) ml z (fun mi3 ml3 z3 => (vp_in a3 4) ∧ CI l h m_Sc_roomOf [.ref 33, .int a3] mi3 ml3 z3 (fun x5 mi5 ml5 z5 => ((x5 < (mi3 58 a3.toNatClampNeg) → (vp_in a3 4) ∧ CI l h m_Sc_leastLiked [.ref 33, .int a3, .int (mi5 57 a3.toNatClampNeg)] mi5 ml5 z5 (fun x8 mi8 ml8 z8 => ((x8 = (-1) → Q x8 mi8 ml8 z8) ∧ (¬ x8 = (-1) → CV l h m_Ma_goOff [.ref 55, .int x8, .int a3] mi8 ml8 z8 (fun mi10 ml10 z10 => Q x8 mi10 ml10 z10))))) ∧ (¬ x5 < (mi3 58 a3.toNatClampNeg) → Q (-1) mi5 ml5 z5))))) : CI l (h + 1) m_Ma_admit [.ref 55, .ref 33, .int a2, .int a3] mi ml z Q := by
  show Ev l (h + 1) m_Ma_admit 0 ([.ref 55, .ref 33, .int a2, .int a3, .retAddr 0], [], st mi ml z) (qI Q)
  refine ev_aload_n (i := 0) rfl rfl (a_dec_at dc_Ma_admit 0 rfl) ?_
  refine m_getR (y := 59) fl_Ma_21 rfl sh55 (mr_55_3 _) (by decide) (a_dec_at dc_Ma_admit 1 rfl) ?_
  refine ev_iload_n (i := 2) rfl rfl (a_dec_at dc_Ma_admit 2 rfl) ?_
  refine ev_dup2 rfl rfl (a_dec_at dc_Ma_admit 3 rfl) ?_
  obtain ⟨c1, H⟩ := H
  refine w_iald (k := a2.toNatClampNeg) sh59 c1 rfl (a_dec_at dc_Ma_admit 4 rfl) ?_
  refine ev_iconst (v := 1) rfl (a_dec_at dc_Ma_admit 5 rfl) ?_
  refine ev_iload_n (i := 3) rfl rfl (a_dec_at dc_Ma_admit 6 rfl) ?_
  refine ev_ishl (a_dec_at dc_Ma_admit 7 rfl) ?_
  refine ev_ior (a_dec_at dc_Ma_admit 8 rfl) ?_
  obtain ⟨c2, H⟩ := H
  refine w_iast (k := a2.toNatClampNeg) sh59 c2 rfl (a_dec_at dc_Ma_admit 9 rfl) ?_
  refine ev_aload_n (i := 0) rfl rfl (a_dec_at dc_Ma_admit 10 rfl) ?_
  refine ev_iload_n (i := 2) rfl rfl (a_dec_at dc_Ma_admit 11 rfl) ?_
  refine ev_iload_n (i := 3) rfl rfl (a_dec_at dc_Ma_admit 12 rfl) ?_
  refine cV2V cs_Ma_61 sh55 rfl (Nat.le_of_ble_eq_true rfl) (Nat.le_of_ble_eq_true rfl) (a_dec_at dc_Ma_admit 13 rfl) ?_
  refine CV.mono (fun mi3 ml3 z3 H => ?_) H
  refine ev_aload_n (i := 0) rfl rfl (a_dec_at dc_Ma_admit 14 rfl) ?_
  refine m_getR (y := 58) fl_Ma_18 rfl sh55 (mr_55_2 _) (by decide) (a_dec_at dc_Ma_admit 15 rfl) ?_
  refine ev_iload_n (i := 3) rfl rfl (a_dec_at dc_Ma_admit 16 rfl) ?_
  obtain ⟨c4, H⟩ := H
  refine w_iald (k := a3.toNatClampNeg) sh58 c4 rfl (a_dec_at dc_Ma_admit 17 rfl) ?_
  refine ev_aload_n (i := 1) rfl rfl (a_dec_at dc_Ma_admit 18 rfl) ?_
  refine ev_iload_n (i := 3) rfl rfl (a_dec_at dc_Ma_admit 19 rfl) ?_
  refine cV1I cs_Ma_65 sh33 rfl (Nat.le_of_ble_eq_true rfl) (Nat.le_of_ble_eq_true rfl) (a_dec_at dc_Ma_admit 20 rfl) ?_
  refine CI.mono (fun x5 mi5 ml5 z5 H => ?_) H
  refine ev_icmp_gt (tgt := 34) (a_dec_at dc_Ma_admit 21 rfl) (by decide) (fun b6 => ?_) (fun b6 => ?_)
  · have H := H.1 b6
    refine ev_aload_n (i := 1) rfl rfl (a_dec_at dc_Ma_admit 24 rfl) ?_
    refine ev_iload_n (i := 3) rfl rfl (a_dec_at dc_Ma_admit 25 rfl) ?_
    refine ev_aload_n (i := 0) rfl rfl (a_dec_at dc_Ma_admit 26 rfl) ?_
    refine m_getR (y := 57) fl_Ma_15 rfl sh55 (mr_55_1 _) (by decide) (a_dec_at dc_Ma_admit 27 rfl) ?_
    refine ev_iload_n (i := 3) rfl rfl (a_dec_at dc_Ma_admit 28 rfl) ?_
    obtain ⟨c7, H⟩ := H
    refine w_iald (k := a3.toNatClampNeg) sh57 c7 rfl (a_dec_at dc_Ma_admit 29 rfl) ?_
    refine cV2I cs_Ma_69 sh33 rfl (Nat.le_of_ble_eq_true rfl) (Nat.le_of_ble_eq_true rfl) (a_dec_at dc_Ma_admit 30 rfl) ?_
    refine CI.mono (fun x8 mi8 ml8 z8 H => ?_) H
    refine ev_istore (by decide) rfl (a_dec_at dc_Ma_admit 31 rfl) ?_
    refine ev_iload rfl (a_dec_at dc_Ma_admit 32 rfl) ?_
    refine ev_iconst (v := (-1)) rfl (a_dec_at dc_Ma_admit 33 rfl) ?_
    refine ev_icmp_eq (tgt := 60) (a_dec_at dc_Ma_admit 34 rfl) (by decide) (fun b9 => ?_) (fun b9 => ?_)
    · have H := H.1 b9
      refine ev_iload rfl (a_dec_at dc_Ma_admit 39 rfl) ?_
      exact m_retI (a_dec_at dc_Ma_admit 40 rfl) rfl rfl H
    · have H := H.2 b9
      refine ev_aload_n (i := 0) rfl rfl (a_dec_at dc_Ma_admit 35 rfl) ?_
      refine ev_iload rfl (a_dec_at dc_Ma_admit 36 rfl) ?_
      refine ev_iload_n (i := 3) rfl rfl (a_dec_at dc_Ma_admit 37 rfl) ?_
      refine cV2V cs_Ma_72 sh55 rfl (Nat.le_of_ble_eq_true rfl) (Nat.le_of_ble_eq_true rfl) (a_dec_at dc_Ma_admit 38 rfl) ?_
      refine CV.mono (fun mi10 ml10 z10 H => ?_) H
      refine ev_iload rfl (a_dec_at dc_Ma_admit 39 rfl) ?_
      exact m_retI (a_dec_at dc_Ma_admit 40 rfl) rfl rfl H
  · have H := H.2 b6
    refine ev_iconst (v := (-1)) rfl (a_dec_at dc_Ma_admit 22 rfl) ?_
    exact m_retI (a_dec_at dc_Ma_admit 23 rfl) rfl rfl H
set_option maxRecDepth 20000 in
theorem t_Ma_bestForRivers_33 {l : Launch} {h : Nat} (mi : TMi) (ml : TMl) (z : Nat) {Q : TMi → TMl → Nat → Prop} (H : CV l h m_Ma_clear [.ref 55] mi ml z (fun mi1 ml1 z1 => Ev l (h + 1) m_Ma_bestForRivers 8 ([.ref 55, .ref 33, .int 1, .int 0, .retAddr 0], [], st mi1 ml1 z1) (qV Q))) : CV l (h + 1) m_Ma_bestForRivers [.ref 55, .ref 33] mi ml z Q := by
  show Ev l (h + 1) m_Ma_bestForRivers 0 ([.ref 55, .ref 33, .retAddr 0, .retAddr 0, .retAddr 0], [], st mi ml z) (qV Q)
  refine ev_aload_n (i := 0) rfl rfl (a_dec_at dc_Ma_bestForRivers 0 rfl) ?_
  refine cV0V cs_Ma_24 sh55 rfl (Nat.le_of_ble_eq_true rfl) (Nat.le_of_ble_eq_true rfl) (a_dec_at dc_Ma_bestForRivers 1 rfl) ?_
  refine CV.mono (fun mi1 ml1 z1 H => ?_) H
  refine ev_iconst (v := 1) rfl (a_dec_at dc_Ma_bestForRivers 2 rfl) ?_
  refine ev_istore_n (i := 2) rfl (by decide) rfl (a_dec_at dc_Ma_bestForRivers 3 rfl) ?_
  refine ev_iconst (v := 0) rfl (a_dec_at dc_Ma_bestForRivers 4 rfl) ?_
  refine ev_istore_n (i := 3) rfl (by decide) rfl (a_dec_at dc_Ma_bestForRivers 5 rfl) ?_
  exact Ev.drop (L' := [.ref 55, .ref 33, .int 1, .int 0, .retAddr 0]) (And.intro rfl (And.intro rfl (And.intro rfl (And.intro rfl trivial)))) H
set_option maxRecDepth 20000 in
theorem t_Ma_bestForRivers_33_8 {l : Launch} {h : Nat} (mi : TMi) (ml : TMl) (z : Nat) (v2 : Int32) (v3 : Int32) {Q : TMi → TMl → Nat → Prop} (H : ((24 < v3 → Q mi ml z) ∧ (¬ 24 < v3 → ((v2 = 0 → Q mi ml z) ∧ (¬ v2 = 0 → Ev l (h + 1) m_Ma_bestForRivers 23 ([.ref 55, .ref 33, .int 0, .int v3, .int 0], [], st mi ml z) (qV Q)))))) : Ev l (h + 1) m_Ma_bestForRivers 8 ([.ref 55, .ref 33, .int v2, .int v3, .retAddr 0], [], st mi ml z) (qV Q) := by
  refine ev_iload_n (i := 3) rfl rfl (a_dec_at dc_Ma_bestForRivers 6 rfl) ?_
  refine ev_bipush (v := 24) rfl (a_dec_at dc_Ma_bestForRivers 7 rfl) ?_
  refine ev_icmp_gt (tgt := 57) (a_dec_at dc_Ma_bestForRivers 8 rfl) (by decide) (fun b1 => ?_) (fun b1 => ?_)
  · have H := H.1 b1
    exact m_retV (a_dec_at dc_Ma_bestForRivers 31 rfl) rfl H
  · have H := H.2 b1
    refine ev_iload_n (i := 2) rfl rfl (a_dec_at dc_Ma_bestForRivers 9 rfl) ?_
    refine ev_if_eq (tgt := 57) (a_dec_at dc_Ma_bestForRivers 10 rfl) (by decide) (fun b2 => ?_) (fun b2 => ?_)
    · have H := H.1 b2
      exact m_retV (a_dec_at dc_Ma_bestForRivers 31 rfl) rfl H
    · have H := H.2 b2
      refine ev_iconst (v := 0) rfl (a_dec_at dc_Ma_bestForRivers 11 rfl) ?_
      refine ev_istore_n (i := 2) rfl (by decide) rfl (a_dec_at dc_Ma_bestForRivers 12 rfl) ?_
      refine ev_iconst (v := 0) rfl (a_dec_at dc_Ma_bestForRivers 13 rfl) ?_
      refine ev_istore (by decide) rfl (a_dec_at dc_Ma_bestForRivers 14 rfl) ?_
      exact Ev.drop (L' := [.ref 55, .ref 33, .int 0, .int v3, .int 0]) (And.intro rfl (And.intro rfl (And.intro rfl (And.intro rfl (And.intro rfl trivial))))) H
set_option maxRecDepth 20000 in
theorem t_Ma_bestForRivers_33_23 {l : Launch} {h : Nat} (mi : TMi) (ml : TMl) (z : Nat) (v2 : Int32) (v3 : Int32) (v4 : Int32) {Q : TMi → TMl → Nat → Prop} (H : (((mi 18 1) ≤ v4 → Ev l (h + 1) m_Ma_bestForRivers 8 ([.ref 55, .ref 33, .int v2, .int (v3 + 1), .retAddr 0], [], st mi ml z) (qV Q)) ∧ (¬ (mi 18 1) ≤ v4 → CI l h m_Ma_asksOne [.ref 55, .ref 33, .int v4] mi ml z (fun x2 mi2 ml2 z2 => Ev l (h + 1) m_Ma_bestForRivers 23 ([.ref 55, .ref 33, .int (v2 ||| x2), .int v3, .int (v4 + 1)], [], st mi2 ml2 z2) (qV Q))))) : Ev l (h + 1) m_Ma_bestForRivers 23 ([.ref 55, .ref 33, .int v2, .int v3, .int v4], [], st mi ml z) (qV Q) := by
  refine ev_iload rfl (a_dec_at dc_Ma_bestForRivers 15 rfl) ?_
  refine ev_aload_n (i := 1) rfl rfl (a_dec_at dc_Ma_bestForRivers 16 rfl) ?_
  refine m_getR (y := 18) fl_Ma_27 rfl sh33 (mr_33_0 _) (by decide) (a_dec_at dc_Ma_bestForRivers 17 rfl) ?_
  refine m_getI fl_Ma_75 rfl sh18 (a_dec_at dc_Ma_bestForRivers 18 rfl) ?_
  refine ev_icmp_ge (tgt := 51) (a_dec_at dc_Ma_bestForRivers 19 rfl) (by decide) (fun b1 => ?_) (fun b1 => ?_)
  · have H := H.1 b1
    refine ev_iinc (v := 1) rfl rfl (by decide) rfl (a_dec_at dc_Ma_bestForRivers 29 rfl) ?_
    refine ev_goto (tgt := 8) (a_dec_at dc_Ma_bestForRivers 30 rfl) (by decide) ?_
    exact Ev.drop (L' := [.ref 55, .ref 33, .int v2, .int (v3 + 1), .retAddr 0]) (And.intro rfl (And.intro rfl (And.intro rfl (And.intro rfl trivial)))) H
  · have H := H.2 b1
    refine ev_iload_n (i := 2) rfl rfl (a_dec_at dc_Ma_bestForRivers 20 rfl) ?_
    refine ev_aload_n (i := 0) rfl rfl (a_dec_at dc_Ma_bestForRivers 21 rfl) ?_
    refine ev_aload_n (i := 1) rfl rfl (a_dec_at dc_Ma_bestForRivers 22 rfl) ?_
    refine ev_iload rfl (a_dec_at dc_Ma_bestForRivers 23 rfl) ?_
    refine cV2I cs_Ma_78 sh55 rfl (Nat.le_of_ble_eq_true rfl) (Nat.le_of_ble_eq_true rfl) (a_dec_at dc_Ma_bestForRivers 24 rfl) ?_
    refine CI.mono (fun x2 mi2 ml2 z2 H => ?_) H
    refine ev_ior (a_dec_at dc_Ma_bestForRivers 25 rfl) ?_
    refine ev_istore_n (i := 2) rfl (by decide) rfl (a_dec_at dc_Ma_bestForRivers 26 rfl) ?_
    refine ev_iinc (v := 1) rfl rfl (by decide) rfl (a_dec_at dc_Ma_bestForRivers 27 rfl) ?_
    refine ev_goto (tgt := 23) (a_dec_at dc_Ma_bestForRivers 28 rfl) (by decide) ?_
    exact Ev.drop (L' := [.ref 55, .ref 33, .int (v2 ||| x2), .int v3, .int (v4 + 1)]) (And.intro rfl (And.intro rfl (And.intro rfl (And.intro rfl (And.intro rfl trivial))))) H
set_option maxRecDepth 20000 in
theorem t_Ma_asksOne_33 {l : Launch} {h : Nat} (mi : TMi) (ml : TMl) (z : Nat) (a2 : Int32) {Q : Int32 → TMi → TMl → Nat → Prop} (H : (vp_in a2 4) ∧ CI l h m_Sc_roomOf [.ref 33, .int a2] mi ml z (fun x2 mi2 ml2 z2 => ((x2 ≤ (mi 58 a2.toNatClampNeg) → Q 0 mi2 ml2 z2) ∧ (¬ x2 ≤ (mi 58 a2.toNatClampNeg) → CI l h m_Ma_nextBeck [.ref 55, .ref 33, .int a2] mi2 ml2 z2 (fun x4 mi4 ml4 z4 => ((¬ x4 = (-1) → (vp_in a2 6) ∧ (vp_in a2 6) ∧ (vp_in x4 6) ∧ ((¬ ((up mi4 59 a2.toNatClampNeg ((mi4 59 a2.toNatClampNeg) ||| ((1 : Int32) <<< (x4 &&& 31)))) 56 x4.toNatClampNeg) = (-1) → CI l h m_Sc_likesBetter [.ref 33, .int x4, .int a2, .int ((up mi4 59 a2.toNatClampNeg ((mi4 59 a2.toNatClampNeg) ||| ((1 : Int32) <<< (x4 &&& 31)))) 56 x4.toNatClampNeg)] (up mi4 59 a2.toNatClampNeg ((mi4 59 a2.toNatClampNeg) ||| ((1 : Int32) <<< (x4 &&& 31)))) ml4 z4 (fun x10 mi10 ml10 z10 => ((x10 = 0 → Q 1 mi10 ml10 z10) ∧ (¬ x10 = 0 → CV l h m_Ma_goOff [.ref 55, .int x4, .int ((up mi4 59 a2.toNatClampNeg ((mi4 59 a2.toNatClampNeg) ||| ((1 : Int32) <<< (x4 &&& 31)))) 56 x4.toNatClampNeg)] mi10 ml10 z10 (fun mi12 ml12 z12 => CV l h m_Ma_comeIn [.ref 55, .int x4, .int a2] mi12 ml12 z12 (fun mi13 ml13 z13 => Q 1 mi13 ml13 z13)))))) ∧ (((up mi4 59 a2.toNatClampNeg ((mi4 59 a2.toNatClampNeg) ||| ((1 : Int32) <<< (x4 &&& 31)))) 56 x4.toNatClampNeg) = (-1) → CV l h m_Ma_comeIn [.ref 55, .int x4, .int a2] (up mi4 59 a2.toNatClampNeg ((mi4 59 a2.toNatClampNeg) ||| ((1 : Int32) <<< (x4 &&& 31)))) ml4 z4 (fun mi14 ml14 z14 => Q 1 mi14 ml14 z14)))) ∧ (x4 = (-1) → Q 0 mi4 ml4 z4))))))) : CI l (h + 1) m_Ma_asksOne [.ref 55, .ref 33, .int a2] mi ml z Q := by
  show Ev l (h + 1) m_Ma_asksOne 0 ([.ref 55, .ref 33, .int a2, .retAddr 0, .retAddr 0], [], st mi ml z) (qI Q)
  refine ev_aload_n (i := 0) rfl rfl (a_dec_at dc_Ma_asksOne 0 rfl) ?_
  refine m_getR (y := 58) fl_Ma_18 rfl sh55 (mr_55_2 _) (by decide) (a_dec_at dc_Ma_asksOne 1 rfl) ?_
  refine ev_iload_n (i := 2) rfl rfl (a_dec_at dc_Ma_asksOne 2 rfl) ?_
  obtain ⟨c1, H⟩ := H
  refine w_iald (k := a2.toNatClampNeg) sh58 c1 rfl (a_dec_at dc_Ma_asksOne 3 rfl) ?_
  refine ev_aload_n (i := 1) rfl rfl (a_dec_at dc_Ma_asksOne 4 rfl) ?_
  refine ev_iload_n (i := 2) rfl rfl (a_dec_at dc_Ma_asksOne 5 rfl) ?_
  refine cV1I cs_Ma_65 sh33 rfl (Nat.le_of_ble_eq_true rfl) (Nat.le_of_ble_eq_true rfl) (a_dec_at dc_Ma_asksOne 6 rfl) ?_
  refine CI.mono (fun x2 mi2 ml2 z2 H => ?_) H
  refine ev_icmp_ge (tgt := 23) (a_dec_at dc_Ma_asksOne 7 rfl) (by decide) (fun b3 => ?_) (fun b3 => ?_)
  · have H := H.1 b3
    refine ev_iconst (v := (-1)) rfl (a_dec_at dc_Ma_asksOne 13 rfl) ?_
    refine ev_istore_n (i := 3) rfl (by decide) rfl (a_dec_at dc_Ma_asksOne 14 rfl) ?_
    refine ev_iload_n (i := 3) rfl rfl (a_dec_at dc_Ma_asksOne 15 rfl) ?_
    refine ev_iconst (v := (-1)) rfl (a_dec_at dc_Ma_asksOne 16 rfl) ?_
    refine ev_icmp_ne (tgt := 32) (a_dec_at dc_Ma_asksOne 17 rfl) (by decide) (fun q => absurd rfl q) (fun _ => ?_)
    refine ev_iconst (v := 0) rfl (a_dec_at dc_Ma_asksOne 18 rfl) ?_
    exact m_retI (a_dec_at dc_Ma_asksOne 19 rfl) rfl rfl H
  · have H := H.2 b3
    refine ev_aload_n (i := 0) rfl rfl (a_dec_at dc_Ma_asksOne 8 rfl) ?_
    refine ev_aload_n (i := 1) rfl rfl (a_dec_at dc_Ma_asksOne 9 rfl) ?_
    refine ev_iload_n (i := 2) rfl rfl (a_dec_at dc_Ma_asksOne 10 rfl) ?_
    refine cV2I cs_Ma_82 sh55 rfl (Nat.le_of_ble_eq_true rfl) (Nat.le_of_ble_eq_true rfl) (a_dec_at dc_Ma_asksOne 11 rfl) ?_
    refine CI.mono (fun x4 mi4 ml4 z4 H => ?_) H
    refine ev_goto (tgt := 24) (a_dec_at dc_Ma_asksOne 12 rfl) (by decide) ?_
    refine ev_istore_n (i := 3) rfl (by decide) rfl (a_dec_at dc_Ma_asksOne 14 rfl) ?_
    refine ev_iload_n (i := 3) rfl rfl (a_dec_at dc_Ma_asksOne 15 rfl) ?_
    refine ev_iconst (v := (-1)) rfl (a_dec_at dc_Ma_asksOne 16 rfl) ?_
    refine ev_icmp_ne (tgt := 32) (a_dec_at dc_Ma_asksOne 17 rfl) (by decide) (fun b5 => ?_) (fun b5 => ?_)
    · have H := H.1 b5
      refine ev_aload_n (i := 0) rfl rfl (a_dec_at dc_Ma_asksOne 20 rfl) ?_
      refine m_getR (y := 59) fl_Ma_21 rfl sh55 (mr_55_3 _) (by decide) (a_dec_at dc_Ma_asksOne 21 rfl) ?_
      refine ev_iload_n (i := 2) rfl rfl (a_dec_at dc_Ma_asksOne 22 rfl) ?_
      refine ev_dup2 rfl rfl (a_dec_at dc_Ma_asksOne 23 rfl) ?_
      obtain ⟨c6, H⟩ := H
      refine w_iald (k := a2.toNatClampNeg) sh59 c6 rfl (a_dec_at dc_Ma_asksOne 24 rfl) ?_
      refine ev_iconst (v := 1) rfl (a_dec_at dc_Ma_asksOne 25 rfl) ?_
      refine ev_iload_n (i := 3) rfl rfl (a_dec_at dc_Ma_asksOne 26 rfl) ?_
      refine ev_ishl (a_dec_at dc_Ma_asksOne 27 rfl) ?_
      refine ev_ior (a_dec_at dc_Ma_asksOne 28 rfl) ?_
      obtain ⟨c7, H⟩ := H
      refine w_iast (k := a2.toNatClampNeg) sh59 c7 rfl (a_dec_at dc_Ma_asksOne 29 rfl) ?_
      refine ev_aload_n (i := 0) rfl rfl (a_dec_at dc_Ma_asksOne 30 rfl) ?_
      refine m_getR (y := 56) fl_Ma_9 rfl sh55 (mr_55_0 _) (by decide) (a_dec_at dc_Ma_asksOne 31 rfl) ?_
      refine ev_iload_n (i := 3) rfl rfl (a_dec_at dc_Ma_asksOne 32 rfl) ?_
      obtain ⟨c8, H⟩ := H
      refine w_iald (k := x4.toNatClampNeg) sh56 c8 rfl (a_dec_at dc_Ma_asksOne 33 rfl) ?_
      refine ev_istore (by decide) rfl (a_dec_at dc_Ma_asksOne 34 rfl) ?_
      refine ev_iload rfl (a_dec_at dc_Ma_asksOne 35 rfl) ?_
      refine ev_iconst (v := (-1)) rfl (a_dec_at dc_Ma_asksOne 36 rfl) ?_
      refine ev_icmp_ne (tgt := 67) (a_dec_at dc_Ma_asksOne 37 rfl) (by decide) (fun b9 => ?_) (fun b9 => ?_)
      · have H := H.1 b9
        refine ev_aload_n (i := 1) rfl rfl (a_dec_at dc_Ma_asksOne 43 rfl) ?_
        refine ev_iload_n (i := 3) rfl rfl (a_dec_at dc_Ma_asksOne 44 rfl) ?_
        refine ev_iload_n (i := 2) rfl rfl (a_dec_at dc_Ma_asksOne 45 rfl) ?_
        refine ev_iload rfl (a_dec_at dc_Ma_asksOne 46 rfl) ?_
        refine cV3I cs_Ma_85 sh33 rfl (Nat.le_of_ble_eq_true rfl) (Nat.le_of_ble_eq_true rfl) (a_dec_at dc_Ma_asksOne 47 rfl) ?_
        refine CI.mono (fun x10 mi10 ml10 z10 H => ?_) H
        refine ev_if_eq (tgt := 91) (a_dec_at dc_Ma_asksOne 48 rfl) (by decide) (fun b11 => ?_) (fun b11 => ?_)
        · have H := H.1 b11
          refine ev_iconst (v := 1) rfl (a_dec_at dc_Ma_asksOne 57 rfl) ?_
          exact m_retI (a_dec_at dc_Ma_asksOne 58 rfl) rfl rfl H
        · have H := H.2 b11
          refine ev_aload_n (i := 0) rfl rfl (a_dec_at dc_Ma_asksOne 49 rfl) ?_
          refine ev_iload_n (i := 3) rfl rfl (a_dec_at dc_Ma_asksOne 50 rfl) ?_
          refine ev_iload rfl (a_dec_at dc_Ma_asksOne 51 rfl) ?_
          refine cV2V cs_Ma_72 sh55 rfl (Nat.le_of_ble_eq_true rfl) (Nat.le_of_ble_eq_true rfl) (a_dec_at dc_Ma_asksOne 52 rfl) ?_
          refine CV.mono (fun mi12 ml12 z12 H => ?_) H
          refine ev_aload_n (i := 0) rfl rfl (a_dec_at dc_Ma_asksOne 53 rfl) ?_
          refine ev_iload_n (i := 3) rfl rfl (a_dec_at dc_Ma_asksOne 54 rfl) ?_
          refine ev_iload_n (i := 2) rfl rfl (a_dec_at dc_Ma_asksOne 55 rfl) ?_
          refine cV2V cs_Ma_61 sh55 rfl (Nat.le_of_ble_eq_true rfl) (Nat.le_of_ble_eq_true rfl) (a_dec_at dc_Ma_asksOne 56 rfl) ?_
          refine CV.mono (fun mi13 ml13 z13 H => ?_) H
          refine ev_iconst (v := 1) rfl (a_dec_at dc_Ma_asksOne 57 rfl) ?_
          exact m_retI (a_dec_at dc_Ma_asksOne 58 rfl) rfl rfl H
      · have H := H.2 b9
        refine ev_aload_n (i := 0) rfl rfl (a_dec_at dc_Ma_asksOne 38 rfl) ?_
        refine ev_iload_n (i := 3) rfl rfl (a_dec_at dc_Ma_asksOne 39 rfl) ?_
        refine ev_iload_n (i := 2) rfl rfl (a_dec_at dc_Ma_asksOne 40 rfl) ?_
        refine cV2V cs_Ma_61 sh55 rfl (Nat.le_of_ble_eq_true rfl) (Nat.le_of_ble_eq_true rfl) (a_dec_at dc_Ma_asksOne 41 rfl) ?_
        refine CV.mono (fun mi14 ml14 z14 H => ?_) H
        refine ev_goto (tgt := 91) (a_dec_at dc_Ma_asksOne 42 rfl) (by decide) ?_
        refine ev_iconst (v := 1) rfl (a_dec_at dc_Ma_asksOne 57 rfl) ?_
        exact m_retI (a_dec_at dc_Ma_asksOne 58 rfl) rfl rfl H
    · have H := H.2 b5
      refine ev_iconst (v := 0) rfl (a_dec_at dc_Ma_asksOne 18 rfl) ?_
      exact m_retI (a_dec_at dc_Ma_asksOne 19 rfl) rfl rfl H
set_option maxRecDepth 20000 in
theorem t_Ma_nextBeck_33 {l : Launch} {h : Nat} (mi : TMi) (ml : TMl) (z : Nat) (a2 : Int32) {Q : Int32 → TMi → TMl → Nat → Prop} (H : Ev l (h + 1) m_Ma_nextBeck 5 ([.ref 55, .ref 33, .int a2, .int (-1), .int 0, .retAddr 0], [], st mi ml z) (qI Q)) : CI l (h + 1) m_Ma_nextBeck [.ref 55, .ref 33, .int a2] mi ml z Q := by
  show Ev l (h + 1) m_Ma_nextBeck 0 ([.ref 55, .ref 33, .int a2, .retAddr 0, .retAddr 0, .retAddr 0], [], st mi ml z) (qI Q)
  refine ev_iconst (v := (-1)) rfl (a_dec_at dc_Ma_nextBeck 0 rfl) ?_
  refine ev_istore_n (i := 3) rfl (by decide) rfl (a_dec_at dc_Ma_nextBeck 1 rfl) ?_
  refine ev_iconst (v := 0) rfl (a_dec_at dc_Ma_nextBeck 2 rfl) ?_
  refine ev_istore (by decide) rfl (a_dec_at dc_Ma_nextBeck 3 rfl) ?_
  exact Ev.drop (L' := [.ref 55, .ref 33, .int a2, .int (-1), .int 0, .retAddr 0]) (And.intro rfl (And.intro rfl (And.intro rfl (And.intro rfl (And.intro rfl trivial))))) H
set_option maxRecDepth 20000 in
theorem t_Ma_nextBeck_33_5 {l : Launch} {h : Nat} (mi : TMi) (ml : TMl) (z : Nat) (v2 : Int32) (v3 : Int32) (v4 : Int32) {Q : Int32 → TMi → TMl → Nat → Prop} (H : (((mi 18 0) ≤ v4 → Q v3 mi ml z) ∧ (¬ (mi 18 0) ≤ v4 → CI l h m_Sc_bothWould [.ref 33, .int v4, .int v2] mi ml z (fun x2 mi2 ml2 z2 => ((x2 = 0 → Ev l (h + 1) m_Ma_nextBeck 5 ([.ref 55, .ref 33, .int v2, .int v3, .int (v4 + 1), .retAddr 0], [], st mi2 ml2 z2) (qI Q)) ∧ (¬ x2 = 0 → (vp_in v2 6) ∧ ((¬ (((mi2 59 v2.toNatClampNeg) >>> (v4 &&& 31)) &&& 1) = 0 → Ev l (h + 1) m_Ma_nextBeck 5 ([.ref 55, .ref 33, .int v2, .int v3, .int (v4 + 1), .retAddr 0], [], st mi2 ml2 z2) (qI Q)) ∧ ((((mi2 59 v2.toNatClampNeg) >>> (v4 &&& 31)) &&& 1) = 0 → ((v3 = (-1) → Ev l (h + 1) m_Ma_nextBeck 5 ([.ref 55, .ref 33, .int v2, .int v4, .int (v4 + 1), .retAddr 0], [], st mi2 ml2 z2) (qI Q)) ∧ (¬ v3 = (-1) → CI l h m_Sc_takesBetter [.ref 33, .int v2, .int v4, .int v3] mi2 ml2 z2 (fun x7 mi7 ml7 z7 => ((x7 = 0 → Ev l (h + 1) m_Ma_nextBeck 5 ([.ref 55, .ref 33, .int v2, .int v3, .int (v4 + 1), .retAddr 0], [], st mi7 ml7 z7) (qI Q)) ∧ (¬ x7 = 0 → Ev l (h + 1) m_Ma_nextBeck 5 ([.ref 55, .ref 33, .int v2, .int v4, .int (v4 + 1), .retAddr 0], [], st mi7 ml7 z7) (qI Q)))))))))))))) : Ev l (h + 1) m_Ma_nextBeck 5 ([.ref 55, .ref 33, .int v2, .int v3, .int v4, .retAddr 0], [], st mi ml z) (qI Q) := by
  refine ev_iload rfl (a_dec_at dc_Ma_nextBeck 4 rfl) ?_
  refine ev_aload_n (i := 1) rfl rfl (a_dec_at dc_Ma_nextBeck 5 rfl) ?_
  refine m_getR (y := 18) fl_Ma_27 rfl sh33 (mr_33_0 _) (by decide) (a_dec_at dc_Ma_nextBeck 6 rfl) ?_
  refine m_getI fl_Ma_33 rfl sh18 (a_dec_at dc_Ma_nextBeck 7 rfl) ?_
  refine ev_icmp_ge (tgt := 78) (a_dec_at dc_Ma_nextBeck 8 rfl) (by decide) (fun b1 => ?_) (fun b1 => ?_)
  · have H := H.1 b1
    refine ev_iload_n (i := 3) rfl rfl (a_dec_at dc_Ma_nextBeck 42 rfl) ?_
    exact m_retI (a_dec_at dc_Ma_nextBeck 43 rfl) rfl rfl H
  · have H := H.2 b1
    refine ev_aload_n (i := 1) rfl rfl (a_dec_at dc_Ma_nextBeck 9 rfl) ?_
    refine ev_iload rfl (a_dec_at dc_Ma_nextBeck 10 rfl) ?_
    refine ev_iload_n (i := 2) rfl rfl (a_dec_at dc_Ma_nextBeck 11 rfl) ?_
    refine cV2I cs_Ma_89 sh33 rfl (Nat.le_of_ble_eq_true rfl) (Nat.le_of_ble_eq_true rfl) (a_dec_at dc_Ma_nextBeck 12 rfl) ?_
    refine CI.mono (fun x2 mi2 ml2 z2 H => ?_) H
    refine ev_if_eq (tgt := 45) (a_dec_at dc_Ma_nextBeck 13 rfl) (by decide) (fun b3 => ?_) (fun b3 => ?_)
    · have H := H.1 b3
      refine ev_iconst (v := 0) rfl (a_dec_at dc_Ma_nextBeck 25 rfl) ?_
      refine ev_istore (by decide) rfl (a_dec_at dc_Ma_nextBeck 26 rfl) ?_
      refine ev_iload rfl (a_dec_at dc_Ma_nextBeck 27 rfl) ?_
      refine ev_if_eq (tgt := 72) (a_dec_at dc_Ma_nextBeck 28 rfl) (by decide) (fun _ => ?_) (fun q => absurd (by decide) q)
      refine ev_iinc (v := 1) rfl rfl (by decide) rfl (a_dec_at dc_Ma_nextBeck 40 rfl) ?_
      refine ev_goto (tgt := 5) (a_dec_at dc_Ma_nextBeck 41 rfl) (by decide) ?_
      exact Ev.drop (L' := [.ref 55, .ref 33, .int v2, .int v3, .int (v4 + 1), .retAddr 0]) (And.intro rfl (And.intro rfl (And.intro rfl (And.intro rfl (And.intro rfl trivial))))) H
    · have H := H.2 b3
      refine ev_aload_n (i := 0) rfl rfl (a_dec_at dc_Ma_nextBeck 14 rfl) ?_
      refine m_getR (y := 59) fl_Ma_21 rfl sh55 (mr_55_3 _) (by decide) (a_dec_at dc_Ma_nextBeck 15 rfl) ?_
      refine ev_iload_n (i := 2) rfl rfl (a_dec_at dc_Ma_nextBeck 16 rfl) ?_
      obtain ⟨c4, H⟩ := H
      refine w_iald (k := v2.toNatClampNeg) sh59 c4 rfl (a_dec_at dc_Ma_nextBeck 17 rfl) ?_
      refine ev_iload rfl (a_dec_at dc_Ma_nextBeck 18 rfl) ?_
      refine ev_ishr (a_dec_at dc_Ma_nextBeck 19 rfl) ?_
      refine ev_iconst (v := 1) rfl (a_dec_at dc_Ma_nextBeck 20 rfl) ?_
      refine ev_iand (a_dec_at dc_Ma_nextBeck 21 rfl) ?_
      refine ev_if_ne (tgt := 45) (a_dec_at dc_Ma_nextBeck 22 rfl) (by decide) (fun b5 => ?_) (fun b5 => ?_)
      · have H := H.1 b5
        refine ev_iconst (v := 0) rfl (a_dec_at dc_Ma_nextBeck 25 rfl) ?_
        refine ev_istore (by decide) rfl (a_dec_at dc_Ma_nextBeck 26 rfl) ?_
        refine ev_iload rfl (a_dec_at dc_Ma_nextBeck 27 rfl) ?_
        refine ev_if_eq (tgt := 72) (a_dec_at dc_Ma_nextBeck 28 rfl) (by decide) (fun _ => ?_) (fun q => absurd (by decide) q)
        refine ev_iinc (v := 1) rfl rfl (by decide) rfl (a_dec_at dc_Ma_nextBeck 40 rfl) ?_
        refine ev_goto (tgt := 5) (a_dec_at dc_Ma_nextBeck 41 rfl) (by decide) ?_
        exact Ev.drop (L' := [.ref 55, .ref 33, .int v2, .int v3, .int (v4 + 1), .retAddr 0]) (And.intro rfl (And.intro rfl (And.intro rfl (And.intro rfl (And.intro rfl trivial))))) H
      · have H := H.2 b5
        refine ev_iconst (v := 1) rfl (a_dec_at dc_Ma_nextBeck 23 rfl) ?_
        refine ev_goto (tgt := 46) (a_dec_at dc_Ma_nextBeck 24 rfl) (by decide) ?_
        refine ev_istore (by decide) rfl (a_dec_at dc_Ma_nextBeck 26 rfl) ?_
        refine ev_iload rfl (a_dec_at dc_Ma_nextBeck 27 rfl) ?_
        refine ev_if_eq (tgt := 72) (a_dec_at dc_Ma_nextBeck 28 rfl) (by decide) (fun q => absurd q (by decide)) (fun _ => ?_)
        refine ev_iload_n (i := 3) rfl rfl (a_dec_at dc_Ma_nextBeck 29 rfl) ?_
        refine ev_iconst (v := (-1)) rfl (a_dec_at dc_Ma_nextBeck 30 rfl) ?_
        refine ev_icmp_eq (tgt := 69) (a_dec_at dc_Ma_nextBeck 31 rfl) (by decide) (fun b6 => ?_) (fun b6 => ?_)
        · have H := H.1 b6
          refine ev_iload rfl (a_dec_at dc_Ma_nextBeck 38 rfl) ?_
          refine ev_istore_n (i := 3) rfl (by decide) rfl (a_dec_at dc_Ma_nextBeck 39 rfl) ?_
          refine ev_iinc (v := 1) rfl rfl (by decide) rfl (a_dec_at dc_Ma_nextBeck 40 rfl) ?_
          refine ev_goto (tgt := 5) (a_dec_at dc_Ma_nextBeck 41 rfl) (by decide) ?_
          exact Ev.drop (L' := [.ref 55, .ref 33, .int v2, .int v4, .int (v4 + 1), .retAddr 0]) (And.intro rfl (And.intro rfl (And.intro rfl (And.intro rfl (And.intro rfl trivial))))) H
        · have H := H.2 b6
          refine ev_aload_n (i := 1) rfl rfl (a_dec_at dc_Ma_nextBeck 32 rfl) ?_
          refine ev_iload_n (i := 2) rfl rfl (a_dec_at dc_Ma_nextBeck 33 rfl) ?_
          refine ev_iload rfl (a_dec_at dc_Ma_nextBeck 34 rfl) ?_
          refine ev_iload_n (i := 3) rfl rfl (a_dec_at dc_Ma_nextBeck 35 rfl) ?_
          refine cV3I cs_Ma_93 sh33 rfl (Nat.le_of_ble_eq_true rfl) (Nat.le_of_ble_eq_true rfl) (a_dec_at dc_Ma_nextBeck 36 rfl) ?_
          refine CI.mono (fun x7 mi7 ml7 z7 H => ?_) H
          refine ev_if_eq (tgt := 72) (a_dec_at dc_Ma_nextBeck 37 rfl) (by decide) (fun b8 => ?_) (fun b8 => ?_)
          · have H := H.1 b8
            refine ev_iinc (v := 1) rfl rfl (by decide) rfl (a_dec_at dc_Ma_nextBeck 40 rfl) ?_
            refine ev_goto (tgt := 5) (a_dec_at dc_Ma_nextBeck 41 rfl) (by decide) ?_
            exact Ev.drop (L' := [.ref 55, .ref 33, .int v2, .int v3, .int (v4 + 1), .retAddr 0]) (And.intro rfl (And.intro rfl (And.intro rfl (And.intro rfl (And.intro rfl trivial))))) H
          · have H := H.2 b8
            refine ev_iload rfl (a_dec_at dc_Ma_nextBeck 38 rfl) ?_
            refine ev_istore_n (i := 3) rfl (by decide) rfl (a_dec_at dc_Ma_nextBeck 39 rfl) ?_
            refine ev_iinc (v := 1) rfl rfl (by decide) rfl (a_dec_at dc_Ma_nextBeck 40 rfl) ?_
            refine ev_goto (tgt := 5) (a_dec_at dc_Ma_nextBeck 41 rfl) (by decide) ?_
            exact Ev.drop (L' := [.ref 55, .ref 33, .int v2, .int v4, .int (v4 + 1), .retAddr 0]) (And.intro rfl (And.intro rfl (And.intro rfl (And.intro rfl (And.intro rfl trivial))))) H
set_option maxRecDepth 20000 in
theorem t_Ma_clear {l : Launch} {h : Nat} (mi : TMi) (ml : TMl) (z : Nat) {Q : TMi → TMl → Nat → Prop} (H : Ev l (h + 1) m_Ma_clear 2 ([.ref 55, .int 0], [], st mi ml z) (qV Q)) : CV l (h + 1) m_Ma_clear [.ref 55] mi ml z Q := by
  show Ev l (h + 1) m_Ma_clear 0 ([.ref 55, .retAddr 0], [], st mi ml z) (qV Q)
  refine ev_iconst (v := 0) rfl (a_dec_at dc_Ma_clear 0 rfl) ?_
  refine ev_istore_n (i := 1) rfl (by decide) rfl (a_dec_at dc_Ma_clear 1 rfl) ?_
  exact Ev.drop (L' := [.ref 55, .int 0]) (And.intro rfl (And.intro rfl trivial)) H
set_option maxRecDepth 20000 in
theorem t_Ma_clear_2 {l : Launch} {h : Nat} (mi : TMi) (ml : TMl) (z : Nat) (v1 : Int32) {Q : TMi → TMl → Nat → Prop} (H : ((6 ≤ v1 → Ev l (h + 1) m_Ma_clear 30 ([.ref 55, .int 0], [], st mi ml z) (qV Q)) ∧ (¬ 6 ≤ v1 → (vp_in v1 6) ∧ (vp_in v1 6) ∧ Ev l (h + 1) m_Ma_clear 2 ([.ref 55, .int (v1 + 1)], [], st (up (up mi 56 v1.toNatClampNeg (-1)) 59 v1.toNatClampNeg 0) ml z) (qV Q)))) : Ev l (h + 1) m_Ma_clear 2 ([.ref 55, .int v1], [], st mi ml z) (qV Q) := by
  refine ev_iload_n (i := 1) rfl rfl (a_dec_at dc_Ma_clear 2 rfl) ?_
  refine ev_bipush (v := 6) rfl (a_dec_at dc_Ma_clear 3 rfl) ?_
  refine ev_icmp_ge (tgt := 28) (a_dec_at dc_Ma_clear 4 rfl) (by decide) (fun b1 => ?_) (fun b1 => ?_)
  · have H := H.1 b1
    refine ev_iconst (v := 0) rfl (a_dec_at dc_Ma_clear 17 rfl) ?_
    refine ev_istore_n (i := 1) rfl (by decide) rfl (a_dec_at dc_Ma_clear 18 rfl) ?_
    exact Ev.drop (L' := [.ref 55, .int 0]) (And.intro rfl (And.intro rfl trivial)) H
  · have H := H.2 b1
    refine ev_aload_n (i := 0) rfl rfl (a_dec_at dc_Ma_clear 5 rfl) ?_
    refine m_getR (y := 56) fl_Ma_9 rfl sh55 (mr_55_0 _) (by decide) (a_dec_at dc_Ma_clear 6 rfl) ?_
    refine ev_iload_n (i := 1) rfl rfl (a_dec_at dc_Ma_clear 7 rfl) ?_
    refine ev_iconst (v := (-1)) rfl (a_dec_at dc_Ma_clear 8 rfl) ?_
    obtain ⟨c2, H⟩ := H
    refine w_iast (k := v1.toNatClampNeg) sh56 c2 rfl (a_dec_at dc_Ma_clear 9 rfl) ?_
    refine ev_aload_n (i := 0) rfl rfl (a_dec_at dc_Ma_clear 10 rfl) ?_
    refine m_getR (y := 59) fl_Ma_21 rfl sh55 (mr_55_3 _) (by decide) (a_dec_at dc_Ma_clear 11 rfl) ?_
    refine ev_iload_n (i := 1) rfl rfl (a_dec_at dc_Ma_clear 12 rfl) ?_
    refine ev_iconst (v := 0) rfl (a_dec_at dc_Ma_clear 13 rfl) ?_
    obtain ⟨c3, H⟩ := H
    refine w_iast (k := v1.toNatClampNeg) sh59 c3 rfl (a_dec_at dc_Ma_clear 14 rfl) ?_
    refine ev_iinc (v := 1) rfl rfl (by decide) rfl (a_dec_at dc_Ma_clear 15 rfl) ?_
    refine ev_goto (tgt := 2) (a_dec_at dc_Ma_clear 16 rfl) (by decide) ?_
    exact Ev.drop (L' := [.ref 55, .int (v1 + 1)]) (And.intro rfl (And.intro rfl trivial)) H
set_option maxRecDepth 20000 in
theorem t_Ma_clear_30 {l : Launch} {h : Nat} (mi : TMi) (ml : TMl) (z : Nat) (v1 : Int32) {Q : TMi → TMl → Nat → Prop} (H : ((4 ≤ v1 → Q mi ml z) ∧ (¬ 4 ≤ v1 → (vp_in v1 4) ∧ (vp_in v1 4) ∧ Ev l (h + 1) m_Ma_clear 30 ([.ref 55, .int (v1 + 1)], [], st (up (up mi 57 v1.toNatClampNeg 0) 58 v1.toNatClampNeg 0) ml z) (qV Q)))) : Ev l (h + 1) m_Ma_clear 30 ([.ref 55, .int v1], [], st mi ml z) (qV Q) := by
  refine ev_iload_n (i := 1) rfl rfl (a_dec_at dc_Ma_clear 19 rfl) ?_
  refine ev_iconst (v := 4) rfl (a_dec_at dc_Ma_clear 20 rfl) ?_
  refine ev_icmp_ge (tgt := 55) (a_dec_at dc_Ma_clear 21 rfl) (by decide) (fun b1 => ?_) (fun b1 => ?_)
  · have H := H.1 b1
    exact m_retV (a_dec_at dc_Ma_clear 34 rfl) rfl H
  · have H := H.2 b1
    refine ev_aload_n (i := 0) rfl rfl (a_dec_at dc_Ma_clear 22 rfl) ?_
    refine m_getR (y := 57) fl_Ma_15 rfl sh55 (mr_55_1 _) (by decide) (a_dec_at dc_Ma_clear 23 rfl) ?_
    refine ev_iload_n (i := 1) rfl rfl (a_dec_at dc_Ma_clear 24 rfl) ?_
    refine ev_iconst (v := 0) rfl (a_dec_at dc_Ma_clear 25 rfl) ?_
    obtain ⟨c2, H⟩ := H
    refine w_iast (k := v1.toNatClampNeg) sh57 c2 rfl (a_dec_at dc_Ma_clear 26 rfl) ?_
    refine ev_aload_n (i := 0) rfl rfl (a_dec_at dc_Ma_clear 27 rfl) ?_
    refine m_getR (y := 58) fl_Ma_18 rfl sh55 (mr_55_2 _) (by decide) (a_dec_at dc_Ma_clear 28 rfl) ?_
    refine ev_iload_n (i := 1) rfl rfl (a_dec_at dc_Ma_clear 29 rfl) ?_
    refine ev_iconst (v := 0) rfl (a_dec_at dc_Ma_clear 30 rfl) ?_
    obtain ⟨c3, H⟩ := H
    refine w_iast (k := v1.toNatClampNeg) sh58 c3 rfl (a_dec_at dc_Ma_clear 31 rfl) ?_
    refine ev_iinc (v := 1) rfl rfl (by decide) rfl (a_dec_at dc_Ma_clear 32 rfl) ?_
    refine ev_goto (tgt := 30) (a_dec_at dc_Ma_clear 33 rfl) (by decide) ?_
    exact Ev.drop (L' := [.ref 55, .int (v1 + 1)]) (And.intro rfl (And.intro rfl trivial)) H
set_option maxRecDepth 20000 in
theorem t_Ma_comeIn {l : Launch} {h : Nat} (mi : TMi) (ml : TMl) (z : Nat) (a1 : Int32) (a2 : Int32) {Q : TMi → TMl → Nat → Prop} (H : (vp_in a1 6) ∧ (vp_in a2 4) ∧ (vp_in a2 4) ∧ (vp_in a2 4) ∧ (vp_in a2 4) ∧ Q (up (up (up mi 56 a1.toNatClampNeg a2) 57 a2.toNatClampNeg (((up mi 56 a1.toNatClampNeg a2) 57 a2.toNatClampNeg) ||| ((1 : Int32) <<< (a1 &&& 31)))) 58 a2.toNatClampNeg (((up (up mi 56 a1.toNatClampNeg a2) 57 a2.toNatClampNeg (((up mi 56 a1.toNatClampNeg a2) 57 a2.toNatClampNeg) ||| ((1 : Int32) <<< (a1 &&& 31)))) 58 a2.toNatClampNeg) + 1)) ml z) : CV l (h + 1) m_Ma_comeIn [.ref 55, .int a1, .int a2] mi ml z Q := by
  show Ev l (h + 1) m_Ma_comeIn 0 ([.ref 55, .int a1, .int a2], [], st mi ml z) (qV Q)
  refine ev_aload_n (i := 0) rfl rfl (a_dec_at dc_Ma_comeIn 0 rfl) ?_
  refine m_getR (y := 56) fl_Ma_9 rfl sh55 (mr_55_0 _) (by decide) (a_dec_at dc_Ma_comeIn 1 rfl) ?_
  refine ev_iload_n (i := 1) rfl rfl (a_dec_at dc_Ma_comeIn 2 rfl) ?_
  refine ev_iload_n (i := 2) rfl rfl (a_dec_at dc_Ma_comeIn 3 rfl) ?_
  obtain ⟨c1, H⟩ := H
  refine w_iast (k := a1.toNatClampNeg) sh56 c1 rfl (a_dec_at dc_Ma_comeIn 4 rfl) ?_
  refine ev_aload_n (i := 0) rfl rfl (a_dec_at dc_Ma_comeIn 5 rfl) ?_
  refine m_getR (y := 57) fl_Ma_15 rfl sh55 (mr_55_1 _) (by decide) (a_dec_at dc_Ma_comeIn 6 rfl) ?_
  refine ev_iload_n (i := 2) rfl rfl (a_dec_at dc_Ma_comeIn 7 rfl) ?_
  refine ev_dup2 rfl rfl (a_dec_at dc_Ma_comeIn 8 rfl) ?_
  obtain ⟨c2, H⟩ := H
  refine w_iald (k := a2.toNatClampNeg) sh57 c2 rfl (a_dec_at dc_Ma_comeIn 9 rfl) ?_
  refine ev_iconst (v := 1) rfl (a_dec_at dc_Ma_comeIn 10 rfl) ?_
  refine ev_iload_n (i := 1) rfl rfl (a_dec_at dc_Ma_comeIn 11 rfl) ?_
  refine ev_ishl (a_dec_at dc_Ma_comeIn 12 rfl) ?_
  refine ev_ior (a_dec_at dc_Ma_comeIn 13 rfl) ?_
  obtain ⟨c3, H⟩ := H
  refine w_iast (k := a2.toNatClampNeg) sh57 c3 rfl (a_dec_at dc_Ma_comeIn 14 rfl) ?_
  refine ev_aload_n (i := 0) rfl rfl (a_dec_at dc_Ma_comeIn 15 rfl) ?_
  refine m_getR (y := 58) fl_Ma_18 rfl sh55 (mr_55_2 _) (by decide) (a_dec_at dc_Ma_comeIn 16 rfl) ?_
  refine ev_iload_n (i := 2) rfl rfl (a_dec_at dc_Ma_comeIn 17 rfl) ?_
  refine ev_dup2 rfl rfl (a_dec_at dc_Ma_comeIn 18 rfl) ?_
  obtain ⟨c4, H⟩ := H
  refine w_iald (k := a2.toNatClampNeg) sh58 c4 rfl (a_dec_at dc_Ma_comeIn 19 rfl) ?_
  refine ev_iconst (v := 1) rfl (a_dec_at dc_Ma_comeIn 20 rfl) ?_
  refine ev_iadd (a_dec_at dc_Ma_comeIn 21 rfl) ?_
  obtain ⟨c5, H⟩ := H
  refine w_iast (k := a2.toNatClampNeg) sh58 c5 rfl (a_dec_at dc_Ma_comeIn 22 rfl) ?_
  exact m_retV (a_dec_at dc_Ma_comeIn 23 rfl) rfl H
set_option maxRecDepth 20000 in
theorem t_Ma_goOff {l : Launch} {h : Nat} (mi : TMi) (ml : TMl) (z : Nat) (a1 : Int32) (a2 : Int32) {Q : TMi → TMl → Nat → Prop} (H : (vp_in a1 6) ∧ (vp_in a2 4) ∧ (vp_in a2 4) ∧ (vp_in a2 4) ∧ (vp_in a2 4) ∧ Q (up (up (up mi 56 a1.toNatClampNeg (-1)) 57 a2.toNatClampNeg (((up mi 56 a1.toNatClampNeg (-1)) 57 a2.toNatClampNeg) &&& (((1 : Int32) <<< (a1 &&& 31)) ^^^ (-1)))) 58 a2.toNatClampNeg (((up (up mi 56 a1.toNatClampNeg (-1)) 57 a2.toNatClampNeg (((up mi 56 a1.toNatClampNeg (-1)) 57 a2.toNatClampNeg) &&& (((1 : Int32) <<< (a1 &&& 31)) ^^^ (-1)))) 58 a2.toNatClampNeg) - 1)) ml z) : CV l (h + 1) m_Ma_goOff [.ref 55, .int a1, .int a2] mi ml z Q := by
  show Ev l (h + 1) m_Ma_goOff 0 ([.ref 55, .int a1, .int a2], [], st mi ml z) (qV Q)
  refine ev_aload_n (i := 0) rfl rfl (a_dec_at dc_Ma_goOff 0 rfl) ?_
  refine m_getR (y := 56) fl_Ma_9 rfl sh55 (mr_55_0 _) (by decide) (a_dec_at dc_Ma_goOff 1 rfl) ?_
  refine ev_iload_n (i := 1) rfl rfl (a_dec_at dc_Ma_goOff 2 rfl) ?_
  refine ev_iconst (v := (-1)) rfl (a_dec_at dc_Ma_goOff 3 rfl) ?_
  obtain ⟨c1, H⟩ := H
  refine w_iast (k := a1.toNatClampNeg) sh56 c1 rfl (a_dec_at dc_Ma_goOff 4 rfl) ?_
  refine ev_aload_n (i := 0) rfl rfl (a_dec_at dc_Ma_goOff 5 rfl) ?_
  refine m_getR (y := 57) fl_Ma_15 rfl sh55 (mr_55_1 _) (by decide) (a_dec_at dc_Ma_goOff 6 rfl) ?_
  refine ev_iload_n (i := 2) rfl rfl (a_dec_at dc_Ma_goOff 7 rfl) ?_
  refine ev_dup2 rfl rfl (a_dec_at dc_Ma_goOff 8 rfl) ?_
  obtain ⟨c2, H⟩ := H
  refine w_iald (k := a2.toNatClampNeg) sh57 c2 rfl (a_dec_at dc_Ma_goOff 9 rfl) ?_
  refine ev_iconst (v := 1) rfl (a_dec_at dc_Ma_goOff 10 rfl) ?_
  refine ev_iload_n (i := 1) rfl rfl (a_dec_at dc_Ma_goOff 11 rfl) ?_
  refine ev_ishl (a_dec_at dc_Ma_goOff 12 rfl) ?_
  refine ev_iconst (v := (-1)) rfl (a_dec_at dc_Ma_goOff 13 rfl) ?_
  refine ev_ixor (a_dec_at dc_Ma_goOff 14 rfl) ?_
  refine ev_iand (a_dec_at dc_Ma_goOff 15 rfl) ?_
  obtain ⟨c3, H⟩ := H
  refine w_iast (k := a2.toNatClampNeg) sh57 c3 rfl (a_dec_at dc_Ma_goOff 16 rfl) ?_
  refine ev_aload_n (i := 0) rfl rfl (a_dec_at dc_Ma_goOff 17 rfl) ?_
  refine m_getR (y := 58) fl_Ma_18 rfl sh55 (mr_55_2 _) (by decide) (a_dec_at dc_Ma_goOff 18 rfl) ?_
  refine ev_iload_n (i := 2) rfl rfl (a_dec_at dc_Ma_goOff 19 rfl) ?_
  refine ev_dup2 rfl rfl (a_dec_at dc_Ma_goOff 20 rfl) ?_
  obtain ⟨c4, H⟩ := H
  refine w_iald (k := a2.toNatClampNeg) sh58 c4 rfl (a_dec_at dc_Ma_goOff 21 rfl) ?_
  refine ev_iconst (v := 1) rfl (a_dec_at dc_Ma_goOff 22 rfl) ?_
  refine ev_isub (a_dec_at dc_Ma_goOff 23 rfl) ?_
  obtain ⟨c5, H⟩ := H
  refine w_iast (k := a2.toNatClampNeg) sh58 c5 rfl (a_dec_at dc_Ma_goOff 24 rfl) ?_
  exact m_retV (a_dec_at dc_Ma_goOff 25 rfl) rfl H
