set_option maxRecDepth 20000 in
theorem t_R_laysByRivers {l : Launch} {h : Nat} (mi : TMi) (ml : TMl) (z : Nat) {Q : TMi → TMl → Nat → Prop} (H : CV l h m_R_begins [.ref 119] mi ml z (fun mi1 ml1 z1 => Ev l (h + 1) m_R_laysByRivers 6 ([.ref 119, .int 1, .retAddr 0, .retAddr 0], [], st mi1 ml1 z1) (qV Q))) : CV l (h + 1) m_R_laysByRivers [.ref 119] mi ml z Q := by
  show Ev l (h + 1) m_R_laysByRivers 0 ([.ref 119, .retAddr 0, .retAddr 0, .retAddr 0], [], st mi ml z) (qV Q)
  refine ev_aload_n (i := 0) rfl rfl (a_dec_at dc_R_laysByRivers 0 rfl) ?_
  refine cV0V cs_R_394 sh119 rfl (Nat.le_of_ble_eq_true rfl) (Nat.le_of_ble_eq_true rfl) (a_dec_at dc_R_laysByRivers 1 rfl) ?_
  refine CV.mono (fun mi1 ml1 z1 H => ?_) H
  refine ev_iconst (v := 1) rfl (a_dec_at dc_R_laysByRivers 2 rfl) ?_
  refine ev_istore_n (i := 1) rfl (by decide) rfl (a_dec_at dc_R_laysByRivers 3 rfl) ?_
  exact Ev.drop (L' := [.ref 119, .int 1, .retAddr 0, .retAddr 0]) (And.intro rfl (And.intro rfl trivial)) H
set_option maxRecDepth 20000 in
theorem t_R_laysByRivers_6 {l : Launch} {h : Nat} (mi : TMi) (ml : TMl) (z : Nat) (v1 : Int32) {Q : TMi → TMl → Nat → Prop} (H : ((v1 = 0 → Q mi ml z) ∧ (¬ v1 = 0 → Ev l (h + 1) m_R_laysByRivers 14 ([.ref 119, .int 0, .int 0, .retAddr 0], [], st mi ml z) (qV Q)))) : Ev l (h + 1) m_R_laysByRivers 6 ([.ref 119, .int v1, .retAddr 0, .retAddr 0], [], st mi ml z) (qV Q) := by
  refine ev_iload_n (i := 1) rfl rfl (a_dec_at dc_R_laysByRivers 4 rfl) ?_
  refine ev_if_eq (tgt := 127) (a_dec_at dc_R_laysByRivers 5 rfl) (by decide) (fun b1 => ?_) (fun b1 => ?_)
  · have H := H.1 b1
    exact m_retV (a_dec_at dc_R_laysByRivers 81 rfl) rfl H
  · have H := H.2 b1
    refine ev_iconst (v := 0) rfl (a_dec_at dc_R_laysByRivers 6 rfl) ?_
    refine ev_istore_n (i := 1) rfl (by decide) rfl (a_dec_at dc_R_laysByRivers 7 rfl) ?_
    refine ev_iconst (v := 0) rfl (a_dec_at dc_R_laysByRivers 8 rfl) ?_
    refine ev_istore_n (i := 2) rfl (by decide) rfl (a_dec_at dc_R_laysByRivers 9 rfl) ?_
    exact Ev.drop (L' := [.ref 119, .int 0, .int 0, .retAddr 0]) (And.intro rfl (And.intro rfl (And.intro rfl trivial))) H
set_option maxRecDepth 20000 in
theorem t_R_laysByRivers_14 {l : Launch} {h : Nat} (mi : TMi) (ml : TMl) (z : Nat) (v1 : Int32) (v2 : Int32) {Q : TMi → TMl → Nat → Prop} (H : (((mi 120 2) ≤ v2 → Ev l (h + 1) m_R_laysByRivers 6 ([.ref 119, .int v1, .retAddr 0, .retAddr 0], [], st mi ml z) (qV Q)) ∧ (¬ (mi 120 2) ≤ v2 → CI l h m_R_asks1 [.ref 119, .int v2] mi ml z (fun x2 mi2 ml2 z2 => ((¬ x2 = (-1) → (vp_in x2 6) ∧ (((mi2 129 x2.toNatClampNeg) = (-1) → (vp_in x2 6) ∧ (vp_in x2 6) ∧ ((¬ (mi2 129 x2.toNatClampNeg) = (-1) → (vp_in x2 6) ∧ (vp_in x2 6) ∧ (vp_in x2 6) ∧ Ev l (h + 1) m_R_laysByRivers 14 ([.ref 119, .int 1, .int (v2 + 1), .retAddr 0], [], st (up (up mi2 131 x2.toNatClampNeg ((mi2 131 x2.toNatClampNeg) ||| ((1 : Int32) <<< ((mi2 129 x2.toNatClampNeg) &&& 31)))) 129 x2.toNatClampNeg v2) ml2 z2) (qV Q)) ∧ ((mi2 129 x2.toNatClampNeg) = (-1) → (vp_in x2 6) ∧ (vp_in x2 6) ∧ Ev l (h + 1) m_R_laysByRivers 14 ([.ref 119, .int 1, .int (v2 + 1), .retAddr 0], [], st (up (up mi2 131 x2.toNatClampNeg ((mi2 131 x2.toNatClampNeg) ||| 0)) 129 x2.toNatClampNeg v2) ml2 z2) (qV Q)))) ∧ (¬ (mi2 129 x2.toNatClampNeg) = (-1) → (vp_in x2 6) ∧ CI l h m_R_likesTold [.ref 119, .int x2, .int v2, .int (mi2 129 x2.toNatClampNeg)] mi2 ml2 z2 (fun x15 mi15 ml15 z15 => ((x15 = 0 → (vp_in x2 6) ∧ (vp_in x2 6) ∧ Ev l (h + 1) m_R_laysByRivers 14 ([.ref 119, .int 1, .int (v2 + 1), .retAddr 0], [], st (up mi15 131 x2.toNatClampNeg ((mi15 131 x2.toNatClampNeg) ||| ((1 : Int32) <<< (v2 &&& 31)))) ml15 z15) (qV Q)) ∧ (¬ x15 = 0 → (vp_in x2 6) ∧ (vp_in x2 6) ∧ ((¬ (mi15 129 x2.toNatClampNeg) = (-1) → (vp_in x2 6) ∧ (vp_in x2 6) ∧ (vp_in x2 6) ∧ Ev l (h + 1) m_R_laysByRivers 14 ([.ref 119, .int 1, .int (v2 + 1), .retAddr 0], [], st (up (up mi15 131 x2.toNatClampNeg ((mi15 131 x2.toNatClampNeg) ||| ((1 : Int32) <<< ((mi15 129 x2.toNatClampNeg) &&& 31)))) 129 x2.toNatClampNeg v2) ml15 z15) (qV Q)) ∧ ((mi15 129 x2.toNatClampNeg) = (-1) → (vp_in x2 6) ∧ (vp_in x2 6) ∧ Ev l (h + 1) m_R_laysByRivers 14 ([.ref 119, .int 1, .int (v2 + 1), .retAddr 0], [], st (up (up mi15 131 x2.toNatClampNeg ((mi15 131 x2.toNatClampNeg) ||| 0)) 129 x2.toNatClampNeg v2) ml15 z15) (qV Q))))))))) ∧ (x2 = (-1) → Ev l (h + 1) m_R_laysByRivers 14 ([.ref 119, .int v1, .int (v2 + 1), .retAddr 0], [], st mi2 ml2 z2) (qV Q))))))) : Ev l (h + 1) m_R_laysByRivers 14 ([.ref 119, .int v1, .int v2, .retAddr 0], [], st mi ml z) (qV Q) := by
  refine ev_iload_n (i := 2) rfl rfl (a_dec_at dc_R_laysByRivers 10 rfl) ?_
  refine ev_aload_n (i := 0) rfl rfl (a_dec_at dc_R_laysByRivers 11 rfl) ?_
  refine m_getR (y := 120) fl_R_13 rfl sh119 (mr_119_1 _) (by decide) (a_dec_at dc_R_laysByRivers 12 rfl) ?_
  refine ev_iconst (v := 2) rfl (a_dec_at dc_R_laysByRivers 13 rfl) ?_
  refine w_iald (k := 2) sh120 (by unfold vp_in; decide) (by decide) (a_dec_at dc_R_laysByRivers 14 rfl) ?_
  refine ev_icmp_ge (tgt := 124) (a_dec_at dc_R_laysByRivers 15 rfl) (by decide) (fun b1 => ?_) (fun b1 => ?_)
  · have H := H.1 b1
    refine ev_goto (tgt := 6) (a_dec_at dc_R_laysByRivers 80 rfl) (by decide) ?_
    exact Ev.drop (L' := [.ref 119, .int v1, .retAddr 0, .retAddr 0]) (And.intro rfl (And.intro rfl trivial)) H
  · have H := H.2 b1
    refine ev_aload_n (i := 0) rfl rfl (a_dec_at dc_R_laysByRivers 16 rfl) ?_
    refine ev_iload_n (i := 2) rfl rfl (a_dec_at dc_R_laysByRivers 17 rfl) ?_
    refine cV1I cs_R_397 sh119 rfl (Nat.le_of_ble_eq_true rfl) (Nat.le_of_ble_eq_true rfl) (a_dec_at dc_R_laysByRivers 18 rfl) ?_
    refine CI.mono (fun x2 mi2 ml2 z2 H => ?_) H
    refine ev_istore_n (i := 3) rfl (by decide) rfl (a_dec_at dc_R_laysByRivers 19 rfl) ?_
    refine ev_iload_n (i := 3) rfl rfl (a_dec_at dc_R_laysByRivers 20 rfl) ?_
    refine ev_iconst (v := (-1)) rfl (a_dec_at dc_R_laysByRivers 21 rfl) ?_
    refine ev_icmp_ne (tgt := 38) (a_dec_at dc_R_laysByRivers 22 rfl) (by decide) (fun b3 => ?_) (fun b3 => ?_)
    · have H := H.1 b3
      refine ev_iconst (v := 1) rfl (a_dec_at dc_R_laysByRivers 24 rfl) ?_
      refine ev_istore_n (i := 1) rfl (by decide) rfl (a_dec_at dc_R_laysByRivers 25 rfl) ?_
      refine ev_aload_n (i := 0) rfl rfl (a_dec_at dc_R_laysByRivers 26 rfl) ?_
      refine m_getR (y := 129) fl_R_45 rfl sh119 (mr_119_23 _) (by decide) (a_dec_at dc_R_laysByRivers 27 rfl) ?_
      refine ev_iload_n (i := 3) rfl rfl (a_dec_at dc_R_laysByRivers 28 rfl) ?_
      obtain ⟨c4, H⟩ := H
      refine w_iald (k := x2.toNatClampNeg) sh129 c4 rfl (a_dec_at dc_R_laysByRivers 29 rfl) ?_
      refine ev_iconst (v := (-1)) rfl (a_dec_at dc_R_laysByRivers 30 rfl) ?_
      refine ev_icmp_eq (tgt := 65) (a_dec_at dc_R_laysByRivers 31 rfl) (by decide) (fun b5 => ?_) (fun b5 => ?_)
      · have H := H.1 b5
        refine ev_aload_n (i := 0) rfl rfl (a_dec_at dc_R_laysByRivers 41 rfl) ?_
        refine m_getR (y := 131) fl_R_51 rfl sh119 (mr_119_26 _) (by decide) (a_dec_at dc_R_laysByRivers 42 rfl) ?_
        refine ev_iload_n (i := 3) rfl rfl (a_dec_at dc_R_laysByRivers 43 rfl) ?_
        refine ev_dup2 rfl rfl (a_dec_at dc_R_laysByRivers 44 rfl) ?_
        obtain ⟨c6, H⟩ := H
        refine w_iald (k := x2.toNatClampNeg) sh131 c6 rfl (a_dec_at dc_R_laysByRivers 45 rfl) ?_
        refine ev_aload_n (i := 0) rfl rfl (a_dec_at dc_R_laysByRivers 46 rfl) ?_
        refine m_getR (y := 129) fl_R_45 rfl sh119 (mr_119_23 _) (by decide) (a_dec_at dc_R_laysByRivers 47 rfl) ?_
        refine ev_iload_n (i := 3) rfl rfl (a_dec_at dc_R_laysByRivers 48 rfl) ?_
        obtain ⟨c7, H⟩ := H
        refine w_iald (k := x2.toNatClampNeg) sh129 c7 rfl (a_dec_at dc_R_laysByRivers 49 rfl) ?_
        refine ev_iconst (v := (-1)) rfl (a_dec_at dc_R_laysByRivers 50 rfl) ?_
        refine ev_icmp_ne (tgt := 86) (a_dec_at dc_R_laysByRivers 51 rfl) (by decide) (fun b8 => ?_) (fun b8 => ?_)
        · have H := H.1 b8
          refine ev_iconst (v := 1) rfl (a_dec_at dc_R_laysByRivers 54 rfl) ?_
          refine ev_aload_n (i := 0) rfl rfl (a_dec_at dc_R_laysByRivers 55 rfl) ?_
          refine m_getR (y := 129) fl_R_45 rfl sh119 (mr_119_23 _) (by decide) (a_dec_at dc_R_laysByRivers 56 rfl) ?_
          refine ev_iload_n (i := 3) rfl rfl (a_dec_at dc_R_laysByRivers 57 rfl) ?_
          obtain ⟨c9, H⟩ := H
          refine w_iald (k := x2.toNatClampNeg) sh129 c9 rfl (a_dec_at dc_R_laysByRivers 58 rfl) ?_
          refine ev_ishl (a_dec_at dc_R_laysByRivers 59 rfl) ?_
          refine ev_ior (a_dec_at dc_R_laysByRivers 60 rfl) ?_
          obtain ⟨c10, H⟩ := H
          refine w_iast (k := x2.toNatClampNeg) sh131 c10 rfl (a_dec_at dc_R_laysByRivers 61 rfl) ?_
          refine ev_aload_n (i := 0) rfl rfl (a_dec_at dc_R_laysByRivers 62 rfl) ?_
          refine m_getR (y := 129) fl_R_45 rfl sh119 (mr_119_23 _) (by decide) (a_dec_at dc_R_laysByRivers 63 rfl) ?_
          refine ev_iload_n (i := 3) rfl rfl (a_dec_at dc_R_laysByRivers 64 rfl) ?_
          refine ev_iload_n (i := 2) rfl rfl (a_dec_at dc_R_laysByRivers 65 rfl) ?_
          obtain ⟨c11, H⟩ := H
          refine w_iast (k := x2.toNatClampNeg) sh129 c11 rfl (a_dec_at dc_R_laysByRivers 66 rfl) ?_
          refine ev_goto (tgt := 118) (a_dec_at dc_R_laysByRivers 67 rfl) (by decide) ?_
          refine ev_iinc (v := 1) rfl rfl (by decide) rfl (a_dec_at dc_R_laysByRivers 78 rfl) ?_
          refine ev_goto (tgt := 14) (a_dec_at dc_R_laysByRivers 79 rfl) (by decide) ?_
          exact Ev.drop (L' := [.ref 119, .int 1, .int (v2 + 1), .retAddr 0]) (And.intro rfl (And.intro rfl (And.intro rfl trivial))) H
        · have H := H.2 b8
          refine ev_iconst (v := 0) rfl (a_dec_at dc_R_laysByRivers 52 rfl) ?_
          refine ev_goto (tgt := 94) (a_dec_at dc_R_laysByRivers 53 rfl) (by decide) ?_
          refine ev_ior (a_dec_at dc_R_laysByRivers 60 rfl) ?_
          obtain ⟨c12, H⟩ := H
          refine w_iast (k := x2.toNatClampNeg) sh131 c12 rfl (a_dec_at dc_R_laysByRivers 61 rfl) ?_
          refine ev_aload_n (i := 0) rfl rfl (a_dec_at dc_R_laysByRivers 62 rfl) ?_
          refine m_getR (y := 129) fl_R_45 rfl sh119 (mr_119_23 _) (by decide) (a_dec_at dc_R_laysByRivers 63 rfl) ?_
          refine ev_iload_n (i := 3) rfl rfl (a_dec_at dc_R_laysByRivers 64 rfl) ?_
          refine ev_iload_n (i := 2) rfl rfl (a_dec_at dc_R_laysByRivers 65 rfl) ?_
          obtain ⟨c13, H⟩ := H
          refine w_iast (k := x2.toNatClampNeg) sh129 c13 rfl (a_dec_at dc_R_laysByRivers 66 rfl) ?_
          refine ev_goto (tgt := 118) (a_dec_at dc_R_laysByRivers 67 rfl) (by decide) ?_
          refine ev_iinc (v := 1) rfl rfl (by decide) rfl (a_dec_at dc_R_laysByRivers 78 rfl) ?_
          refine ev_goto (tgt := 14) (a_dec_at dc_R_laysByRivers 79 rfl) (by decide) ?_
          exact Ev.drop (L' := [.ref 119, .int 1, .int (v2 + 1), .retAddr 0]) (And.intro rfl (And.intro rfl (And.intro rfl trivial))) H
      · have H := H.2 b5
        refine ev_aload_n (i := 0) rfl rfl (a_dec_at dc_R_laysByRivers 32 rfl) ?_
        refine ev_iload_n (i := 3) rfl rfl (a_dec_at dc_R_laysByRivers 33 rfl) ?_
        refine ev_iload_n (i := 2) rfl rfl (a_dec_at dc_R_laysByRivers 34 rfl) ?_
        refine ev_aload_n (i := 0) rfl rfl (a_dec_at dc_R_laysByRivers 35 rfl) ?_
        refine m_getR (y := 129) fl_R_45 rfl sh119 (mr_119_23 _) (by decide) (a_dec_at dc_R_laysByRivers 36 rfl) ?_
        refine ev_iload_n (i := 3) rfl rfl (a_dec_at dc_R_laysByRivers 37 rfl) ?_
        obtain ⟨c14, H⟩ := H
        refine w_iald (k := x2.toNatClampNeg) sh129 c14 rfl (a_dec_at dc_R_laysByRivers 38 rfl) ?_
        refine cV3I cs_R_400 sh119 rfl (Nat.le_of_ble_eq_true rfl) (Nat.le_of_ble_eq_true rfl) (a_dec_at dc_R_laysByRivers 39 rfl) ?_
        refine CI.mono (fun x15 mi15 ml15 z15 H => ?_) H
        refine ev_if_eq (tgt := 106) (a_dec_at dc_R_laysByRivers 40 rfl) (by decide) (fun b16 => ?_) (fun b16 => ?_)
        · have H := H.1 b16
          refine ev_aload_n (i := 0) rfl rfl (a_dec_at dc_R_laysByRivers 68 rfl) ?_
          refine m_getR (y := 131) fl_R_51 rfl sh119 (mr_119_26 _) (by decide) (a_dec_at dc_R_laysByRivers 69 rfl) ?_
          refine ev_iload_n (i := 3) rfl rfl (a_dec_at dc_R_laysByRivers 70 rfl) ?_
          refine ev_dup2 rfl rfl (a_dec_at dc_R_laysByRivers 71 rfl) ?_
          obtain ⟨c17, H⟩ := H
          refine w_iald (k := x2.toNatClampNeg) sh131 c17 rfl (a_dec_at dc_R_laysByRivers 72 rfl) ?_
          refine ev_iconst (v := 1) rfl (a_dec_at dc_R_laysByRivers 73 rfl) ?_
          refine ev_iload_n (i := 2) rfl rfl (a_dec_at dc_R_laysByRivers 74 rfl) ?_
          refine ev_ishl (a_dec_at dc_R_laysByRivers 75 rfl) ?_
          refine ev_ior (a_dec_at dc_R_laysByRivers 76 rfl) ?_
          obtain ⟨c18, H⟩ := H
          refine w_iast (k := x2.toNatClampNeg) sh131 c18 rfl (a_dec_at dc_R_laysByRivers 77 rfl) ?_
          refine ev_iinc (v := 1) rfl rfl (by decide) rfl (a_dec_at dc_R_laysByRivers 78 rfl) ?_
          refine ev_goto (tgt := 14) (a_dec_at dc_R_laysByRivers 79 rfl) (by decide) ?_
          exact Ev.drop (L' := [.ref 119, .int 1, .int (v2 + 1), .retAddr 0]) (And.intro rfl (And.intro rfl (And.intro rfl trivial))) H
        · have H := H.2 b16
          refine ev_aload_n (i := 0) rfl rfl (a_dec_at dc_R_laysByRivers 41 rfl) ?_
          refine m_getR (y := 131) fl_R_51 rfl sh119 (mr_119_26 _) (by decide) (a_dec_at dc_R_laysByRivers 42 rfl) ?_
          refine ev_iload_n (i := 3) rfl rfl (a_dec_at dc_R_laysByRivers 43 rfl) ?_
          refine ev_dup2 rfl rfl (a_dec_at dc_R_laysByRivers 44 rfl) ?_
          obtain ⟨c19, H⟩ := H
          refine w_iald (k := x2.toNatClampNeg) sh131 c19 rfl (a_dec_at dc_R_laysByRivers 45 rfl) ?_
          refine ev_aload_n (i := 0) rfl rfl (a_dec_at dc_R_laysByRivers 46 rfl) ?_
          refine m_getR (y := 129) fl_R_45 rfl sh119 (mr_119_23 _) (by decide) (a_dec_at dc_R_laysByRivers 47 rfl) ?_
          refine ev_iload_n (i := 3) rfl rfl (a_dec_at dc_R_laysByRivers 48 rfl) ?_
          obtain ⟨c20, H⟩ := H
          refine w_iald (k := x2.toNatClampNeg) sh129 c20 rfl (a_dec_at dc_R_laysByRivers 49 rfl) ?_
          refine ev_iconst (v := (-1)) rfl (a_dec_at dc_R_laysByRivers 50 rfl) ?_
          refine ev_icmp_ne (tgt := 86) (a_dec_at dc_R_laysByRivers 51 rfl) (by decide) (fun b21 => ?_) (fun b21 => ?_)
          · have H := H.1 b21
            refine ev_iconst (v := 1) rfl (a_dec_at dc_R_laysByRivers 54 rfl) ?_
            refine ev_aload_n (i := 0) rfl rfl (a_dec_at dc_R_laysByRivers 55 rfl) ?_
            refine m_getR (y := 129) fl_R_45 rfl sh119 (mr_119_23 _) (by decide) (a_dec_at dc_R_laysByRivers 56 rfl) ?_
            refine ev_iload_n (i := 3) rfl rfl (a_dec_at dc_R_laysByRivers 57 rfl) ?_
            obtain ⟨c22, H⟩ := H
            refine w_iald (k := x2.toNatClampNeg) sh129 c22 rfl (a_dec_at dc_R_laysByRivers 58 rfl) ?_
            refine ev_ishl (a_dec_at dc_R_laysByRivers 59 rfl) ?_
            refine ev_ior (a_dec_at dc_R_laysByRivers 60 rfl) ?_
            obtain ⟨c23, H⟩ := H
            refine w_iast (k := x2.toNatClampNeg) sh131 c23 rfl (a_dec_at dc_R_laysByRivers 61 rfl) ?_
            refine ev_aload_n (i := 0) rfl rfl (a_dec_at dc_R_laysByRivers 62 rfl) ?_
            refine m_getR (y := 129) fl_R_45 rfl sh119 (mr_119_23 _) (by decide) (a_dec_at dc_R_laysByRivers 63 rfl) ?_
            refine ev_iload_n (i := 3) rfl rfl (a_dec_at dc_R_laysByRivers 64 rfl) ?_
            refine ev_iload_n (i := 2) rfl rfl (a_dec_at dc_R_laysByRivers 65 rfl) ?_
            obtain ⟨c24, H⟩ := H
            refine w_iast (k := x2.toNatClampNeg) sh129 c24 rfl (a_dec_at dc_R_laysByRivers 66 rfl) ?_
            refine ev_goto (tgt := 118) (a_dec_at dc_R_laysByRivers 67 rfl) (by decide) ?_
            refine ev_iinc (v := 1) rfl rfl (by decide) rfl (a_dec_at dc_R_laysByRivers 78 rfl) ?_
            refine ev_goto (tgt := 14) (a_dec_at dc_R_laysByRivers 79 rfl) (by decide) ?_
            exact Ev.drop (L' := [.ref 119, .int 1, .int (v2 + 1), .retAddr 0]) (And.intro rfl (And.intro rfl (And.intro rfl trivial))) H
          · have H := H.2 b21
            refine ev_iconst (v := 0) rfl (a_dec_at dc_R_laysByRivers 52 rfl) ?_
            refine ev_goto (tgt := 94) (a_dec_at dc_R_laysByRivers 53 rfl) (by decide) ?_
            refine ev_ior (a_dec_at dc_R_laysByRivers 60 rfl) ?_
            obtain ⟨c25, H⟩ := H
            refine w_iast (k := x2.toNatClampNeg) sh131 c25 rfl (a_dec_at dc_R_laysByRivers 61 rfl) ?_
            refine ev_aload_n (i := 0) rfl rfl (a_dec_at dc_R_laysByRivers 62 rfl) ?_
            refine m_getR (y := 129) fl_R_45 rfl sh119 (mr_119_23 _) (by decide) (a_dec_at dc_R_laysByRivers 63 rfl) ?_
            refine ev_iload_n (i := 3) rfl rfl (a_dec_at dc_R_laysByRivers 64 rfl) ?_
            refine ev_iload_n (i := 2) rfl rfl (a_dec_at dc_R_laysByRivers 65 rfl) ?_
            obtain ⟨c26, H⟩ := H
            refine w_iast (k := x2.toNatClampNeg) sh129 c26 rfl (a_dec_at dc_R_laysByRivers 66 rfl) ?_
            refine ev_goto (tgt := 118) (a_dec_at dc_R_laysByRivers 67 rfl) (by decide) ?_
            refine ev_iinc (v := 1) rfl rfl (by decide) rfl (a_dec_at dc_R_laysByRivers 78 rfl) ?_
            refine ev_goto (tgt := 14) (a_dec_at dc_R_laysByRivers 79 rfl) (by decide) ?_
            exact Ev.drop (L' := [.ref 119, .int 1, .int (v2 + 1), .retAddr 0]) (And.intro rfl (And.intro rfl (And.intro rfl trivial))) H
    · have H := H.2 b3
      refine ev_goto (tgt := 118) (a_dec_at dc_R_laysByRivers 23 rfl) (by decide) ?_
      refine ev_iinc (v := 1) rfl rfl (by decide) rfl (a_dec_at dc_R_laysByRivers 78 rfl) ?_
      refine ev_goto (tgt := 14) (a_dec_at dc_R_laysByRivers 79 rfl) (by decide) ?_
      exact Ev.drop (L' := [.ref 119, .int v1, .int (v2 + 1), .retAddr 0]) (And.intro rfl (And.intro rfl (And.intro rfl trivial))) H
set_option maxRecDepth 20000 in
theorem t_R_begins {l : Launch} {h : Nat} (mi : TMi) (ml : TMl) (z : Nat) {Q : TMi → TMl → Nat → Prop} (H : Ev l (h + 1) m_R_begins 2 ([.ref 119, .int 0], [], st mi ml z) (qV Q)) : CV l (h + 1) m_R_begins [.ref 119] mi ml z Q := by
  show Ev l (h + 1) m_R_begins 0 ([.ref 119, .retAddr 0], [], st mi ml z) (qV Q)
  refine ev_iconst (v := 0) rfl (a_dec_at dc_R_begins 0 rfl) ?_
  refine ev_istore_n (i := 1) rfl (by decide) rfl (a_dec_at dc_R_begins 1 rfl) ?_
  exact Ev.drop (L' := [.ref 119, .int 0]) (And.intro rfl (And.intro rfl trivial)) H
set_option maxRecDepth 20000 in
theorem t_R_begins_2 {l : Launch} {h : Nat} (mi : TMi) (ml : TMl) (z : Nat) (v1 : Int32) {Q : TMi → TMl → Nat → Prop} (H : ((6 ≤ v1 → Q mi ml z) ∧ (¬ 6 ≤ v1 → (vp_in v1 6) ∧ (vp_in v1 6) ∧ Ev l (h + 1) m_R_begins 2 ([.ref 119, .int (v1 + 1)], [], st (up (up mi 129 v1.toNatClampNeg (-1)) 131 v1.toNatClampNeg 0) ml z) (qV Q)))) : Ev l (h + 1) m_R_begins 2 ([.ref 119, .int v1], [], st mi ml z) (qV Q) := by
  refine ev_iload_n (i := 1) rfl rfl (a_dec_at dc_R_begins 2 rfl) ?_
  refine ev_bipush (v := 6) rfl (a_dec_at dc_R_begins 3 rfl) ?_
  refine ev_icmp_ge (tgt := 28) (a_dec_at dc_R_begins 4 rfl) (by decide) (fun b1 => ?_) (fun b1 => ?_)
  · have H := H.1 b1
    exact m_retV (a_dec_at dc_R_begins 17 rfl) rfl H
  · have H := H.2 b1
    refine ev_aload_n (i := 0) rfl rfl (a_dec_at dc_R_begins 5 rfl) ?_
    refine m_getR (y := 129) fl_R_45 rfl sh119 (mr_119_23 _) (by decide) (a_dec_at dc_R_begins 6 rfl) ?_
    refine ev_iload_n (i := 1) rfl rfl (a_dec_at dc_R_begins 7 rfl) ?_
    refine ev_iconst (v := (-1)) rfl (a_dec_at dc_R_begins 8 rfl) ?_
    obtain ⟨c2, H⟩ := H
    refine w_iast (k := v1.toNatClampNeg) sh129 c2 rfl (a_dec_at dc_R_begins 9 rfl) ?_
    refine ev_aload_n (i := 0) rfl rfl (a_dec_at dc_R_begins 10 rfl) ?_
    refine m_getR (y := 131) fl_R_51 rfl sh119 (mr_119_26 _) (by decide) (a_dec_at dc_R_begins 11 rfl) ?_
    refine ev_iload_n (i := 1) rfl rfl (a_dec_at dc_R_begins 12 rfl) ?_
    refine ev_iconst (v := 0) rfl (a_dec_at dc_R_begins 13 rfl) ?_
    obtain ⟨c3, H⟩ := H
    refine w_iast (k := v1.toNatClampNeg) sh131 c3 rfl (a_dec_at dc_R_begins 14 rfl) ?_
    refine ev_iinc (v := 1) rfl rfl (by decide) rfl (a_dec_at dc_R_begins 15 rfl) ?_
    refine ev_goto (tgt := 2) (a_dec_at dc_R_begins 16 rfl) (by decide) ?_
    exact Ev.drop (L' := [.ref 119, .int (v1 + 1)]) (And.intro rfl (And.intro rfl trivial)) H
set_option maxRecDepth 20000 in
theorem t_R_asks1 {l : Launch} {h : Nat} (mi : TMi) (ml : TMl) (z : Nat) (a1 : Int32) {Q : Int32 → TMi → TMl → Nat → Prop} (H : CI l h m_R_becksBy [.ref 119, .int a1] mi ml z (fun x1 mi1 ml1 z1 => CI l h m_R_bitsOf [.int x1] mi1 ml1 z1 (fun x2 mi2 ml2 z2 => (vp_in (41 + a1) 4113) ∧ ((x2 < (mi2 120 ((41 + a1).toNatClampNeg)) → Ev l (h + 1) m_R_asks1 26 ([.ref 119, .int a1, .int (-1), .int 0], [], st mi2 ml2 z2) (qI Q)) ∧ (¬ x2 < (mi2 120 ((41 + a1).toNatClampNeg)) → Q (-1) mi2 ml2 z2))))) : CI l (h + 1) m_R_asks1 [.ref 119, .int a1] mi ml z Q := by
  show Ev l (h + 1) m_R_asks1 0 ([.ref 119, .int a1, .retAddr 0, .retAddr 0], [], st mi ml z) (qI Q)
  refine ev_aload_n (i := 0) rfl rfl (a_dec_at dc_R_asks1 0 rfl) ?_
  refine ev_iload_n (i := 1) rfl rfl (a_dec_at dc_R_asks1 1 rfl) ?_
  refine cV1I cs_R_349 sh119 rfl (Nat.le_of_ble_eq_true rfl) (Nat.le_of_ble_eq_true rfl) (a_dec_at dc_R_asks1 2 rfl) ?_
  refine CI.mono (fun x1 mi1 ml1 z1 H => ?_) H
  refine cS1I cs_R_256 rfl (Nat.le_of_ble_eq_true rfl) (Nat.le_of_ble_eq_true rfl) (a_dec_at dc_R_asks1 3 rfl) ?_
  refine CI.mono (fun x2 mi2 ml2 z2 H => ?_) H
  refine ev_aload_n (i := 0) rfl rfl (a_dec_at dc_R_asks1 4 rfl) ?_
  refine m_getR (y := 120) fl_R_13 rfl sh119 (mr_119_1 _) (by decide) (a_dec_at dc_R_asks1 5 rfl) ?_
  refine ev_bipush (v := 41) rfl (a_dec_at dc_R_asks1 6 rfl) ?_
  refine ev_iload_n (i := 1) rfl rfl (a_dec_at dc_R_asks1 7 rfl) ?_
  refine ev_iadd (a_dec_at dc_R_asks1 8 rfl) ?_
  obtain ⟨c3, H⟩ := H
  refine w_iald (k := (41 + a1).toNatClampNeg) sh120 c3 rfl (a_dec_at dc_R_asks1 9 rfl) ?_
  refine ev_icmp_lt (tgt := 22) (a_dec_at dc_R_asks1 10 rfl) (by decide) (fun b4 => ?_) (fun b4 => ?_)
  · have H := H.1 b4
    refine ev_iconst (v := (-1)) rfl (a_dec_at dc_R_asks1 13 rfl) ?_
    refine ev_istore_n (i := 2) rfl (by decide) rfl (a_dec_at dc_R_asks1 14 rfl) ?_
    refine ev_iconst (v := 0) rfl (a_dec_at dc_R_asks1 15 rfl) ?_
    refine ev_istore_n (i := 3) rfl (by decide) rfl (a_dec_at dc_R_asks1 16 rfl) ?_
    exact Ev.drop (L' := [.ref 119, .int a1, .int (-1), .int 0]) (And.intro rfl (And.intro rfl (And.intro rfl (And.intro rfl trivial)))) H
  · have H := H.2 b4
    refine ev_iconst (v := (-1)) rfl (a_dec_at dc_R_asks1 11 rfl) ?_
    exact m_retI (a_dec_at dc_R_asks1 12 rfl) rfl rfl H
set_option maxRecDepth 20000 in
theorem t_R_asks1_26 {l : Launch} {h : Nat} (mi : TMi) (ml : TMl) (z : Nat) (v1 : Int32) (v2 : Int32) (v3 : Int32) {Q : Int32 → TMi → TMl → Nat → Prop} (H : (((mi 120 1) ≤ v3 → Q v2 mi ml z) ∧ (¬ (mi 120 1) ≤ v3 → (vp_in v3 6) ∧ (((mi 129 v3.toNatClampNeg) = v1 → Ev l (h + 1) m_R_asks1 26 ([.ref 119, .int v1, .int v2, .int (v3 + 1)], [], st mi ml z) (qI Q)) ∧ (¬ (mi 129 v3.toNatClampNeg) = v1 → (vp_in v3 6) ∧ CI l h m_R_isIn [.long ((mi 131 v3.toNatClampNeg).toInt64), .int v1] mi ml z (fun x5 mi5 ml5 z5 => ((¬ x5 = 0 → Ev l (h + 1) m_R_asks1 26 ([.ref 119, .int v1, .int v2, .int (v3 + 1)], [], st mi5 ml5 z5) (qI Q)) ∧ (x5 = 0 → CI l h m_R_wouldTold [.ref 119, .int v3, .int v1] mi5 ml5 z5 (fun x7 mi7 ml7 z7 => ((x7 = 0 → Ev l (h + 1) m_R_asks1 26 ([.ref 119, .int v1, .int v2, .int (v3 + 1)], [], st mi7 ml7 z7) (qI Q)) ∧ (¬ x7 = 0 → ((v2 = (-1) → Ev l (h + 1) m_R_asks1 26 ([.ref 119, .int v1, .int v3, .int (v3 + 1)], [], st mi7 ml7 z7) (qI Q)) ∧ (¬ v2 = (-1) → CI l h m_R_takesMore [.ref 119, .int v1, .int v3, .int v2] mi7 ml7 z7 (fun x10 mi10 ml10 z10 => ((x10 = 0 → Ev l (h + 1) m_R_asks1 26 ([.ref 119, .int v1, .int v2, .int (v3 + 1)], [], st mi10 ml10 z10) (qI Q)) ∧ (¬ x10 = 0 → Ev l (h + 1) m_R_asks1 26 ([.ref 119, .int v1, .int v3, .int (v3 + 1)], [], st mi10 ml10 z10) (qI Q))))))))))))))))) : Ev l (h + 1) m_R_asks1 26 ([.ref 119, .int v1, .int v2, .int v3], [], st mi ml z) (qI Q) := by
  refine ev_iload_n (i := 3) rfl rfl (a_dec_at dc_R_asks1 17 rfl) ?_
  refine ev_aload_n (i := 0) rfl rfl (a_dec_at dc_R_asks1 18 rfl) ?_
  refine m_getR (y := 120) fl_R_13 rfl sh119 (mr_119_1 _) (by decide) (a_dec_at dc_R_asks1 19 rfl) ?_
  refine ev_iconst (v := 1) rfl (a_dec_at dc_R_asks1 20 rfl) ?_
  refine w_iald (k := 1) sh120 (by unfold vp_in; decide) (by decide) (a_dec_at dc_R_asks1 21 rfl) ?_
  refine ev_icmp_ge (tgt := 92) (a_dec_at dc_R_asks1 22 rfl) (by decide) (fun b1 => ?_) (fun b1 => ?_)
  · have H := H.1 b1
    refine ev_iload_n (i := 2) rfl rfl (a_dec_at dc_R_asks1 55 rfl) ?_
    exact m_retI (a_dec_at dc_R_asks1 56 rfl) rfl rfl H
  · have H := H.2 b1
    refine ev_aload_n (i := 0) rfl rfl (a_dec_at dc_R_asks1 23 rfl) ?_
    refine m_getR (y := 129) fl_R_45 rfl sh119 (mr_119_23 _) (by decide) (a_dec_at dc_R_asks1 24 rfl) ?_
    refine ev_iload_n (i := 3) rfl rfl (a_dec_at dc_R_asks1 25 rfl) ?_
    obtain ⟨c2, H⟩ := H
    refine w_iald (k := v3.toNatClampNeg) sh129 c2 rfl (a_dec_at dc_R_asks1 26 rfl) ?_
    refine ev_iload_n (i := 1) rfl rfl (a_dec_at dc_R_asks1 27 rfl) ?_
    refine ev_icmp_eq (tgt := 86) (a_dec_at dc_R_asks1 28 rfl) (by decide) (fun b3 => ?_) (fun b3 => ?_)
    · have H := H.1 b3
      refine ev_iinc (v := 1) rfl rfl (by decide) rfl (a_dec_at dc_R_asks1 53 rfl) ?_
      refine ev_goto (tgt := 26) (a_dec_at dc_R_asks1 54 rfl) (by decide) ?_
      exact Ev.drop (L' := [.ref 119, .int v1, .int v2, .int (v3 + 1)]) (And.intro rfl (And.intro rfl (And.intro rfl (And.intro rfl trivial)))) H
    · have H := H.2 b3
      refine ev_aload_n (i := 0) rfl rfl (a_dec_at dc_R_asks1 29 rfl) ?_
      refine m_getR (y := 131) fl_R_51 rfl sh119 (mr_119_26 _) (by decide) (a_dec_at dc_R_asks1 30 rfl) ?_
      refine ev_iload_n (i := 3) rfl rfl (a_dec_at dc_R_asks1 31 rfl) ?_
      obtain ⟨c4, H⟩ := H
      refine w_iald (k := v3.toNatClampNeg) sh131 c4 rfl (a_dec_at dc_R_asks1 32 rfl) ?_
      refine ev_i2l (a_dec_at dc_R_asks1 33 rfl) ?_
      refine ev_iload_n (i := 1) rfl rfl (a_dec_at dc_R_asks1 34 rfl) ?_
      refine cS2I cs_R_221 rfl (Nat.le_of_ble_eq_true rfl) (Nat.le_of_ble_eq_true rfl) (a_dec_at dc_R_asks1 35 rfl) ?_
      refine CI.mono (fun x5 mi5 ml5 z5 H => ?_) H
      refine ev_if_ne (tgt := 86) (a_dec_at dc_R_asks1 36 rfl) (by decide) (fun b6 => ?_) (fun b6 => ?_)
      · have H := H.1 b6
        refine ev_iinc (v := 1) rfl rfl (by decide) rfl (a_dec_at dc_R_asks1 53 rfl) ?_
        refine ev_goto (tgt := 26) (a_dec_at dc_R_asks1 54 rfl) (by decide) ?_
        exact Ev.drop (L' := [.ref 119, .int v1, .int v2, .int (v3 + 1)]) (And.intro rfl (And.intro rfl (And.intro rfl (And.intro rfl trivial)))) H
      · have H := H.2 b6
        refine ev_aload_n (i := 0) rfl rfl (a_dec_at dc_R_asks1 37 rfl) ?_
        refine ev_iload_n (i := 3) rfl rfl (a_dec_at dc_R_asks1 38 rfl) ?_
        refine ev_iload_n (i := 1) rfl rfl (a_dec_at dc_R_asks1 39 rfl) ?_
        refine cV2I cs_R_391 sh119 rfl (Nat.le_of_ble_eq_true rfl) (Nat.le_of_ble_eq_true rfl) (a_dec_at dc_R_asks1 40 rfl) ?_
        refine CI.mono (fun x7 mi7 ml7 z7 H => ?_) H
        refine ev_if_eq (tgt := 86) (a_dec_at dc_R_asks1 41 rfl) (by decide) (fun b8 => ?_) (fun b8 => ?_)
        · have H := H.1 b8
          refine ev_iinc (v := 1) rfl rfl (by decide) rfl (a_dec_at dc_R_asks1 53 rfl) ?_
          refine ev_goto (tgt := 26) (a_dec_at dc_R_asks1 54 rfl) (by decide) ?_
          exact Ev.drop (L' := [.ref 119, .int v1, .int v2, .int (v3 + 1)]) (And.intro rfl (And.intro rfl (And.intro rfl (And.intro rfl trivial)))) H
        · have H := H.2 b8
          refine ev_iload_n (i := 2) rfl rfl (a_dec_at dc_R_asks1 42 rfl) ?_
          refine ev_iconst (v := (-1)) rfl (a_dec_at dc_R_asks1 43 rfl) ?_
          refine ev_icmp_eq (tgt := 84) (a_dec_at dc_R_asks1 44 rfl) (by decide) (fun b9 => ?_) (fun b9 => ?_)
          · have H := H.1 b9
            refine ev_iload_n (i := 3) rfl rfl (a_dec_at dc_R_asks1 51 rfl) ?_
            refine ev_istore_n (i := 2) rfl (by decide) rfl (a_dec_at dc_R_asks1 52 rfl) ?_
            refine ev_iinc (v := 1) rfl rfl (by decide) rfl (a_dec_at dc_R_asks1 53 rfl) ?_
            refine ev_goto (tgt := 26) (a_dec_at dc_R_asks1 54 rfl) (by decide) ?_
            exact Ev.drop (L' := [.ref 119, .int v1, .int v3, .int (v3 + 1)]) (And.intro rfl (And.intro rfl (And.intro rfl (And.intro rfl trivial)))) H
          · have H := H.2 b9
            refine ev_aload_n (i := 0) rfl rfl (a_dec_at dc_R_asks1 45 rfl) ?_
            refine ev_iload_n (i := 1) rfl rfl (a_dec_at dc_R_asks1 46 rfl) ?_
            refine ev_iload_n (i := 3) rfl rfl (a_dec_at dc_R_asks1 47 rfl) ?_
            refine ev_iload_n (i := 2) rfl rfl (a_dec_at dc_R_asks1 48 rfl) ?_
            refine cV3I cs_R_225 sh119 rfl (Nat.le_of_ble_eq_true rfl) (Nat.le_of_ble_eq_true rfl) (a_dec_at dc_R_asks1 49 rfl) ?_
            refine CI.mono (fun x10 mi10 ml10 z10 H => ?_) H
            refine ev_if_eq (tgt := 86) (a_dec_at dc_R_asks1 50 rfl) (by decide) (fun b11 => ?_) (fun b11 => ?_)
            · have H := H.1 b11
              refine ev_iinc (v := 1) rfl rfl (by decide) rfl (a_dec_at dc_R_asks1 53 rfl) ?_
              refine ev_goto (tgt := 26) (a_dec_at dc_R_asks1 54 rfl) (by decide) ?_
              exact Ev.drop (L' := [.ref 119, .int v1, .int v2, .int (v3 + 1)]) (And.intro rfl (And.intro rfl (And.intro rfl (And.intro rfl trivial)))) H
            · have H := H.2 b11
              refine ev_iload_n (i := 3) rfl rfl (a_dec_at dc_R_asks1 51 rfl) ?_
              refine ev_istore_n (i := 2) rfl (by decide) rfl (a_dec_at dc_R_asks1 52 rfl) ?_
              refine ev_iinc (v := 1) rfl rfl (by decide) rfl (a_dec_at dc_R_asks1 53 rfl) ?_
              refine ev_goto (tgt := 26) (a_dec_at dc_R_asks1 54 rfl) (by decide) ?_
              exact Ev.drop (L' := [.ref 119, .int v1, .int v3, .int (v3 + 1)]) (And.intro rfl (And.intro rfl (And.intro rfl (And.intro rfl trivial)))) H
set_option maxRecDepth 20000 in
theorem t_R_wouldTold {l : Launch} {h : Nat} (mi : TMi) (ml : TMl) (z : Nat) (a1 : Int32) (a2 : Int32) {Q : Int32 → TMi → TMl → Nat → Prop} (H : ((¬ a1 = (mi 119 27) → CI l h m_R_wouldBoth [.ref 119, .int a1, .int a2] mi ml z (fun x2 mi2 ml2 z2 => (narrow .boolean (.int x2) = .int x2) ∧ Q x2 mi2 ml2 z2)) ∧ (a1 = (mi 119 27) → (vp_in a2 4) ∧ (((mi 132 a2.toNatClampNeg) = (-1) → Q 0 mi ml z) ∧ (¬ (mi 132 a2.toNatClampNeg) = (-1) → (vp_in ((4 * a1) + a2) 24) ∧ (((mi 127 (((4 * a1) + a2).toNatClampNeg)) ≤ 0 → Q 0 mi ml z) ∧ (¬ (mi 127 (((4 * a1) + a2).toNatClampNeg)) ≤ 0 → Q 1 mi ml z))))))) : CI l (h + 1) m_R_wouldTold [.ref 119, .int a1, .int a2] mi ml z Q := by
  show Ev l (h + 1) m_R_wouldTold 0 ([.ref 119, .int a1, .int a2], [], st mi ml z) (qI Q)
  refine ev_iload_n (i := 1) rfl rfl (a_dec_at dc_R_wouldTold 0 rfl) ?_
  refine ev_aload_n (i := 0) rfl rfl (a_dec_at dc_R_wouldTold 1 rfl) ?_
  refine m_getI fl_R_54 rfl sh119 (a_dec_at dc_R_wouldTold 2 rfl) ?_
  refine ev_icmp_ne (tgt := 39) (a_dec_at dc_R_wouldTold 3 rfl) (by decide) (fun b1 => ?_) (fun b1 => ?_)
  · have H := H.1 b1
    refine ev_aload_n (i := 0) rfl rfl (a_dec_at dc_R_wouldTold 23 rfl) ?_
    refine ev_iload_n (i := 1) rfl rfl (a_dec_at dc_R_wouldTold 24 rfl) ?_
    refine ev_iload_n (i := 2) rfl rfl (a_dec_at dc_R_wouldTold 25 rfl) ?_
    refine cV2I cs_R_229 sh119 rfl (Nat.le_of_ble_eq_true rfl) (Nat.le_of_ble_eq_true rfl) (a_dec_at dc_R_wouldTold 26 rfl) ?_
    refine CI.mono (fun x2 mi2 ml2 z2 H => ?_) H
    obtain ⟨c3, H⟩ := H
    exact m_retI (a_dec_at dc_R_wouldTold 27 rfl) rfl c3 H
  · have H := H.2 b1
    refine ev_aload_n (i := 0) rfl rfl (a_dec_at dc_R_wouldTold 4 rfl) ?_
    refine m_getR (y := 132) fl_R_57 rfl sh119 (mr_119_28 _) (by decide) (a_dec_at dc_R_wouldTold 5 rfl) ?_
    refine ev_iload_n (i := 2) rfl rfl (a_dec_at dc_R_wouldTold 6 rfl) ?_
    obtain ⟨c4, H⟩ := H
    refine w_iald (k := a2.toNatClampNeg) sh132 c4 rfl (a_dec_at dc_R_wouldTold 7 rfl) ?_
    refine ev_iconst (v := (-1)) rfl (a_dec_at dc_R_wouldTold 8 rfl) ?_
    refine ev_icmp_eq (tgt := 35) (a_dec_at dc_R_wouldTold 9 rfl) (by decide) (fun b5 => ?_) (fun b5 => ?_)
    · have H := H.1 b5
      refine ev_iconst (v := 0) rfl (a_dec_at dc_R_wouldTold 21 rfl) ?_
      refine ev_goto (tgt := 45) (a_dec_at dc_R_wouldTold 22 rfl) (by decide) ?_
      exact m_retI (a_dec_at dc_R_wouldTold 27 rfl) rfl rfl H
    · have H := H.2 b5
      refine ev_aload_n (i := 0) rfl rfl (a_dec_at dc_R_wouldTold 10 rfl) ?_
      refine m_getR (y := 127) fl_R_39 rfl sh119 (mr_119_18 _) (by decide) (a_dec_at dc_R_wouldTold 11 rfl) ?_
      refine ev_iconst (v := 4) rfl (a_dec_at dc_R_wouldTold 12 rfl) ?_
      refine ev_iload_n (i := 1) rfl rfl (a_dec_at dc_R_wouldTold 13 rfl) ?_
      refine ev_imul (a_dec_at dc_R_wouldTold 14 rfl) ?_
      refine ev_iload_n (i := 2) rfl rfl (a_dec_at dc_R_wouldTold 15 rfl) ?_
      refine ev_iadd (a_dec_at dc_R_wouldTold 16 rfl) ?_
      obtain ⟨c6, H⟩ := H
      refine w_iald (k := ((4 * a1) + a2).toNatClampNeg) sh127 c6 rfl (a_dec_at dc_R_wouldTold 17 rfl) ?_
      refine ev_if_le (tgt := 35) (a_dec_at dc_R_wouldTold 18 rfl) (by decide) (fun b7 => ?_) (fun b7 => ?_)
      · have H := H.1 b7
        refine ev_iconst (v := 0) rfl (a_dec_at dc_R_wouldTold 21 rfl) ?_
        refine ev_goto (tgt := 45) (a_dec_at dc_R_wouldTold 22 rfl) (by decide) ?_
        exact m_retI (a_dec_at dc_R_wouldTold 27 rfl) rfl rfl H
      · have H := H.2 b7
        refine ev_iconst (v := 1) rfl (a_dec_at dc_R_wouldTold 19 rfl) ?_
        refine ev_goto (tgt := 45) (a_dec_at dc_R_wouldTold 20 rfl) (by decide) ?_
        exact m_retI (a_dec_at dc_R_wouldTold 27 rfl) rfl rfl H
set_option maxRecDepth 20000 in
theorem t_R_likesTold {l : Launch} {h : Nat} (mi : TMi) (ml : TMl) (z : Nat) (a1 : Int32) (a2 : Int32) (a3 : Int32) {Q : Int32 → TMi → TMl → Nat → Prop} (H : ((¬ a1 = (mi 119 27) → CI l h m_R_likesMore [.ref 119, .int a1, .int a2, .int a3] mi ml z (fun x2 mi2 ml2 z2 => (narrow .boolean (.int x2) = .int x2) ∧ Q x2 mi2 ml2 z2)) ∧ (a1 = (mi 119 27) → (vp_in a2 4) ∧ (vp_in a3 4) ∧ (((mi 132 a3.toNatClampNeg) ≤ (mi 132 a2.toNatClampNeg) → Q 0 mi ml z) ∧ (¬ (mi 132 a3.toNatClampNeg) ≤ (mi 132 a2.toNatClampNeg) → Q 1 mi ml z))))) : CI l (h + 1) m_R_likesTold [.ref 119, .int a1, .int a2, .int a3] mi ml z Q := by
  show Ev l (h + 1) m_R_likesTold 0 ([.ref 119, .int a1, .int a2, .int a3], [], st mi ml z) (qI Q)
  refine ev_iload_n (i := 1) rfl rfl (a_dec_at dc_R_likesTold 0 rfl) ?_
  refine ev_aload_n (i := 0) rfl rfl (a_dec_at dc_R_likesTold 1 rfl) ?_
  refine m_getI fl_R_54 rfl sh119 (a_dec_at dc_R_likesTold 2 rfl) ?_
  refine ev_icmp_ne (tgt := 31) (a_dec_at dc_R_likesTold 3 rfl) (by decide) (fun b1 => ?_) (fun b1 => ?_)
  · have H := H.1 b1
    refine ev_aload_n (i := 0) rfl rfl (a_dec_at dc_R_likesTold 17 rfl) ?_
    refine ev_iload_n (i := 1) rfl rfl (a_dec_at dc_R_likesTold 18 rfl) ?_
    refine ev_iload_n (i := 2) rfl rfl (a_dec_at dc_R_likesTold 19 rfl) ?_
    refine ev_iload_n (i := 3) rfl rfl (a_dec_at dc_R_likesTold 20 rfl) ?_
    refine cV3I cs_R_346 sh119 rfl (Nat.le_of_ble_eq_true rfl) (Nat.le_of_ble_eq_true rfl) (a_dec_at dc_R_likesTold 21 rfl) ?_
    refine CI.mono (fun x2 mi2 ml2 z2 H => ?_) H
    obtain ⟨c3, H⟩ := H
    exact m_retI (a_dec_at dc_R_likesTold 22 rfl) rfl c3 H
  · have H := H.2 b1
    refine ev_aload_n (i := 0) rfl rfl (a_dec_at dc_R_likesTold 4 rfl) ?_
    refine m_getR (y := 132) fl_R_57 rfl sh119 (mr_119_28 _) (by decide) (a_dec_at dc_R_likesTold 5 rfl) ?_
    refine ev_iload_n (i := 2) rfl rfl (a_dec_at dc_R_likesTold 6 rfl) ?_
    obtain ⟨c4, H⟩ := H
    refine w_iald (k := a2.toNatClampNeg) sh132 c4 rfl (a_dec_at dc_R_likesTold 7 rfl) ?_
    refine ev_aload_n (i := 0) rfl rfl (a_dec_at dc_R_likesTold 8 rfl) ?_
    refine m_getR (y := 132) fl_R_57 rfl sh119 (mr_119_28 _) (by decide) (a_dec_at dc_R_likesTold 9 rfl) ?_
    refine ev_iload_n (i := 3) rfl rfl (a_dec_at dc_R_likesTold 10 rfl) ?_
    obtain ⟨c5, H⟩ := H
    refine w_iald (k := a3.toNatClampNeg) sh132 c5 rfl (a_dec_at dc_R_likesTold 11 rfl) ?_
    refine ev_icmp_ge (tgt := 27) (a_dec_at dc_R_likesTold 12 rfl) (by decide) (fun b6 => ?_) (fun b6 => ?_)
    · have H := H.1 b6
      refine ev_iconst (v := 0) rfl (a_dec_at dc_R_likesTold 15 rfl) ?_
      refine ev_goto (tgt := 38) (a_dec_at dc_R_likesTold 16 rfl) (by decide) ?_
      exact m_retI (a_dec_at dc_R_likesTold 22 rfl) rfl rfl H
    · have H := H.2 b6
      refine ev_iconst (v := 1) rfl (a_dec_at dc_R_likesTold 13 rfl) ?_
      refine ev_goto (tgt := 38) (a_dec_at dc_R_likesTold 14 rfl) (by decide) ?_
      exact m_retI (a_dec_at dc_R_likesTold 22 rfl) rfl rfl H
set_option maxRecDepth 20000 in
theorem t_R_laysLie {l : Launch} {h : Nat} (mi : TMi) (ml : TMl) (z : Nat) (a1 : Int32) {Q : Int32 → TMi → TMl → Nat → Prop} (H : Ev l (h + 1) m_R_laysLie 2 ([.ref 119, .int a1, .int 0, .retAddr 0, .retAddr 0], [], st mi ml z) (qI Q)) : CI l (h + 1) m_R_laysLie [.ref 119, .int a1] mi ml z Q := by
  show Ev l (h + 1) m_R_laysLie 0 ([.ref 119, .int a1, .retAddr 0, .retAddr 0, .retAddr 0], [], st mi ml z) (qI Q)
  refine ev_iconst (v := 0) rfl (a_dec_at dc_R_laysLie 0 rfl) ?_
  refine ev_istore_n (i := 2) rfl (by decide) rfl (a_dec_at dc_R_laysLie 1 rfl) ?_
  exact Ev.drop (L' := [.ref 119, .int a1, .int 0, .retAddr 0, .retAddr 0]) (And.intro rfl (And.intro rfl (And.intro rfl trivial))) H
set_option maxRecDepth 20000 in
theorem t_R_laysLie_2 {l : Launch} {h : Nat} (mi : TMi) (ml : TMl) (z : Nat) (v1 : Int32) (v2 : Int32) {Q : Int32 → TMi → TMl → Nat → Prop} (H : ((4 ≤ v2 → Ev l (h + 1) m_R_laysLie 24 ([.ref 119, .retAddr 0, .int v1, .int 0, .retAddr 0], [], st mi ml z) (qI Q)) ∧ (¬ 4 ≤ v2 → (vp_in v2 4) ∧ Ev l (h + 1) m_R_laysLie 2 ([.ref 119, .int v1, .int (v2 + 1), .retAddr 0, .retAddr 0], [], st (up mi 132 v2.toNatClampNeg (-1)) ml z) (qI Q)))) : Ev l (h + 1) m_R_laysLie 2 ([.ref 119, .int v1, .int v2, .retAddr 0, .retAddr 0], [], st mi ml z) (qI Q) := by
  refine ev_iload_n (i := 2) rfl rfl (a_dec_at dc_R_laysLie 2 rfl) ?_
  refine ev_iconst (v := 4) rfl (a_dec_at dc_R_laysLie 3 rfl) ?_
  refine ev_icmp_ge (tgt := 20) (a_dec_at dc_R_laysLie 4 rfl) (by decide) (fun b1 => ?_) (fun b1 => ?_)
  · have H := H.1 b1
    refine ev_iload_n (i := 1) rfl rfl (a_dec_at dc_R_laysLie 12 rfl) ?_
    refine ev_istore_n (i := 2) rfl (by decide) rfl (a_dec_at dc_R_laysLie 13 rfl) ?_
    refine ev_iconst (v := 0) rfl (a_dec_at dc_R_laysLie 14 rfl) ?_
    refine ev_istore_n (i := 3) rfl (by decide) rfl (a_dec_at dc_R_laysLie 15 rfl) ?_
    exact Ev.drop (L' := [.ref 119, .retAddr 0, .int v1, .int 0, .retAddr 0]) (And.intro rfl (And.intro rfl (And.intro rfl trivial))) H
  · have H := H.2 b1
    refine ev_aload_n (i := 0) rfl rfl (a_dec_at dc_R_laysLie 5 rfl) ?_
    refine m_getR (y := 132) fl_R_57 rfl sh119 (mr_119_28 _) (by decide) (a_dec_at dc_R_laysLie 6 rfl) ?_
    refine ev_iload_n (i := 2) rfl rfl (a_dec_at dc_R_laysLie 7 rfl) ?_
    refine ev_iconst (v := (-1)) rfl (a_dec_at dc_R_laysLie 8 rfl) ?_
    obtain ⟨c2, H⟩ := H
    refine w_iast (k := v2.toNatClampNeg) sh132 c2 rfl (a_dec_at dc_R_laysLie 9 rfl) ?_
    refine ev_iinc (v := 1) rfl rfl (by decide) rfl (a_dec_at dc_R_laysLie 10 rfl) ?_
    refine ev_goto (tgt := 2) (a_dec_at dc_R_laysLie 11 rfl) (by decide) ?_
    exact Ev.drop (L' := [.ref 119, .int v1, .int (v2 + 1), .retAddr 0, .retAddr 0]) (And.intro rfl (And.intro rfl (And.intro rfl trivial))) H
set_option maxRecDepth 20000 in
theorem t_R_laysLie_24 {l : Launch} {h : Nat} (mi : TMi) (ml : TMl) (z : Nat) (v2 : Int32) (v3 : Int32) {Q : Int32 → TMi → TMl → Nat → Prop} (H : ((v2 ≤ 0 → Q 1 mi ml z) ∧ (¬ v2 ≤ 0 → ((((a_rem v2 5) - 1) < 0 → Q 0 mi ml z) ∧ (¬ ((a_rem v2 5) - 1) < 0 → (((mi 120 2) ≤ ((a_rem v2 5) - 1) → Q 0 mi ml z) ∧ (¬ (mi 120 2) ≤ ((a_rem v2 5) - 1) → (vp_in ((a_rem v2 5) - 1) 4) ∧ (((mi 132 (((a_rem v2 5) - 1).toNatClampNeg)) = (-1) → (vp_in ((a_rem v2 5) - 1) 4) ∧ Ev l (h + 1) m_R_laysLie 24 ([.ref 119, .retAddr 0, .int (v2 / 5), .int (v3 + 1), .retAddr 0], [], st (up mi 132 (((a_rem v2 5) - 1).toNatClampNeg) v3) ml z) (qI Q)) ∧ (¬ (mi 132 (((a_rem v2 5) - 1).toNatClampNeg)) = (-1) → Q 0 mi ml z))))))))) : Ev l (h + 1) m_R_laysLie 24 ([.ref 119, .retAddr 0, .int v2, .int v3, .retAddr 0], [], st mi ml z) (qI Q) := by
  refine ev_iload_n (i := 2) rfl rfl (a_dec_at dc_R_laysLie 16 rfl) ?_
  refine ev_if_le (tgt := 82) (a_dec_at dc_R_laysLie 17 rfl) (by decide) (fun b1 => ?_) (fun b1 => ?_)
  · have H := H.1 b1
    refine ev_iconst (v := 1) rfl (a_dec_at dc_R_laysLie 51 rfl) ?_
    exact m_retI (a_dec_at dc_R_laysLie 52 rfl) rfl rfl H
  · have H := H.2 b1
    refine ev_iload_n (i := 2) rfl rfl (a_dec_at dc_R_laysLie 18 rfl) ?_
    refine ev_iconst (v := 5) rfl (a_dec_at dc_R_laysLie 19 rfl) ?_
    refine ev_irem (by decide) (a_dec_at dc_R_laysLie 20 rfl) ?_
    refine ev_iconst (v := 1) rfl (a_dec_at dc_R_laysLie 21 rfl) ?_
    refine ev_isub (a_dec_at dc_R_laysLie 22 rfl) ?_
    refine ev_istore (by decide) rfl (a_dec_at dc_R_laysLie 23 rfl) ?_
    refine ev_iload rfl (a_dec_at dc_R_laysLie 24 rfl) ?_
    refine ev_if_lt (tgt := 62) (a_dec_at dc_R_laysLie 25 rfl) (by decide) (fun b2 => ?_) (fun b2 => ?_)
    · have H := H.1 b2
      refine ev_iconst (v := 0) rfl (a_dec_at dc_R_laysLie 38 rfl) ?_
      exact m_retI (a_dec_at dc_R_laysLie 39 rfl) rfl rfl H
    · have H := H.2 b2
      refine ev_iload rfl (a_dec_at dc_R_laysLie 26 rfl) ?_
      refine ev_aload_n (i := 0) rfl rfl (a_dec_at dc_R_laysLie 27 rfl) ?_
      refine m_getR (y := 120) fl_R_13 rfl sh119 (mr_119_1 _) (by decide) (a_dec_at dc_R_laysLie 28 rfl) ?_
      refine ev_iconst (v := 2) rfl (a_dec_at dc_R_laysLie 29 rfl) ?_
      refine w_iald (k := 2) sh120 (by unfold vp_in; decide) (by decide) (a_dec_at dc_R_laysLie 30 rfl) ?_
      refine ev_icmp_ge (tgt := 62) (a_dec_at dc_R_laysLie 31 rfl) (by decide) (fun b3 => ?_) (fun b3 => ?_)
      · have H := H.1 b3
        refine ev_iconst (v := 0) rfl (a_dec_at dc_R_laysLie 38 rfl) ?_
        exact m_retI (a_dec_at dc_R_laysLie 39 rfl) rfl rfl H
      · have H := H.2 b3
        refine ev_aload_n (i := 0) rfl rfl (a_dec_at dc_R_laysLie 32 rfl) ?_
        refine m_getR (y := 132) fl_R_57 rfl sh119 (mr_119_28 _) (by decide) (a_dec_at dc_R_laysLie 33 rfl) ?_
        refine ev_iload rfl (a_dec_at dc_R_laysLie 34 rfl) ?_
        obtain ⟨c4, H⟩ := H
        refine w_iald (k := ((a_rem v2 5) - 1).toNatClampNeg) sh132 c4 rfl (a_dec_at dc_R_laysLie 35 rfl) ?_
        refine ev_iconst (v := (-1)) rfl (a_dec_at dc_R_laysLie 36 rfl) ?_
        refine ev_icmp_eq (tgt := 64) (a_dec_at dc_R_laysLie 37 rfl) (by decide) (fun b5 => ?_) (fun b5 => ?_)
        · have H := H.1 b5
          refine ev_aload_n (i := 0) rfl rfl (a_dec_at dc_R_laysLie 40 rfl) ?_
          refine m_getR (y := 132) fl_R_57 rfl sh119 (mr_119_28 _) (by decide) (a_dec_at dc_R_laysLie 41 rfl) ?_
          refine ev_iload rfl (a_dec_at dc_R_laysLie 42 rfl) ?_
          refine ev_iload_n (i := 3) rfl rfl (a_dec_at dc_R_laysLie 43 rfl) ?_
          obtain ⟨c6, H⟩ := H
          refine w_iast (k := ((a_rem v2 5) - 1).toNatClampNeg) sh132 c6 rfl (a_dec_at dc_R_laysLie 44 rfl) ?_
          refine ev_iload_n (i := 2) rfl rfl (a_dec_at dc_R_laysLie 45 rfl) ?_
          refine ev_iconst (v := 5) rfl (a_dec_at dc_R_laysLie 46 rfl) ?_
          refine ev_idiv (by decide) (a_dec_at dc_R_laysLie 47 rfl) ?_
          refine ev_istore_n (i := 2) rfl (by decide) rfl (a_dec_at dc_R_laysLie 48 rfl) ?_
          refine ev_iinc (v := 1) rfl rfl (by decide) rfl (a_dec_at dc_R_laysLie 49 rfl) ?_
          refine ev_goto (tgt := 24) (a_dec_at dc_R_laysLie 50 rfl) (by decide) ?_
          exact Ev.drop (L' := [.ref 119, .retAddr 0, .int (v2 / 5), .int (v3 + 1), .retAddr 0]) (And.intro rfl (And.intro rfl (And.intro rfl trivial))) H
        · have H := H.2 b5
          refine ev_iconst (v := 0) rfl (a_dec_at dc_R_laysLie 38 rfl) ?_
          exact m_retI (a_dec_at dc_R_laysLie 39 rfl) rfl rfl H
set_option maxRecDepth 20000 in
theorem t_R_lie {l : Launch} {h : Nat} (mi : TMi) (ml : TMl) (z : Nat) (a1 : Int32) {Q : Int32 → TMi → TMl → Nat → Prop} (H : CI l h m_R_isBeck [.ref 119, .long a1.toInt64] (up mi 119 0 0) ml z (fun x1 mi1 ml1 z1 => ((¬ x1 = 0 → CV l h m_R_laysGains [.ref 119, .int a1] mi1 ml1 z1 (fun mi3 ml3 z3 => Q (mi3 119 30) mi3 ml3 z3)) ∧ (x1 = 0 → Q (-2) mi1 ml1 z1)))) : CI l (h + 1) m_R_lie [.ref 119, .int a1] mi ml z Q := by
  show Ev l (h + 1) m_R_lie 0 ([.ref 119, .int a1], [], st mi ml z) (qI Q)
  refine ev_aload_n (i := 0) rfl rfl (a_dec_at dc_R_lie 0 rfl) ?_
  refine ev_iconst (v := 0) rfl (a_dec_at dc_R_lie 1 rfl) ?_
  refine m_putI fl_R_1 rfl (fun _ _ _ h => by cases h; exact Or.inl rfl) sh119 (a_dec_at dc_R_lie 2 rfl) ?_
  refine ev_aload_n (i := 0) rfl rfl (a_dec_at dc_R_lie 3 rfl) ?_
  refine ev_iload_n (i := 1) rfl rfl (a_dec_at dc_R_lie 4 rfl) ?_
  refine ev_i2l (a_dec_at dc_R_lie 5 rfl) ?_
  refine cV1I cs_R_233 sh119 rfl (Nat.le_of_ble_eq_true rfl) (Nat.le_of_ble_eq_true rfl) (a_dec_at dc_R_lie 6 rfl) ?_
  refine CI.mono (fun x1 mi1 ml1 z1 H => ?_) H
  refine ev_if_ne (tgt := 17) (a_dec_at dc_R_lie 7 rfl) (by decide) (fun b2 => ?_) (fun b2 => ?_)
  · have H := H.1 b2
    refine ev_aload_n (i := 0) rfl rfl (a_dec_at dc_R_lie 10 rfl) ?_
    refine ev_iload_n (i := 1) rfl rfl (a_dec_at dc_R_lie 11 rfl) ?_
    refine cV1V cs_R_418 sh119 rfl (Nat.le_of_ble_eq_true rfl) (Nat.le_of_ble_eq_true rfl) (a_dec_at dc_R_lie 12 rfl) ?_
    refine CV.mono (fun mi3 ml3 z3 H => ?_) H
    refine ev_aload_n (i := 0) rfl rfl (a_dec_at dc_R_lie 13 rfl) ?_
    refine m_getI fl_R_412 rfl sh119 (a_dec_at dc_R_lie 14 rfl) ?_
    exact m_retI (a_dec_at dc_R_lie 15 rfl) rfl rfl H
  · have H := H.2 b2
    refine ev_bipush (v := (-2)) rfl (a_dec_at dc_R_lie 8 rfl) ?_
    exact m_retI (a_dec_at dc_R_lie 9 rfl) rfl rfl H
set_option maxRecDepth 20000 in
theorem t_R_liars {l : Launch} {h : Nat} (mi : TMi) (ml : TMl) (z : Nat) {Q : Int32 → TMi → TMl → Nat → Prop} (H : Ev l (h + 1) m_R_liars 9 ([.ref 119, .int 0, .int 0], [], st (up mi 119 0 0) ml z) (qI Q)) : CI l (h + 1) m_R_liars [.ref 119] mi ml z Q := by
  show Ev l (h + 1) m_R_liars 0 ([.ref 119, .retAddr 0, .retAddr 0], [], st mi ml z) (qI Q)
  refine ev_aload_n (i := 0) rfl rfl (a_dec_at dc_R_liars 0 rfl) ?_
  refine ev_iconst (v := 0) rfl (a_dec_at dc_R_liars 1 rfl) ?_
  refine m_putI fl_R_1 rfl (fun _ _ _ h => by cases h; exact Or.inl rfl) sh119 (a_dec_at dc_R_liars 2 rfl) ?_
  refine ev_iconst (v := 0) rfl (a_dec_at dc_R_liars 3 rfl) ?_
  refine ev_istore_n (i := 1) rfl (by decide) rfl (a_dec_at dc_R_liars 4 rfl) ?_
  refine ev_iconst (v := 0) rfl (a_dec_at dc_R_liars 5 rfl) ?_
  refine ev_istore_n (i := 2) rfl (by decide) rfl (a_dec_at dc_R_liars 6 rfl) ?_
  exact Ev.drop (L' := [.ref 119, .int 0, .int 0]) (And.intro rfl (And.intro rfl (And.intro rfl trivial))) H
set_option maxRecDepth 20000 in
theorem t_R_liars_9 {l : Launch} {h : Nat} (mi : TMi) (ml : TMl) (z : Nat) (v1 : Int32) (v2 : Int32) {Q : Int32 → TMi → TMl → Nat → Prop} (H : (((mi 120 1) ≤ v2 → Q v1 mi ml z) ∧ (¬ (mi 120 1) ≤ v2 → CV l h m_R_laysGains [.ref 119, .int v2] mi ml z (fun mi2 ml2 z2 => ((¬ (mi2 119 29) = (-1) → Ev l (h + 1) m_R_liars 9 ([.ref 119, .int (v1 ||| ((1 : Int32) <<< (v2 &&& 31))), .int (v2 + 1)], [], st mi2 ml2 z2) (qI Q)) ∧ ((mi2 119 29) = (-1) → Ev l (h + 1) m_R_liars 9 ([.ref 119, .int (v1 ||| 0), .int (v2 + 1)], [], st mi2 ml2 z2) (qI Q))))))) : Ev l (h + 1) m_R_liars 9 ([.ref 119, .int v1, .int v2], [], st mi ml z) (qI Q) := by
  refine ev_iload_n (i := 2) rfl rfl (a_dec_at dc_R_liars 7 rfl) ?_
  refine ev_aload_n (i := 0) rfl rfl (a_dec_at dc_R_liars 8 rfl) ?_
  refine m_getR (y := 120) fl_R_13 rfl sh119 (mr_119_1 _) (by decide) (a_dec_at dc_R_liars 9 rfl) ?_
  refine ev_iconst (v := 1) rfl (a_dec_at dc_R_liars 10 rfl) ?_
  refine w_iald (k := 1) sh120 (by unfold vp_in; decide) (by decide) (a_dec_at dc_R_liars 11 rfl) ?_
  refine ev_icmp_ge (tgt := 48) (a_dec_at dc_R_liars 12 rfl) (by decide) (fun b1 => ?_) (fun b1 => ?_)
  · have H := H.1 b1
    refine ev_iload_n (i := 1) rfl rfl (a_dec_at dc_R_liars 30 rfl) ?_
    exact m_retI (a_dec_at dc_R_liars 31 rfl) rfl rfl H
  · have H := H.2 b1
    refine ev_aload_n (i := 0) rfl rfl (a_dec_at dc_R_liars 13 rfl) ?_
    refine ev_iload_n (i := 2) rfl rfl (a_dec_at dc_R_liars 14 rfl) ?_
    refine cV1V cs_R_418 sh119 rfl (Nat.le_of_ble_eq_true rfl) (Nat.le_of_ble_eq_true rfl) (a_dec_at dc_R_liars 15 rfl) ?_
    refine CV.mono (fun mi2 ml2 z2 H => ?_) H
    refine ev_iload_n (i := 1) rfl rfl (a_dec_at dc_R_liars 16 rfl) ?_
    refine ev_aload_n (i := 0) rfl rfl (a_dec_at dc_R_liars 17 rfl) ?_
    refine m_getI fl_R_409 rfl sh119 (a_dec_at dc_R_liars 18 rfl) ?_
    refine ev_iconst (v := (-1)) rfl (a_dec_at dc_R_liars 19 rfl) ?_
    refine ev_icmp_ne (tgt := 37) (a_dec_at dc_R_liars 20 rfl) (by decide) (fun b3 => ?_) (fun b3 => ?_)
    · have H := H.1 b3
      refine ev_iconst (v := 1) rfl (a_dec_at dc_R_liars 23 rfl) ?_
      refine ev_iload_n (i := 2) rfl rfl (a_dec_at dc_R_liars 24 rfl) ?_
      refine ev_ishl (a_dec_at dc_R_liars 25 rfl) ?_
      refine ev_ior (a_dec_at dc_R_liars 26 rfl) ?_
      refine ev_istore_n (i := 1) rfl (by decide) rfl (a_dec_at dc_R_liars 27 rfl) ?_
      refine ev_iinc (v := 1) rfl rfl (by decide) rfl (a_dec_at dc_R_liars 28 rfl) ?_
      refine ev_goto (tgt := 9) (a_dec_at dc_R_liars 29 rfl) (by decide) ?_
      exact Ev.drop (L' := [.ref 119, .int (v1 ||| ((1 : Int32) <<< (v2 &&& 31))), .int (v2 + 1)]) (And.intro rfl (And.intro rfl (And.intro rfl trivial))) H
    · have H := H.2 b3
      refine ev_iconst (v := 0) rfl (a_dec_at dc_R_liars 21 rfl) ?_
      refine ev_goto (tgt := 40) (a_dec_at dc_R_liars 22 rfl) (by decide) ?_
      refine ev_ior (a_dec_at dc_R_liars 26 rfl) ?_
      refine ev_istore_n (i := 1) rfl (by decide) rfl (a_dec_at dc_R_liars 27 rfl) ?_
      refine ev_iinc (v := 1) rfl rfl (by decide) rfl (a_dec_at dc_R_liars 28 rfl) ?_
      refine ev_goto (tgt := 9) (a_dec_at dc_R_liars 29 rfl) (by decide) ?_
      exact Ev.drop (L' := [.ref 119, .int (v1 ||| 0), .int (v2 + 1)]) (And.intro rfl (And.intro rfl (And.intro rfl trivial))) H
set_option maxRecDepth 20000 in
theorem t_R_woos {l : Launch} {h : Nat} (mi : TMi) (ml : TMl) (z : Nat) (a1 : Int32) (a2 : Int32) (a3 : Int32) {Q : Int32 → TMi → TMl → Nat → Prop} (H : CI l h m_R_isRiver [.ref 119, .long a1.toInt64] (up mi 119 0 0) ml z (fun x1 mi1 ml1 z1 => ((x1 = 0 → Q (-2) mi1 ml1 z1) ∧ (¬ x1 = 0 → ((a3 = 0 → CI l h m_R_within [.long a2.toInt64, .long 0, .long 99] mi1 ml1 z1 (fun x4 mi4 ml4 z4 => ((¬ x4 = 0 → Ev l (h + 1) m_R_woos 57 ([.ref 119, .int a1, .int a2, .int a3, .int 0], [], st mi4 ml4 z4) (qI Q)) ∧ (x4 = 0 → Q (-3) mi4 ml4 z4)))) ∧ (¬ a3 = 0 → ((a3 < 10 → Q (-2) mi1 ml1 z1) ∧ (¬ a3 < 10 → CI l h m_R_isBeck [.ref 119, .long ((a3 - 10).toInt64)] mi1 ml1 z1 (fun x7 mi7 ml7 z7 => ((¬ x7 = 0 → CI l h m_R_within [.long a2.toInt64, .long 0, .long 99] mi7 ml7 z7 (fun x9 mi9 ml9 z9 => ((¬ x9 = 0 → Ev l (h + 1) m_R_woos 57 ([.ref 119, .int a1, .int a2, .int a3, .int 0], [], st mi9 ml9 z9) (qI Q)) ∧ (x9 = 0 → Q (-3) mi9 ml9 z9)))) ∧ (x7 = 0 → Q (-2) mi7 ml7 z7))))))))))) : CI l (h + 1) m_R_woos [.ref 119, .int a1, .int a2, .int a3] mi ml z Q := by
  show Ev l (h + 1) m_R_woos 0 ([.ref 119, .int a1, .int a2, .int a3, .retAddr 0], [], st mi ml z) (qI Q)
  refine ev_aload_n (i := 0) rfl rfl (a_dec_at dc_R_woos 0 rfl) ?_
  refine ev_iconst (v := 0) rfl (a_dec_at dc_R_woos 1 rfl) ?_
  refine m_putI fl_R_1 rfl (fun _ _ _ h => by cases h; exact Or.inl rfl) sh119 (a_dec_at dc_R_woos 2 rfl) ?_
  refine ev_aload_n (i := 0) rfl rfl (a_dec_at dc_R_woos 3 rfl) ?_
  refine ev_iload_n (i := 1) rfl rfl (a_dec_at dc_R_woos 4 rfl) ?_
  refine ev_i2l (a_dec_at dc_R_woos 5 rfl) ?_
  refine cV1I cs_R_243 sh119 rfl (Nat.le_of_ble_eq_true rfl) (Nat.le_of_ble_eq_true rfl) (a_dec_at dc_R_woos 6 rfl) ?_
  refine CI.mono (fun x1 mi1 ml1 z1 H => ?_) H
  refine ev_if_eq (tgt := 36) (a_dec_at dc_R_woos 7 rfl) (by decide) (fun b2 => ?_) (fun b2 => ?_)
  · have H := H.1 b2
    refine ev_bipush (v := (-2)) rfl (a_dec_at dc_R_woos 20 rfl) ?_
    exact m_retI (a_dec_at dc_R_woos 21 rfl) rfl rfl H
  · have H := H.2 b2
    refine ev_iload_n (i := 3) rfl rfl (a_dec_at dc_R_woos 8 rfl) ?_
    refine ev_if_eq (tgt := 39) (a_dec_at dc_R_woos 9 rfl) (by decide) (fun b3 => ?_) (fun b3 => ?_)
    · have H := H.1 b3
      refine ev_iload_n (i := 2) rfl rfl (a_dec_at dc_R_woos 22 rfl) ?_
      refine ev_i2l (a_dec_at dc_R_woos 23 rfl) ?_
      refine ev_lconst (v := 0) rfl (a_dec_at dc_R_woos 24 rfl) ?_
      refine ev_ldc2 kc_R_295 (a_dec_at dc_R_woos 25 rfl) ?_
      refine cS3I cs_R_139 rfl (Nat.le_of_ble_eq_true rfl) (Nat.le_of_ble_eq_true rfl) (a_dec_at dc_R_woos 26 rfl) ?_
      refine CI.mono (fun x4 mi4 ml4 z4 H => ?_) H
      refine ev_if_ne (tgt := 54) (a_dec_at dc_R_woos 27 rfl) (by decide) (fun b5 => ?_) (fun b5 => ?_)
      · have H := H.1 b5
        refine ev_iconst (v := 0) rfl (a_dec_at dc_R_woos 30 rfl) ?_
        refine ev_istore (by decide) rfl (a_dec_at dc_R_woos 31 rfl) ?_
        exact Ev.drop (L' := [.ref 119, .int a1, .int a2, .int a3, .int 0]) (And.intro rfl (And.intro rfl (And.intro rfl (And.intro rfl (And.intro rfl trivial))))) H
      · have H := H.2 b5
        refine ev_bipush (v := (-3)) rfl (a_dec_at dc_R_woos 28 rfl) ?_
        exact m_retI (a_dec_at dc_R_woos 29 rfl) rfl rfl H
    · have H := H.2 b3
      refine ev_iload_n (i := 3) rfl rfl (a_dec_at dc_R_woos 10 rfl) ?_
      refine ev_bipush (v := 10) rfl (a_dec_at dc_R_woos 11 rfl) ?_
      refine ev_icmp_lt (tgt := 36) (a_dec_at dc_R_woos 12 rfl) (by decide) (fun b6 => ?_) (fun b6 => ?_)
      · have H := H.1 b6
        refine ev_bipush (v := (-2)) rfl (a_dec_at dc_R_woos 20 rfl) ?_
        exact m_retI (a_dec_at dc_R_woos 21 rfl) rfl rfl H
      · have H := H.2 b6
        refine ev_aload_n (i := 0) rfl rfl (a_dec_at dc_R_woos 13 rfl) ?_
        refine ev_iload_n (i := 3) rfl rfl (a_dec_at dc_R_woos 14 rfl) ?_
        refine ev_bipush (v := 10) rfl (a_dec_at dc_R_woos 15 rfl) ?_
        refine ev_isub (a_dec_at dc_R_woos 16 rfl) ?_
        refine ev_i2l (a_dec_at dc_R_woos 17 rfl) ?_
        refine cV1I cs_R_233 sh119 rfl (Nat.le_of_ble_eq_true rfl) (Nat.le_of_ble_eq_true rfl) (a_dec_at dc_R_woos 18 rfl) ?_
        refine CI.mono (fun x7 mi7 ml7 z7 H => ?_) H
        refine ev_if_ne (tgt := 39) (a_dec_at dc_R_woos 19 rfl) (by decide) (fun b8 => ?_) (fun b8 => ?_)
        · have H := H.1 b8
          refine ev_iload_n (i := 2) rfl rfl (a_dec_at dc_R_woos 22 rfl) ?_
          refine ev_i2l (a_dec_at dc_R_woos 23 rfl) ?_
          refine ev_lconst (v := 0) rfl (a_dec_at dc_R_woos 24 rfl) ?_
          refine ev_ldc2 kc_R_295 (a_dec_at dc_R_woos 25 rfl) ?_
          refine cS3I cs_R_139 rfl (Nat.le_of_ble_eq_true rfl) (Nat.le_of_ble_eq_true rfl) (a_dec_at dc_R_woos 26 rfl) ?_
          refine CI.mono (fun x9 mi9 ml9 z9 H => ?_) H
          refine ev_if_ne (tgt := 54) (a_dec_at dc_R_woos 27 rfl) (by decide) (fun b10 => ?_) (fun b10 => ?_)
          · have H := H.1 b10
            refine ev_iconst (v := 0) rfl (a_dec_at dc_R_woos 30 rfl) ?_
            refine ev_istore (by decide) rfl (a_dec_at dc_R_woos 31 rfl) ?_
            exact Ev.drop (L' := [.ref 119, .int a1, .int a2, .int a3, .int 0]) (And.intro rfl (And.intro rfl (And.intro rfl (And.intro rfl (And.intro rfl trivial))))) H
          · have H := H.2 b10
            refine ev_bipush (v := (-3)) rfl (a_dec_at dc_R_woos 28 rfl) ?_
            exact m_retI (a_dec_at dc_R_woos 29 rfl) rfl rfl H
        · have H := H.2 b8
          refine ev_bipush (v := (-2)) rfl (a_dec_at dc_R_woos 20 rfl) ?_
          exact m_retI (a_dec_at dc_R_woos 21 rfl) rfl rfl H
set_option maxRecDepth 20000 in
theorem t_R_woos_57 {l : Launch} {h : Nat} (mi : TMi) (ml : TMl) (z : Nat) (v1 : Int32) (v2 : Int32) (v3 : Int32) (v4 : Int32) {Q : Int32 → TMi → TMl → Nat → Prop} (H : ((9 < v4 → Q (-1) mi ml z) ∧ (¬ 9 < v4 → CI l h m_R_goesGifts [.ref 119, .int 0, .int v4, .int v1, .int v2] mi ml z (fun x2 mi2 ml2 z2 => ((x2 = 0 → Ev l (h + 1) m_R_woos 57 ([.ref 119, .int v1, .int v2, .int v3, .int (v4 + 1)], [], st mi2 ml2 z2) (qI Q)) ∧ (¬ x2 = 0 → ((¬ v3 = 0 → (vp_in (v3 - 10) 6) ∧ Q (mi2 133 ((v3 - 10).toNatClampNeg)) mi2 ml2 z2) ∧ (v3 = 0 → Q v4 mi2 ml2 z2)))))))) : Ev l (h + 1) m_R_woos 57 ([.ref 119, .int v1, .int v2, .int v3, .int v4], [], st mi ml z) (qI Q) := by
  refine ev_iload rfl (a_dec_at dc_R_woos 32 rfl) ?_
  refine ev_bipush (v := 9) rfl (a_dec_at dc_R_woos 33 rfl) ?_
  refine ev_icmp_gt (tgt := 101) (a_dec_at dc_R_woos 34 rfl) (by decide) (fun b1 => ?_) (fun b1 => ?_)
  · have H := H.1 b1
    refine ev_iconst (v := (-1)) rfl (a_dec_at dc_R_woos 55 rfl) ?_
    exact m_retI (a_dec_at dc_R_woos 56 rfl) rfl rfl H
  · have H := H.2 b1
    refine ev_aload_n (i := 0) rfl rfl (a_dec_at dc_R_woos 35 rfl) ?_
    refine ev_iconst (v := 0) rfl (a_dec_at dc_R_woos 36 rfl) ?_
    refine ev_iload rfl (a_dec_at dc_R_woos 37 rfl) ?_
    refine ev_iload_n (i := 1) rfl rfl (a_dec_at dc_R_woos 38 rfl) ?_
    refine ev_iload_n (i := 2) rfl rfl (a_dec_at dc_R_woos 39 rfl) ?_
    refine cV4I cs_R_424 sh119 rfl (Nat.le_of_ble_eq_true rfl) (Nat.le_of_ble_eq_true rfl) (a_dec_at dc_R_woos 40 rfl) ?_
    refine CI.mono (fun x2 mi2 ml2 z2 H => ?_) H
    refine ev_if_eq (tgt := 95) (a_dec_at dc_R_woos 41 rfl) (by decide) (fun b3 => ?_) (fun b3 => ?_)
    · have H := H.1 b3
      refine ev_iinc (v := 1) rfl rfl (by decide) rfl (a_dec_at dc_R_woos 53 rfl) ?_
      refine ev_goto (tgt := 57) (a_dec_at dc_R_woos 54 rfl) (by decide) ?_
      exact Ev.drop (L' := [.ref 119, .int v1, .int v2, .int v3, .int (v4 + 1)]) (And.intro rfl (And.intro rfl (And.intro rfl (And.intro rfl (And.intro rfl trivial))))) H
    · have H := H.2 b3
      refine ev_iload_n (i := 3) rfl rfl (a_dec_at dc_R_woos 42 rfl) ?_
      refine ev_if_ne (tgt := 85) (a_dec_at dc_R_woos 43 rfl) (by decide) (fun b4 => ?_) (fun b4 => ?_)
      · have H := H.1 b4
        refine ev_aload_n (i := 0) rfl rfl (a_dec_at dc_R_woos 46 rfl) ?_
        refine m_getR (y := 133) fl_R_60 rfl sh119 (mr_119_31 _) (by decide) (a_dec_at dc_R_woos 47 rfl) ?_
        refine ev_iload_n (i := 3) rfl rfl (a_dec_at dc_R_woos 48 rfl) ?_
        refine ev_bipush (v := 10) rfl (a_dec_at dc_R_woos 49 rfl) ?_
        refine ev_isub (a_dec_at dc_R_woos 50 rfl) ?_
        obtain ⟨c5, H⟩ := H
        refine w_iald (k := (v3 - 10).toNatClampNeg) sh133 c5 rfl (a_dec_at dc_R_woos 51 rfl) ?_
        exact m_retI (a_dec_at dc_R_woos 52 rfl) rfl rfl H
      · have H := H.2 b4
        refine ev_iload rfl (a_dec_at dc_R_woos 44 rfl) ?_
        refine ev_goto (tgt := 94) (a_dec_at dc_R_woos 45 rfl) (by decide) ?_
        exact m_retI (a_dec_at dc_R_woos 52 rfl) rfl rfl H
set_option maxRecDepth 20000 in
theorem t_R_goesGifts {l : Launch} {h : Nat} (mi : TMi) (ml : TMl) (z : Nat) (a1 : Int32) (a2 : Int32) (a3 : Int32) (a4 : Int32) {Q : Int32 → TMi → TMl → Nat → Prop} (H : ((¬ a1 = (mi 120 1) → CI l h m_R_giftAt [.ref 119, .int a3, .int a1] mi ml z (fun x2 mi2 ml2 z2 => (vp_in x2 4113) ∧ (((9 - (mi2 120 x2.toNatClampNeg)) ≤ a2 → Ev l (h + 1) m_R_goesGifts 88 ([.ref 119, .int a1, .int a2, .int a3, .int a4, .int x2, .int (mi2 120 x2.toNatClampNeg), .int (9 - (mi2 120 x2.toNatClampNeg)), .int 0, .int 0], [], st mi2 ml2 z2) (qI Q)) ∧ (¬ (9 - (mi2 120 x2.toNatClampNeg)) ≤ a2 → Ev l (h + 1) m_R_goesGifts 88 ([.ref 119, .int a1, .int a2, .int a3, .int a4, .int x2, .int (mi2 120 x2.toNatClampNeg), .int a2, .int 0, .int 0], [], st mi2 ml2 z2) (qI Q))))) ∧ (a1 = (mi 120 1) → ((a2 ≤ 0 → CV l h m_R_laysLikes [.ref 119] mi ml z (fun mi6 ml6 z6 => CV l h m_R_laysByBecks [.ref 119, .int 0] mi6 ml6 z6 (fun mi7 ml7 z7 => CI l h m_R_becksBy [.ref 119, .int a3] mi7 ml7 z7 (fun x8 mi8 ml8 z8 => CI l h m_R_flowOf [.ref 119, .int x8] mi8 ml8 z8 (fun x9 mi9 ml9 z9 => ((x9 < a4 → Q 0 mi9 ml9 z9) ∧ (¬ x9 < a4 → Q 1 mi9 ml9 z9))))))) ∧ (¬ a2 ≤ 0 → Q 0 mi ml z))))) : CI l (h + 1) m_R_goesGifts [.ref 119, .int a1, .int a2, .int a3, .int a4] mi ml z Q := by
  show Ev l (h + 1) m_R_goesGifts 0 ([.ref 119, .int a1, .int a2, .int a3, .int a4, .retAddr 0, .retAddr 0, .retAddr 0, .retAddr 0, .retAddr 0], [], st mi ml z) (qI Q)
  refine ev_iload_n (i := 1) rfl rfl (a_dec_at dc_R_goesGifts 0 rfl) ?_
  refine ev_aload_n (i := 0) rfl rfl (a_dec_at dc_R_goesGifts 1 rfl) ?_
  refine m_getR (y := 120) fl_R_13 rfl sh119 (mr_119_1 _) (by decide) (a_dec_at dc_R_goesGifts 2 rfl) ?_
  refine ev_iconst (v := 1) rfl (a_dec_at dc_R_goesGifts 3 rfl) ?_
  refine w_iald (k := 1) sh120 (by unfold vp_in; decide) (by decide) (a_dec_at dc_R_goesGifts 4 rfl) ?_
  refine ev_icmp_ne (tgt := 45) (a_dec_at dc_R_goesGifts 5 rfl) (by decide) (fun b1 => ?_) (fun b1 => ?_)
  · have H := H.1 b1
    refine ev_aload_n (i := 0) rfl rfl (a_dec_at dc_R_goesGifts 26 rfl) ?_
    refine ev_iload_n (i := 3) rfl rfl (a_dec_at dc_R_goesGifts 27 rfl) ?_
    refine ev_iload_n (i := 1) rfl rfl (a_dec_at dc_R_goesGifts 28 rfl) ?_
    refine cV2I cs_R_211 sh119 rfl (Nat.le_of_ble_eq_true rfl) (Nat.le_of_ble_eq_true rfl) (a_dec_at dc_R_goesGifts 29 rfl) ?_
    refine CI.mono (fun x2 mi2 ml2 z2 H => ?_) H
    refine ev_istore (by decide) rfl (a_dec_at dc_R_goesGifts 30 rfl) ?_
    refine ev_aload_n (i := 0) rfl rfl (a_dec_at dc_R_goesGifts 31 rfl) ?_
    refine m_getR (y := 120) fl_R_13 rfl sh119 (mr_119_1 _) (by decide) (a_dec_at dc_R_goesGifts 32 rfl) ?_
    refine ev_iload rfl (a_dec_at dc_R_goesGifts 33 rfl) ?_
    obtain ⟨c3, H⟩ := H
    refine w_iald (k := x2.toNatClampNeg) sh120 c3 rfl (a_dec_at dc_R_goesGifts 34 rfl) ?_
    refine ev_istore (by decide) rfl (a_dec_at dc_R_goesGifts 35 rfl) ?_
    refine ev_iload_n (i := 2) rfl rfl (a_dec_at dc_R_goesGifts 36 rfl) ?_
    refine ev_bipush (v := 9) rfl (a_dec_at dc_R_goesGifts 37 rfl) ?_
    refine ev_iload rfl (a_dec_at dc_R_goesGifts 38 rfl) ?_
    refine ev_isub (a_dec_at dc_R_goesGifts 39 rfl) ?_
    refine ev_icmp_ge (tgt := 75) (a_dec_at dc_R_goesGifts 40 rfl) (by decide) (fun b4 => ?_) (fun b4 => ?_)
    · have H := H.1 b4
      refine ev_bipush (v := 9) rfl (a_dec_at dc_R_goesGifts 43 rfl) ?_
      refine ev_iload rfl (a_dec_at dc_R_goesGifts 44 rfl) ?_
      refine ev_isub (a_dec_at dc_R_goesGifts 45 rfl) ?_
      refine ev_istore (by decide) rfl (a_dec_at dc_R_goesGifts 46 rfl) ?_
      refine ev_iconst (v := 0) rfl (a_dec_at dc_R_goesGifts 47 rfl) ?_
      refine ev_istore (by decide) rfl (a_dec_at dc_R_goesGifts 48 rfl) ?_
      refine ev_iconst (v := 0) rfl (a_dec_at dc_R_goesGifts 49 rfl) ?_
      refine ev_istore (by decide) rfl (a_dec_at dc_R_goesGifts 50 rfl) ?_
      exact Ev.drop (L' := [.ref 119, .int a1, .int a2, .int a3, .int a4, .int x2, .int (mi2 120 x2.toNatClampNeg), .int (9 - (mi2 120 x2.toNatClampNeg)), .int 0, .int 0]) (And.intro rfl (And.intro rfl (And.intro rfl (And.intro rfl (And.intro rfl (And.intro rfl (And.intro rfl (And.intro rfl (And.intro rfl (And.intro rfl trivial)))))))))) H
    · have H := H.2 b4
      refine ev_iload_n (i := 2) rfl rfl (a_dec_at dc_R_goesGifts 41 rfl) ?_
      refine ev_goto (tgt := 80) (a_dec_at dc_R_goesGifts 42 rfl) (by decide) ?_
      refine ev_istore (by decide) rfl (a_dec_at dc_R_goesGifts 46 rfl) ?_
      refine ev_iconst (v := 0) rfl (a_dec_at dc_R_goesGifts 47 rfl) ?_
      refine ev_istore (by decide) rfl (a_dec_at dc_R_goesGifts 48 rfl) ?_
      refine ev_iconst (v := 0) rfl (a_dec_at dc_R_goesGifts 49 rfl) ?_
      refine ev_istore (by decide) rfl (a_dec_at dc_R_goesGifts 50 rfl) ?_
      exact Ev.drop (L' := [.ref 119, .int a1, .int a2, .int a3, .int a4, .int x2, .int (mi2 120 x2.toNatClampNeg), .int a2, .int 0, .int 0]) (And.intro rfl (And.intro rfl (And.intro rfl (And.intro rfl (And.intro rfl (And.intro rfl (And.intro rfl (And.intro rfl (And.intro rfl (And.intro rfl trivial)))))))))) H
  · have H := H.2 b1
    refine ev_iload_n (i := 2) rfl rfl (a_dec_at dc_R_goesGifts 6 rfl) ?_
    refine ev_if_le (tgt := 16) (a_dec_at dc_R_goesGifts 7 rfl) (by decide) (fun b5 => ?_) (fun b5 => ?_)
    · have H := H.1 b5
      refine ev_aload_n (i := 0) rfl rfl (a_dec_at dc_R_goesGifts 10 rfl) ?_
      refine cV0V cs_R_237 sh119 rfl (Nat.le_of_ble_eq_true rfl) (Nat.le_of_ble_eq_true rfl) (a_dec_at dc_R_goesGifts 11 rfl) ?_
      refine CV.mono (fun mi6 ml6 z6 H => ?_) H
      refine ev_aload_n (i := 0) rfl rfl (a_dec_at dc_R_goesGifts 12 rfl) ?_
      refine ev_iconst (v := 0) rfl (a_dec_at dc_R_goesGifts 13 rfl) ?_
      refine cV1V cs_R_421 sh119 rfl (Nat.le_of_ble_eq_true rfl) (Nat.le_of_ble_eq_true rfl) (a_dec_at dc_R_goesGifts 14 rfl) ?_
      refine CV.mono (fun mi7 ml7 z7 H => ?_) H
      refine ev_aload_n (i := 0) rfl rfl (a_dec_at dc_R_goesGifts 15 rfl) ?_
      refine ev_aload_n (i := 0) rfl rfl (a_dec_at dc_R_goesGifts 16 rfl) ?_
      refine ev_iload_n (i := 3) rfl rfl (a_dec_at dc_R_goesGifts 17 rfl) ?_
      refine cV1I cs_R_349 sh119 rfl (Nat.le_of_ble_eq_true rfl) (Nat.le_of_ble_eq_true rfl) (a_dec_at dc_R_goesGifts 18 rfl) ?_
      refine CI.mono (fun x8 mi8 ml8 z8 H => ?_) H
      refine cV1I cs_R_249 sh119 rfl (Nat.le_of_ble_eq_true rfl) (Nat.le_of_ble_eq_true rfl) (a_dec_at dc_R_goesGifts 19 rfl) ?_
      refine CI.mono (fun x9 mi9 ml9 z9 H => ?_) H
      refine ev_iload rfl (a_dec_at dc_R_goesGifts 20 rfl) ?_
      refine ev_icmp_lt (tgt := 43) (a_dec_at dc_R_goesGifts 21 rfl) (by decide) (fun b10 => ?_) (fun b10 => ?_)
      · have H := H.1 b10
        refine ev_iconst (v := 0) rfl (a_dec_at dc_R_goesGifts 24 rfl) ?_
        exact m_retI (a_dec_at dc_R_goesGifts 25 rfl) rfl rfl H
      · have H := H.2 b10
        refine ev_iconst (v := 1) rfl (a_dec_at dc_R_goesGifts 22 rfl) ?_
        refine ev_goto (tgt := 44) (a_dec_at dc_R_goesGifts 23 rfl) (by decide) ?_
        exact m_retI (a_dec_at dc_R_goesGifts 25 rfl) rfl rfl H
    · have H := H.2 b5
      refine ev_iconst (v := 0) rfl (a_dec_at dc_R_goesGifts 8 rfl) ?_
      exact m_retI (a_dec_at dc_R_goesGifts 9 rfl) rfl rfl H
set_option maxRecDepth 20000 in
theorem t_R_goesGifts_88 {l : Launch} {h : Nat} (mi : TMi) (ml : TMl) (z : Nat) (v1 : Int32) (v2 : Int32) (v3 : Int32) (v4 : Int32) (v5 : Int32) (v6 : Int32) (v7 : Int32) (v8 : Int32) (v9 : Int32) {Q : Int32 → TMi → TMl → Nat → Prop} (H : ((v7 < v9 → (vp_in v5 4113) ∧ (narrow .boolean (.int v8) = .int v8) ∧ Q v8 (up mi 120 v5.toNatClampNeg v6) ml z) ∧ (¬ v7 < v9 → ((¬ v8 = 0 → (vp_in v5 4113) ∧ (narrow .boolean (.int v8) = .int v8) ∧ Q v8 (up mi 120 v5.toNatClampNeg v6) ml z) ∧ (v8 = 0 → (vp_in v1 6) ∧ (vp_in v5 4113) ∧ CI l h m_R_goesGifts [.ref 119, .int (v1 + 1), .int (v2 - v9), .int v3, .int v4] (up (up mi 133 v1.toNatClampNeg v9) 120 v5.toNatClampNeg (v6 + v9)) ml z (fun x9 mi9 ml9 z9 => Ev l (h + 1) m_R_goesGifts 88 ([.ref 119, .int v1, .int v2, .int v3, .int v4, .int v5, .int v6, .int v7, .int x9, .int (v9 + 1)], [], st mi9 ml9 z9) (qI Q))))))) : Ev l (h + 1) m_R_goesGifts 88 ([.ref 119, .int v1, .int v2, .int v3, .int v4, .int v5, .int v6, .int v7, .int v8, .int v9], [], st mi ml z) (qI Q) := by
  refine ev_iload rfl (a_dec_at dc_R_goesGifts 51 rfl) ?_
  refine ev_iload rfl (a_dec_at dc_R_goesGifts 52 rfl) ?_
  refine ev_icmp_gt (tgt := 142) (a_dec_at dc_R_goesGifts 53 rfl) (by decide) (fun b1 => ?_) (fun b1 => ?_)
  · have H := H.1 b1
    refine ev_aload_n (i := 0) rfl rfl (a_dec_at dc_R_goesGifts 81 rfl) ?_
    refine m_getR (y := 120) fl_R_13 rfl sh119 (mr_119_1 _) (by decide) (a_dec_at dc_R_goesGifts 82 rfl) ?_
    refine ev_iload rfl (a_dec_at dc_R_goesGifts 83 rfl) ?_
    refine ev_iload rfl (a_dec_at dc_R_goesGifts 84 rfl) ?_
    obtain ⟨c2, H⟩ := H
    refine w_iast (k := v5.toNatClampNeg) sh120 c2 rfl (a_dec_at dc_R_goesGifts 85 rfl) ?_
    refine ev_iload rfl (a_dec_at dc_R_goesGifts 86 rfl) ?_
    obtain ⟨c3, H⟩ := H
    exact m_retI (a_dec_at dc_R_goesGifts 87 rfl) rfl c3 H
  · have H := H.2 b1
    refine ev_iload rfl (a_dec_at dc_R_goesGifts 54 rfl) ?_
    refine ev_if_ne (tgt := 142) (a_dec_at dc_R_goesGifts 55 rfl) (by decide) (fun b4 => ?_) (fun b4 => ?_)
    · have H := H.1 b4
      refine ev_aload_n (i := 0) rfl rfl (a_dec_at dc_R_goesGifts 81 rfl) ?_
      refine m_getR (y := 120) fl_R_13 rfl sh119 (mr_119_1 _) (by decide) (a_dec_at dc_R_goesGifts 82 rfl) ?_
      refine ev_iload rfl (a_dec_at dc_R_goesGifts 83 rfl) ?_
      refine ev_iload rfl (a_dec_at dc_R_goesGifts 84 rfl) ?_
      obtain ⟨c5, H⟩ := H
      refine w_iast (k := v5.toNatClampNeg) sh120 c5 rfl (a_dec_at dc_R_goesGifts 85 rfl) ?_
      refine ev_iload rfl (a_dec_at dc_R_goesGifts 86 rfl) ?_
      obtain ⟨c6, H⟩ := H
      exact m_retI (a_dec_at dc_R_goesGifts 87 rfl) rfl c6 H
    · have H := H.2 b4
      refine ev_aload_n (i := 0) rfl rfl (a_dec_at dc_R_goesGifts 56 rfl) ?_
      refine m_getR (y := 133) fl_R_60 rfl sh119 (mr_119_31 _) (by decide) (a_dec_at dc_R_goesGifts 57 rfl) ?_
      refine ev_iload_n (i := 1) rfl rfl (a_dec_at dc_R_goesGifts 58 rfl) ?_
      refine ev_iload rfl (a_dec_at dc_R_goesGifts 59 rfl) ?_
      obtain ⟨c7, H⟩ := H
      refine w_iast (k := v1.toNatClampNeg) sh133 c7 rfl (a_dec_at dc_R_goesGifts 60 rfl) ?_
      refine ev_aload_n (i := 0) rfl rfl (a_dec_at dc_R_goesGifts 61 rfl) ?_
      refine m_getR (y := 120) fl_R_13 rfl sh119 (mr_119_1 _) (by decide) (a_dec_at dc_R_goesGifts 62 rfl) ?_
      refine ev_iload rfl (a_dec_at dc_R_goesGifts 63 rfl) ?_
      refine ev_iload rfl (a_dec_at dc_R_goesGifts 64 rfl) ?_
      refine ev_iload rfl (a_dec_at dc_R_goesGifts 65 rfl) ?_
      refine ev_iadd (a_dec_at dc_R_goesGifts 66 rfl) ?_
      obtain ⟨c8, H⟩ := H
      refine w_iast (k := v5.toNatClampNeg) sh120 c8 rfl (a_dec_at dc_R_goesGifts 67 rfl) ?_
      refine ev_aload_n (i := 0) rfl rfl (a_dec_at dc_R_goesGifts 68 rfl) ?_
      refine ev_iload_n (i := 1) rfl rfl (a_dec_at dc_R_goesGifts 69 rfl) ?_
      refine ev_iconst (v := 1) rfl (a_dec_at dc_R_goesGifts 70 rfl) ?_
      refine ev_iadd (a_dec_at dc_R_goesGifts 71 rfl) ?_
      refine ev_iload_n (i := 2) rfl rfl (a_dec_at dc_R_goesGifts 72 rfl) ?_
      refine ev_iload rfl (a_dec_at dc_R_goesGifts 73 rfl) ?_
      refine ev_isub (a_dec_at dc_R_goesGifts 74 rfl) ?_
      refine ev_iload_n (i := 3) rfl rfl (a_dec_at dc_R_goesGifts 75 rfl) ?_
      refine ev_iload rfl (a_dec_at dc_R_goesGifts 76 rfl) ?_
      refine cV4I cs_R_424 sh119 rfl (Nat.le_of_ble_eq_true rfl) (Nat.le_of_ble_eq_true rfl) (a_dec_at dc_R_goesGifts 77 rfl) ?_
      refine CI.mono (fun x9 mi9 ml9 z9 H => ?_) H
      refine ev_istore (by decide) rfl (a_dec_at dc_R_goesGifts 78 rfl) ?_
      refine ev_iinc (v := 1) rfl rfl (by decide) rfl (a_dec_at dc_R_goesGifts 79 rfl) ?_
      refine ev_goto (tgt := 88) (a_dec_at dc_R_goesGifts 80 rfl) (by decide) ?_
      exact Ev.drop (L' := [.ref 119, .int v1, .int v2, .int v3, .int v4, .int v5, .int v6, .int v7, .int x9, .int (v9 + 1)]) (And.intro rfl (And.intro rfl (And.intro rfl (And.intro rfl (And.intro rfl (And.intro rfl (And.intro rfl (And.intro rfl (And.intro rfl (And.intro rfl trivial)))))))))) H
set_option maxRecDepth 20000 in
theorem t_R_laysByBecks {l : Launch} {h : Nat} (mi : TMi) (ml : TMl) (z : Nat) (a1 : Int32) {Q : TMi → TMl → Nat → Prop} (H : CV l h m_R_begins [.ref 119] mi ml z (fun mi1 ml1 z1 => Ev l (h + 1) m_R_laysByBecks 6 ([.ref 119, .int a1, .int 1, .retAddr 0, .retAddr 0, .retAddr 0], [], st mi1 ml1 z1) (qV Q))) : CV l (h + 1) m_R_laysByBecks [.ref 119, .int a1] mi ml z Q := by
  show Ev l (h + 1) m_R_laysByBecks 0 ([.ref 119, .int a1, .retAddr 0, .retAddr 0, .retAddr 0, .retAddr 0], [], st mi ml z) (qV Q)
  refine ev_aload_n (i := 0) rfl rfl (a_dec_at dc_R_laysByBecks 0 rfl) ?_
  refine cV0V cs_R_394 sh119 rfl (Nat.le_of_ble_eq_true rfl) (Nat.le_of_ble_eq_true rfl) (a_dec_at dc_R_laysByBecks 1 rfl) ?_
  refine CV.mono (fun mi1 ml1 z1 H => ?_) H
  refine ev_iconst (v := 1) rfl (a_dec_at dc_R_laysByBecks 2 rfl) ?_
  refine ev_istore_n (i := 2) rfl (by decide) rfl (a_dec_at dc_R_laysByBecks 3 rfl) ?_
  exact Ev.drop (L' := [.ref 119, .int a1, .int 1, .retAddr 0, .retAddr 0, .retAddr 0]) (And.intro rfl (And.intro rfl (And.intro rfl trivial))) H
set_option maxRecDepth 20000 in
theorem t_R_laysByBecks_6 {l : Launch} {h : Nat} (mi : TMi) (ml : TMl) (z : Nat) (v1 : Int32) (v2 : Int32) {Q : TMi → TMl → Nat → Prop} (H : ((v2 = 0 → Q mi ml z) ∧ (¬ v2 = 0 → Ev l (h + 1) m_R_laysByBecks 14 ([.ref 119, .int v1, .int 0, .int 0, .retAddr 0, .retAddr 0], [], st mi ml z) (qV Q)))) : Ev l (h + 1) m_R_laysByBecks 6 ([.ref 119, .int v1, .int v2, .retAddr 0, .retAddr 0, .retAddr 0], [], st mi ml z) (qV Q) := by
  refine ev_iload_n (i := 2) rfl rfl (a_dec_at dc_R_laysByBecks 4 rfl) ?_
  refine ev_if_eq (tgt := 143) (a_dec_at dc_R_laysByBecks 5 rfl) (by decide) (fun b1 => ?_) (fun b1 => ?_)
  · have H := H.1 b1
    exact m_retV (a_dec_at dc_R_laysByBecks 81 rfl) rfl H
  · have H := H.2 b1
    refine ev_iconst (v := 0) rfl (a_dec_at dc_R_laysByBecks 6 rfl) ?_
    refine ev_istore_n (i := 2) rfl (by decide) rfl (a_dec_at dc_R_laysByBecks 7 rfl) ?_
    refine ev_iconst (v := 0) rfl (a_dec_at dc_R_laysByBecks 8 rfl) ?_
    refine ev_istore_n (i := 3) rfl (by decide) rfl (a_dec_at dc_R_laysByBecks 9 rfl) ?_
    exact Ev.drop (L' := [.ref 119, .int v1, .int 0, .int 0, .retAddr 0, .retAddr 0]) (And.intro rfl (And.intro rfl (And.intro rfl (And.intro rfl trivial)))) H
set_option maxRecDepth 20000 in
theorem t_R_laysByBecks_14 {l : Launch} {h : Nat} (mi : TMi) (ml : TMl) (z : Nat) (v1 : Int32) (v2 : Int32) (v3 : Int32) {Q : TMi → TMl → Nat → Prop} (H : (((mi 120 1) ≤ v3 → Ev l (h + 1) m_R_laysByBecks 6 ([.ref 119, .int v1, .int v2, .retAddr 0, .retAddr 0, .retAddr 0], [], st mi ml z) (qV Q)) ∧ (¬ (mi 120 1) ≤ v3 → (vp_in v3 6) ∧ ((¬ (mi 129 v3.toNatClampNeg) = (-1) → Ev l (h + 1) m_R_laysByBecks 14 ([.ref 119, .int v1, .int v2, .int (v3 + 1), .retAddr 0, .retAddr 0], [], st mi ml z) (qV Q)) ∧ ((mi 129 v3.toNatClampNeg) = (-1) → CI l h m_R_isIn [.long v1.toInt64, .int v3] mi ml z (fun x4 mi4 ml4 z4 => ((x4 = 0 → CI l h m_R_asksRiver [.ref 119, .int v3] mi4 ml4 z4 (fun x6 mi6 ml6 z6 => ((¬ x6 = (-1) → (vp_in v3 6) ∧ CI l h m_R_becksBy [.ref 119, .int x6] (up mi6 129 v3.toNatClampNeg x6) ml6 z6 (fun x9 mi9 ml9 z9 => CI l h m_R_bitsOf [.int x9] mi9 ml9 z9 (fun x10 mi10 ml10 z10 => (vp_in (41 + x6) 4113) ∧ (((mi10 120 ((41 + x6).toNatClampNeg)) < x10 → CI l h m_R_becksBy [.ref 119, .int x6] mi10 ml10 z10 (fun x13 mi13 ml13 z13 => CI l h m_R_leastOf [.ref 119, .int x6, .int x13] mi13 ml13 z13 (fun x14 mi14 ml14 z14 => (vp_in x14 6) ∧ (vp_in x14 6) ∧ (vp_in x14 6) ∧ Ev l (h + 1) m_R_laysByBecks 14 ([.ref 119, .int v1, .int 1, .int (v3 + 1), .retAddr 0, .retAddr 0], [], st (up (up mi14 129 x14.toNatClampNeg (-1)) 131 x14.toNatClampNeg (((up mi14 129 x14.toNatClampNeg (-1)) 131 x14.toNatClampNeg) ||| ((1 : Int32) <<< (x6 &&& 31)))) ml14 z14) (qV Q)))) ∧ (¬ (mi10 120 ((41 + x6).toNatClampNeg)) < x10 → Ev l (h + 1) m_R_laysByBecks 14 ([.ref 119, .int v1, .int 1, .int (v3 + 1), .retAddr 0, .retAddr 0], [], st mi10 ml10 z10) (qV Q)))))) ∧ (x6 = (-1) → Ev l (h + 1) m_R_laysByBecks 14 ([.ref 119, .int v1, .int v2, .int (v3 + 1), .retAddr 0, .retAddr 0], [], st mi6 ml6 z6) (qV Q))))) ∧ (¬ x4 = 0 → Ev l (h + 1) m_R_laysByBecks 14 ([.ref 119, .int v1, .int v2, .int (v3 + 1), .retAddr 0, .retAddr 0], [], st mi4 ml4 z4) (qV Q))))))))) : Ev l (h + 1) m_R_laysByBecks 14 ([.ref 119, .int v1, .int v2, .int v3, .retAddr 0, .retAddr 0], [], st mi ml z) (qV Q) := by
  refine ev_iload_n (i := 3) rfl rfl (a_dec_at dc_R_laysByBecks 10 rfl) ?_
  refine ev_aload_n (i := 0) rfl rfl (a_dec_at dc_R_laysByBecks 11 rfl) ?_
  refine m_getR (y := 120) fl_R_13 rfl sh119 (mr_119_1 _) (by decide) (a_dec_at dc_R_laysByBecks 12 rfl) ?_
  refine ev_iconst (v := 1) rfl (a_dec_at dc_R_laysByBecks 13 rfl) ?_
  refine w_iald (k := 1) sh120 (by unfold vp_in; decide) (by decide) (a_dec_at dc_R_laysByBecks 14 rfl) ?_
  refine ev_icmp_ge (tgt := 140) (a_dec_at dc_R_laysByBecks 15 rfl) (by decide) (fun b1 => ?_) (fun b1 => ?_)
  · have H := H.1 b1
    refine ev_goto (tgt := 6) (a_dec_at dc_R_laysByBecks 80 rfl) (by decide) ?_
    exact Ev.drop (L' := [.ref 119, .int v1, .int v2, .retAddr 0, .retAddr 0, .retAddr 0]) (And.intro rfl (And.intro rfl (And.intro rfl trivial))) H
  · have H := H.2 b1
    refine ev_aload_n (i := 0) rfl rfl (a_dec_at dc_R_laysByBecks 16 rfl) ?_
    refine m_getR (y := 129) fl_R_45 rfl sh119 (mr_119_23 _) (by decide) (a_dec_at dc_R_laysByBecks 17 rfl) ?_
    refine ev_iload_n (i := 3) rfl rfl (a_dec_at dc_R_laysByBecks 18 rfl) ?_
    obtain ⟨c2, H⟩ := H
    refine w_iald (k := v3.toNatClampNeg) sh129 c2 rfl (a_dec_at dc_R_laysByBecks 19 rfl) ?_
    refine ev_iconst (v := (-1)) rfl (a_dec_at dc_R_laysByBecks 20 rfl) ?_
    refine ev_icmp_ne (tgt := 43) (a_dec_at dc_R_laysByBecks 21 rfl) (by decide) (fun b3 => ?_) (fun b3 => ?_)
    · have H := H.1 b3
      refine ev_iconst (v := (-1)) rfl (a_dec_at dc_R_laysByBecks 27 rfl) ?_
      refine ev_goto (tgt := 52) (a_dec_at dc_R_laysByBecks 28 rfl) (by decide) ?_
      refine ev_istore (by decide) rfl (a_dec_at dc_R_laysByBecks 32 rfl) ?_
      refine ev_iload rfl (a_dec_at dc_R_laysByBecks 33 rfl) ?_
      refine ev_iconst (v := (-1)) rfl (a_dec_at dc_R_laysByBecks 34 rfl) ?_
      refine ev_icmp_ne (tgt := 63) (a_dec_at dc_R_laysByBecks 35 rfl) (by decide) (fun q => absurd rfl q) (fun _ => ?_)
      refine ev_goto (tgt := 134) (a_dec_at dc_R_laysByBecks 36 rfl) (by decide) ?_
      refine ev_iinc (v := 1) rfl rfl (by decide) rfl (a_dec_at dc_R_laysByBecks 78 rfl) ?_
      refine ev_goto (tgt := 14) (a_dec_at dc_R_laysByBecks 79 rfl) (by decide) ?_
      exact Ev.drop (L' := [.ref 119, .int v1, .int v2, .int (v3 + 1), .retAddr 0, .retAddr 0]) (And.intro rfl (And.intro rfl (And.intro rfl (And.intro rfl trivial)))) H
    · have H := H.2 b3
      refine ev_iload_n (i := 1) rfl rfl (a_dec_at dc_R_laysByBecks 22 rfl) ?_
      refine ev_i2l (a_dec_at dc_R_laysByBecks 23 rfl) ?_
      refine ev_iload_n (i := 3) rfl rfl (a_dec_at dc_R_laysByBecks 24 rfl) ?_
      refine cS2I cs_R_221 rfl (Nat.le_of_ble_eq_true rfl) (Nat.le_of_ble_eq_true rfl) (a_dec_at dc_R_laysByBecks 25 rfl) ?_
      refine CI.mono (fun x4 mi4 ml4 z4 H => ?_) H
      refine ev_if_eq (tgt := 47) (a_dec_at dc_R_laysByBecks 26 rfl) (by decide) (fun b5 => ?_) (fun b5 => ?_)
      · have H := H.1 b5
        refine ev_aload_n (i := 0) rfl rfl (a_dec_at dc_R_laysByBecks 29 rfl) ?_
        refine ev_iload_n (i := 3) rfl rfl (a_dec_at dc_R_laysByBecks 30 rfl) ?_
        refine cV1I cs_R_403 sh119 rfl (Nat.le_of_ble_eq_true rfl) (Nat.le_of_ble_eq_true rfl) (a_dec_at dc_R_laysByBecks 31 rfl) ?_
        refine CI.mono (fun x6 mi6 ml6 z6 H => ?_) H
        refine ev_istore (by decide) rfl (a_dec_at dc_R_laysByBecks 32 rfl) ?_
        refine ev_iload rfl (a_dec_at dc_R_laysByBecks 33 rfl) ?_
        refine ev_iconst (v := (-1)) rfl (a_dec_at dc_R_laysByBecks 34 rfl) ?_
        refine ev_icmp_ne (tgt := 63) (a_dec_at dc_R_laysByBecks 35 rfl) (by decide) (fun b7 => ?_) (fun b7 => ?_)
        · have H := H.1 b7
          refine ev_iconst (v := 1) rfl (a_dec_at dc_R_laysByBecks 37 rfl) ?_
          refine ev_istore_n (i := 2) rfl (by decide) rfl (a_dec_at dc_R_laysByBecks 38 rfl) ?_
          refine ev_aload_n (i := 0) rfl rfl (a_dec_at dc_R_laysByBecks 39 rfl) ?_
          refine m_getR (y := 129) fl_R_45 rfl sh119 (mr_119_23 _) (by decide) (a_dec_at dc_R_laysByBecks 40 rfl) ?_
          refine ev_iload_n (i := 3) rfl rfl (a_dec_at dc_R_laysByBecks 41 rfl) ?_
          refine ev_iload rfl (a_dec_at dc_R_laysByBecks 42 rfl) ?_
          obtain ⟨c8, H⟩ := H
          refine w_iast (k := v3.toNatClampNeg) sh129 c8 rfl (a_dec_at dc_R_laysByBecks 43 rfl) ?_
          refine ev_aload_n (i := 0) rfl rfl (a_dec_at dc_R_laysByBecks 44 rfl) ?_
          refine ev_iload rfl (a_dec_at dc_R_laysByBecks 45 rfl) ?_
          refine cV1I cs_R_349 sh119 rfl (Nat.le_of_ble_eq_true rfl) (Nat.le_of_ble_eq_true rfl) (a_dec_at dc_R_laysByBecks 46 rfl) ?_
          refine CI.mono (fun x9 mi9 ml9 z9 H => ?_) H
          refine cS1I cs_R_256 rfl (Nat.le_of_ble_eq_true rfl) (Nat.le_of_ble_eq_true rfl) (a_dec_at dc_R_laysByBecks 47 rfl) ?_
          refine CI.mono (fun x10 mi10 ml10 z10 H => ?_) H
          refine ev_aload_n (i := 0) rfl rfl (a_dec_at dc_R_laysByBecks 48 rfl) ?_
          refine m_getR (y := 120) fl_R_13 rfl sh119 (mr_119_1 _) (by decide) (a_dec_at dc_R_laysByBecks 49 rfl) ?_
          refine ev_bipush (v := 41) rfl (a_dec_at dc_R_laysByBecks 50 rfl) ?_
          refine ev_iload rfl (a_dec_at dc_R_laysByBecks 51 rfl) ?_
          refine ev_iadd (a_dec_at dc_R_laysByBecks 52 rfl) ?_
          obtain ⟨c11, H⟩ := H
          refine w_iald (k := (41 + x6).toNatClampNeg) sh120 c11 rfl (a_dec_at dc_R_laysByBecks 53 rfl) ?_
          refine ev_icmp_gt (tgt := 98) (a_dec_at dc_R_laysByBecks 54 rfl) (by decide) (fun b12 => ?_) (fun b12 => ?_)
          · have H := H.1 b12
            refine ev_aload_n (i := 0) rfl rfl (a_dec_at dc_R_laysByBecks 56 rfl) ?_
            refine ev_iload rfl (a_dec_at dc_R_laysByBecks 57 rfl) ?_
            refine ev_aload_n (i := 0) rfl rfl (a_dec_at dc_R_laysByBecks 58 rfl) ?_
            refine ev_iload rfl (a_dec_at dc_R_laysByBecks 59 rfl) ?_
            refine cV1I cs_R_349 sh119 rfl (Nat.le_of_ble_eq_true rfl) (Nat.le_of_ble_eq_true rfl) (a_dec_at dc_R_laysByBecks 60 rfl) ?_
            refine CI.mono (fun x13 mi13 ml13 z13 H => ?_) H
            refine cV2I cs_R_252 sh119 rfl (Nat.le_of_ble_eq_true rfl) (Nat.le_of_ble_eq_true rfl) (a_dec_at dc_R_laysByBecks 61 rfl) ?_
            refine CI.mono (fun x14 mi14 ml14 z14 H => ?_) H
            refine ev_istore (by decide) rfl (a_dec_at dc_R_laysByBecks 62 rfl) ?_
            refine ev_aload_n (i := 0) rfl rfl (a_dec_at dc_R_laysByBecks 63 rfl) ?_
            refine m_getR (y := 129) fl_R_45 rfl sh119 (mr_119_23 _) (by decide) (a_dec_at dc_R_laysByBecks 64 rfl) ?_
            refine ev_iload rfl (a_dec_at dc_R_laysByBecks 65 rfl) ?_
            refine ev_iconst (v := (-1)) rfl (a_dec_at dc_R_laysByBecks 66 rfl) ?_
            obtain ⟨c15, H⟩ := H
            refine w_iast (k := x14.toNatClampNeg) sh129 c15 rfl (a_dec_at dc_R_laysByBecks 67 rfl) ?_
            refine ev_aload_n (i := 0) rfl rfl (a_dec_at dc_R_laysByBecks 68 rfl) ?_
            refine m_getR (y := 131) fl_R_51 rfl sh119 (mr_119_26 _) (by decide) (a_dec_at dc_R_laysByBecks 69 rfl) ?_
            refine ev_iload rfl (a_dec_at dc_R_laysByBecks 70 rfl) ?_
            refine ev_dup2 rfl rfl (a_dec_at dc_R_laysByBecks 71 rfl) ?_
            obtain ⟨c16, H⟩ := H
            refine w_iald (k := x14.toNatClampNeg) sh131 c16 rfl (a_dec_at dc_R_laysByBecks 72 rfl) ?_
            refine ev_iconst (v := 1) rfl (a_dec_at dc_R_laysByBecks 73 rfl) ?_
            refine ev_iload rfl (a_dec_at dc_R_laysByBecks 74 rfl) ?_
            refine ev_ishl (a_dec_at dc_R_laysByBecks 75 rfl) ?_
            refine ev_ior (a_dec_at dc_R_laysByBecks 76 rfl) ?_
            obtain ⟨c17, H⟩ := H
            refine w_iast (k := x14.toNatClampNeg) sh131 c17 rfl (a_dec_at dc_R_laysByBecks 77 rfl) ?_
            refine ev_iinc (v := 1) rfl rfl (by decide) rfl (a_dec_at dc_R_laysByBecks 78 rfl) ?_
            refine ev_goto (tgt := 14) (a_dec_at dc_R_laysByBecks 79 rfl) (by decide) ?_
            exact Ev.drop (L' := [.ref 119, .int v1, .int 1, .int (v3 + 1), .retAddr 0, .retAddr 0]) (And.intro rfl (And.intro rfl (And.intro rfl (And.intro rfl trivial)))) H
          · have H := H.2 b12
            refine ev_goto (tgt := 134) (a_dec_at dc_R_laysByBecks 55 rfl) (by decide) ?_
            refine ev_iinc (v := 1) rfl rfl (by decide) rfl (a_dec_at dc_R_laysByBecks 78 rfl) ?_
            refine ev_goto (tgt := 14) (a_dec_at dc_R_laysByBecks 79 rfl) (by decide) ?_
            exact Ev.drop (L' := [.ref 119, .int v1, .int 1, .int (v3 + 1), .retAddr 0, .retAddr 0]) (And.intro rfl (And.intro rfl (And.intro rfl (And.intro rfl trivial)))) H
        · have H := H.2 b7
          refine ev_goto (tgt := 134) (a_dec_at dc_R_laysByBecks 36 rfl) (by decide) ?_
          refine ev_iinc (v := 1) rfl rfl (by decide) rfl (a_dec_at dc_R_laysByBecks 78 rfl) ?_
          refine ev_goto (tgt := 14) (a_dec_at dc_R_laysByBecks 79 rfl) (by decide) ?_
          exact Ev.drop (L' := [.ref 119, .int v1, .int v2, .int (v3 + 1), .retAddr 0, .retAddr 0]) (And.intro rfl (And.intro rfl (And.intro rfl (And.intro rfl trivial)))) H
      · have H := H.2 b5
        refine ev_iconst (v := (-1)) rfl (a_dec_at dc_R_laysByBecks 27 rfl) ?_
        refine ev_goto (tgt := 52) (a_dec_at dc_R_laysByBecks 28 rfl) (by decide) ?_
        refine ev_istore (by decide) rfl (a_dec_at dc_R_laysByBecks 32 rfl) ?_
        refine ev_iload rfl (a_dec_at dc_R_laysByBecks 33 rfl) ?_
        refine ev_iconst (v := (-1)) rfl (a_dec_at dc_R_laysByBecks 34 rfl) ?_
        refine ev_icmp_ne (tgt := 63) (a_dec_at dc_R_laysByBecks 35 rfl) (by decide) (fun q => absurd rfl q) (fun _ => ?_)
        refine ev_goto (tgt := 134) (a_dec_at dc_R_laysByBecks 36 rfl) (by decide) ?_
        refine ev_iinc (v := 1) rfl rfl (by decide) rfl (a_dec_at dc_R_laysByBecks 78 rfl) ?_
        refine ev_goto (tgt := 14) (a_dec_at dc_R_laysByBecks 79 rfl) (by decide) ?_
        exact Ev.drop (L' := [.ref 119, .int v1, .int v2, .int (v3 + 1), .retAddr 0, .retAddr 0]) (And.intro rfl (And.intro rfl (And.intro rfl (And.intro rfl trivial)))) H
set_option maxRecDepth 20000 in
theorem t_R_asksRiver {l : Launch} {h : Nat} (mi : TMi) (ml : TMl) (z : Nat) (a1 : Int32) {Q : Int32 → TMi → TMl → Nat → Prop} (H : Ev l (h + 1) m_R_asksRiver 4 ([.ref 119, .int a1, .int (-1), .int 0], [], st mi ml z) (qI Q)) : CI l (h + 1) m_R_asksRiver [.ref 119, .int a1] mi ml z Q := by
  show Ev l (h + 1) m_R_asksRiver 0 ([.ref 119, .int a1, .retAddr 0, .retAddr 0], [], st mi ml z) (qI Q)
  refine ev_iconst (v := (-1)) rfl (a_dec_at dc_R_asksRiver 0 rfl) ?_
  refine ev_istore_n (i := 2) rfl (by decide) rfl (a_dec_at dc_R_asksRiver 1 rfl) ?_
  refine ev_iconst (v := 0) rfl (a_dec_at dc_R_asksRiver 2 rfl) ?_
  refine ev_istore_n (i := 3) rfl (by decide) rfl (a_dec_at dc_R_asksRiver 3 rfl) ?_
  exact Ev.drop (L' := [.ref 119, .int a1, .int (-1), .int 0]) (And.intro rfl (And.intro rfl (And.intro rfl (And.intro rfl trivial)))) H
set_option maxRecDepth 20000 in
theorem t_R_asksRiver_4 {l : Launch} {h : Nat} (mi : TMi) (ml : TMl) (z : Nat) (v1 : Int32) (v2 : Int32) (v3 : Int32) {Q : Int32 → TMi → TMl → Nat → Prop} (H : (((mi 120 2) ≤ v3 → Q v2 mi ml z) ∧ (¬ (mi 120 2) ≤ v3 → (vp_in v1 6) ∧ CI l h m_R_isIn [.long ((mi 131 v1.toNatClampNeg).toInt64), .int v3] mi ml z (fun x3 mi3 ml3 z3 => ((¬ x3 = 0 → Ev l (h + 1) m_R_asksRiver 4 ([.ref 119, .int v1, .int v2, .int (v3 + 1)], [], st mi3 ml3 z3) (qI Q)) ∧ (x3 = 0 → CI l h m_R_wouldBoth [.ref 119, .int v1, .int v3] mi3 ml3 z3 (fun x5 mi5 ml5 z5 => ((x5 = 0 → Ev l (h + 1) m_R_asksRiver 4 ([.ref 119, .int v1, .int v2, .int (v3 + 1)], [], st mi5 ml5 z5) (qI Q)) ∧ (¬ x5 = 0 → ((v2 = (-1) → Ev l (h + 1) m_R_asksRiver 4 ([.ref 119, .int v1, .int v3, .int (v3 + 1)], [], st mi5 ml5 z5) (qI Q)) ∧ (¬ v2 = (-1) → CI l h m_R_likesMore [.ref 119, .int v1, .int v3, .int v2] mi5 ml5 z5 (fun x8 mi8 ml8 z8 => ((x8 = 0 → Ev l (h + 1) m_R_asksRiver 4 ([.ref 119, .int v1, .int v2, .int (v3 + 1)], [], st mi8 ml8 z8) (qI Q)) ∧ (¬ x8 = 0 → Ev l (h + 1) m_R_asksRiver 4 ([.ref 119, .int v1, .int v3, .int (v3 + 1)], [], st mi8 ml8 z8) (qI Q))))))))))))))) : Ev l (h + 1) m_R_asksRiver 4 ([.ref 119, .int v1, .int v2, .int v3], [], st mi ml z) (qI Q) := by
  refine ev_iload_n (i := 3) rfl rfl (a_dec_at dc_R_asksRiver 4 rfl) ?_
  refine ev_aload_n (i := 0) rfl rfl (a_dec_at dc_R_asksRiver 5 rfl) ?_
  refine m_getR (y := 120) fl_R_13 rfl sh119 (mr_119_1 _) (by decide) (a_dec_at dc_R_asksRiver 6 rfl) ?_
  refine ev_iconst (v := 2) rfl (a_dec_at dc_R_asksRiver 7 rfl) ?_
  refine w_iald (k := 2) sh120 (by unfold vp_in; decide) (by decide) (a_dec_at dc_R_asksRiver 8 rfl) ?_
  refine ev_icmp_ge (tgt := 60) (a_dec_at dc_R_asksRiver 9 rfl) (by decide) (fun b1 => ?_) (fun b1 => ?_)
  · have H := H.1 b1
    refine ev_iload_n (i := 2) rfl rfl (a_dec_at dc_R_asksRiver 36 rfl) ?_
    exact m_retI (a_dec_at dc_R_asksRiver 37 rfl) rfl rfl H
  · have H := H.2 b1
    refine ev_aload_n (i := 0) rfl rfl (a_dec_at dc_R_asksRiver 10 rfl) ?_
    refine m_getR (y := 131) fl_R_51 rfl sh119 (mr_119_26 _) (by decide) (a_dec_at dc_R_asksRiver 11 rfl) ?_
    refine ev_iload_n (i := 1) rfl rfl (a_dec_at dc_R_asksRiver 12 rfl) ?_
    obtain ⟨c2, H⟩ := H
    refine w_iald (k := v1.toNatClampNeg) sh131 c2 rfl (a_dec_at dc_R_asksRiver 13 rfl) ?_
    refine ev_i2l (a_dec_at dc_R_asksRiver 14 rfl) ?_
    refine ev_iload_n (i := 3) rfl rfl (a_dec_at dc_R_asksRiver 15 rfl) ?_
    refine cS2I cs_R_221 rfl (Nat.le_of_ble_eq_true rfl) (Nat.le_of_ble_eq_true rfl) (a_dec_at dc_R_asksRiver 16 rfl) ?_
    refine CI.mono (fun x3 mi3 ml3 z3 H => ?_) H
    refine ev_if_ne (tgt := 54) (a_dec_at dc_R_asksRiver 17 rfl) (by decide) (fun b4 => ?_) (fun b4 => ?_)
    · have H := H.1 b4
      refine ev_iinc (v := 1) rfl rfl (by decide) rfl (a_dec_at dc_R_asksRiver 34 rfl) ?_
      refine ev_goto (tgt := 4) (a_dec_at dc_R_asksRiver 35 rfl) (by decide) ?_
      exact Ev.drop (L' := [.ref 119, .int v1, .int v2, .int (v3 + 1)]) (And.intro rfl (And.intro rfl (And.intro rfl (And.intro rfl trivial)))) H
    · have H := H.2 b4
      refine ev_aload_n (i := 0) rfl rfl (a_dec_at dc_R_asksRiver 18 rfl) ?_
      refine ev_iload_n (i := 1) rfl rfl (a_dec_at dc_R_asksRiver 19 rfl) ?_
      refine ev_iload_n (i := 3) rfl rfl (a_dec_at dc_R_asksRiver 20 rfl) ?_
      refine cV2I cs_R_229 sh119 rfl (Nat.le_of_ble_eq_true rfl) (Nat.le_of_ble_eq_true rfl) (a_dec_at dc_R_asksRiver 21 rfl) ?_
      refine CI.mono (fun x5 mi5 ml5 z5 H => ?_) H
      refine ev_if_eq (tgt := 54) (a_dec_at dc_R_asksRiver 22 rfl) (by decide) (fun b6 => ?_) (fun b6 => ?_)
      · have H := H.1 b6
        refine ev_iinc (v := 1) rfl rfl (by decide) rfl (a_dec_at dc_R_asksRiver 34 rfl) ?_
        refine ev_goto (tgt := 4) (a_dec_at dc_R_asksRiver 35 rfl) (by decide) ?_
        exact Ev.drop (L' := [.ref 119, .int v1, .int v2, .int (v3 + 1)]) (And.intro rfl (And.intro rfl (And.intro rfl (And.intro rfl trivial)))) H
      · have H := H.2 b6
        refine ev_iload_n (i := 2) rfl rfl (a_dec_at dc_R_asksRiver 23 rfl) ?_
        refine ev_iconst (v := (-1)) rfl (a_dec_at dc_R_asksRiver 24 rfl) ?_
        refine ev_icmp_eq (tgt := 52) (a_dec_at dc_R_asksRiver 25 rfl) (by decide) (fun b7 => ?_) (fun b7 => ?_)
        · have H := H.1 b7
          refine ev_iload_n (i := 3) rfl rfl (a_dec_at dc_R_asksRiver 32 rfl) ?_
          refine ev_istore_n (i := 2) rfl (by decide) rfl (a_dec_at dc_R_asksRiver 33 rfl) ?_
          refine ev_iinc (v := 1) rfl rfl (by decide) rfl (a_dec_at dc_R_asksRiver 34 rfl) ?_
          refine ev_goto (tgt := 4) (a_dec_at dc_R_asksRiver 35 rfl) (by decide) ?_
          exact Ev.drop (L' := [.ref 119, .int v1, .int v3, .int (v3 + 1)]) (And.intro rfl (And.intro rfl (And.intro rfl (And.intro rfl trivial)))) H
        · have H := H.2 b7
          refine ev_aload_n (i := 0) rfl rfl (a_dec_at dc_R_asksRiver 26 rfl) ?_
          refine ev_iload_n (i := 1) rfl rfl (a_dec_at dc_R_asksRiver 27 rfl) ?_
          refine ev_iload_n (i := 3) rfl rfl (a_dec_at dc_R_asksRiver 28 rfl) ?_
          refine ev_iload_n (i := 2) rfl rfl (a_dec_at dc_R_asksRiver 29 rfl) ?_
          refine cV3I cs_R_346 sh119 rfl (Nat.le_of_ble_eq_true rfl) (Nat.le_of_ble_eq_true rfl) (a_dec_at dc_R_asksRiver 30 rfl) ?_
          refine CI.mono (fun x8 mi8 ml8 z8 H => ?_) H
          refine ev_if_eq (tgt := 54) (a_dec_at dc_R_asksRiver 31 rfl) (by decide) (fun b9 => ?_) (fun b9 => ?_)
          · have H := H.1 b9
            refine ev_iinc (v := 1) rfl rfl (by decide) rfl (a_dec_at dc_R_asksRiver 34 rfl) ?_
            refine ev_goto (tgt := 4) (a_dec_at dc_R_asksRiver 35 rfl) (by decide) ?_
            exact Ev.drop (L' := [.ref 119, .int v1, .int v2, .int (v3 + 1)]) (And.intro rfl (And.intro rfl (And.intro rfl (And.intro rfl trivial)))) H
          · have H := H.2 b9
            refine ev_iload_n (i := 3) rfl rfl (a_dec_at dc_R_asksRiver 32 rfl) ?_
            refine ev_istore_n (i := 2) rfl (by decide) rfl (a_dec_at dc_R_asksRiver 33 rfl) ?_
            refine ev_iinc (v := 1) rfl rfl (by decide) rfl (a_dec_at dc_R_asksRiver 34 rfl) ?_
            refine ev_goto (tgt := 4) (a_dec_at dc_R_asksRiver 35 rfl) (by decide) ?_
            exact Ev.drop (L' := [.ref 119, .int v1, .int v3, .int (v3 + 1)]) (And.intro rfl (And.intro rfl (And.intro rfl (And.intro rfl trivial)))) H
set_option maxRecDepth 20000 in
theorem t_R_floods {l : Launch} {h : Nat} (mi : TMi) (ml : TMl) (z : Nat) {Q : Int32 → TMi → TMl → Nat → Prop} (H : CI l h m_R_floodSet [.ref 119] (up mi 119 0 0) ml z (fun x1 mi1 ml1 z1 => Q x1 mi1 ml1 z1)) : CI l (h + 1) m_R_floods [.ref 119] mi ml z Q := by
  show Ev l (h + 1) m_R_floods 0 ([.ref 119], [], st mi ml z) (qI Q)
  refine ev_aload_n (i := 0) rfl rfl (a_dec_at dc_R_floods 0 rfl) ?_
  refine ev_iconst (v := 0) rfl (a_dec_at dc_R_floods 1 rfl) ?_
  refine m_putI fl_R_1 rfl (fun _ _ _ h => by cases h; exact Or.inl rfl) sh119 (a_dec_at dc_R_floods 2 rfl) ?_
  refine ev_aload_n (i := 0) rfl rfl (a_dec_at dc_R_floods 3 rfl) ?_
  refine cV0I cs_R_328 sh119 rfl (Nat.le_of_ble_eq_true rfl) (Nat.le_of_ble_eq_true rfl) (a_dec_at dc_R_floods 4 rfl) ?_
  refine CI.mono (fun x1 mi1 ml1 z1 H => ?_) H
  exact m_retI (a_dec_at dc_R_floods 5 rfl) rfl rfl H
set_option maxRecDepth 20000 in
theorem t_R_turnOff {l : Launch} {h : Nat} (mi : TMi) (ml : TMl) (z : Nat) (a1 : Int32) {Q : Int32 → TMi → TMl → Nat → Prop} (H : CI l h m_R_within [.long a1.toInt64, .long 0, .long 1] (up mi 119 0 0) ml z (fun x1 mi1 ml1 z1 => ((¬ x1 = 0 → CV l h m_R_keeps [.ref 119] mi1 ml1 z1 (fun mi3 ml3 z3 => Ev l (h + 1) m_R_turnOff 26 ([.ref 119, .int a1, .int (-1), .int 0, .retAddr 0], [], st mi3 ml3 z3) (qI Q))) ∧ (x1 = 0 → Q (-2) mi1 ml1 z1)))) : CI l (h + 1) m_R_turnOff [.ref 119, .int a1] mi ml z Q := by
  show Ev l (h + 1) m_R_turnOff 0 ([.ref 119, .int a1, .retAddr 0, .retAddr 0, .retAddr 0], [], st mi ml z) (qI Q)
  refine ev_aload_n (i := 0) rfl rfl (a_dec_at dc_R_turnOff 0 rfl) ?_
  refine ev_iconst (v := 0) rfl (a_dec_at dc_R_turnOff 1 rfl) ?_
  refine m_putI fl_R_1 rfl (fun _ _ _ h => by cases h; exact Or.inl rfl) sh119 (a_dec_at dc_R_turnOff 2 rfl) ?_
  refine ev_iload_n (i := 1) rfl rfl (a_dec_at dc_R_turnOff 3 rfl) ?_
  refine ev_i2l (a_dec_at dc_R_turnOff 4 rfl) ?_
  refine ev_lconst (v := 0) rfl (a_dec_at dc_R_turnOff 5 rfl) ?_
  refine ev_lconst (v := 1) rfl (a_dec_at dc_R_turnOff 6 rfl) ?_
  refine cS3I cs_R_139 rfl (Nat.le_of_ble_eq_true rfl) (Nat.le_of_ble_eq_true rfl) (a_dec_at dc_R_turnOff 7 rfl) ?_
  refine CI.mono (fun x1 mi1 ml1 z1 H => ?_) H
  refine ev_if_ne (tgt := 18) (a_dec_at dc_R_turnOff 8 rfl) (by decide) (fun b2 => ?_) (fun b2 => ?_)
  · have H := H.1 b2
    refine ev_aload_n (i := 0) rfl rfl (a_dec_at dc_R_turnOff 11 rfl) ?_
    refine cV0V cs_R_271 sh119 rfl (Nat.le_of_ble_eq_true rfl) (Nat.le_of_ble_eq_true rfl) (a_dec_at dc_R_turnOff 12 rfl) ?_
    refine CV.mono (fun mi3 ml3 z3 H => ?_) H
    refine ev_iconst (v := (-1)) rfl (a_dec_at dc_R_turnOff 13 rfl) ?_
    refine ev_istore_n (i := 2) rfl (by decide) rfl (a_dec_at dc_R_turnOff 14 rfl) ?_
    refine ev_iconst (v := 0) rfl (a_dec_at dc_R_turnOff 15 rfl) ?_
    refine ev_istore_n (i := 3) rfl (by decide) rfl (a_dec_at dc_R_turnOff 16 rfl) ?_
    exact Ev.drop (L' := [.ref 119, .int a1, .int (-1), .int 0, .retAddr 0]) (And.intro rfl (And.intro rfl (And.intro rfl (And.intro rfl trivial)))) H
  · have H := H.2 b2
    refine ev_bipush (v := (-2)) rfl (a_dec_at dc_R_turnOff 9 rfl) ?_
    exact m_retI (a_dec_at dc_R_turnOff 10 rfl) rfl rfl H
set_option maxRecDepth 20000 in
theorem t_R_turnOff_26 {l : Launch} {h : Nat} (mi : TMi) (ml : TMl) (z : Nat) (v1 : Int32) (v2 : Int32) (v3 : Int32) {Q : Int32 → TMi → TMl → Nat → Prop} (H : ((((1 : Int32) <<< ((mi 120 1) &&& 31)) ≤ v3 → ((¬ v1 = 1 → CI l h m_R_bitsOf [.int v2] mi ml z (fun x3 mi3 ml3 z3 => Q x3 mi3 ml3 z3)) ∧ (v1 = 1 → Q v2 mi ml z))) ∧ (¬ ((1 : Int32) <<< ((mi 120 1) &&& 31)) ≤ v3 → ((v2 = (-1) → Ev l (h + 1) m_R_turnOff 60 ([.ref 119, .int v1, .int v2, .int v3, .int 0], [], st mi ml z) (qI Q)) ∧ (¬ v2 = (-1) → CI l h m_R_bitsOf [.int v3] mi ml z (fun x5 mi5 ml5 z5 => CI l h m_R_bitsOf [.int v2] mi5 ml5 z5 (fun x6 mi6 ml6 z6 => ((x5 < x6 → Ev l (h + 1) m_R_turnOff 60 ([.ref 119, .int v1, .int v2, .int v3, .int 0], [], st mi6 ml6 z6) (qI Q)) ∧ (¬ x5 < x6 → Ev l (h + 1) m_R_turnOff 26 ([.ref 119, .int v1, .int v2, .int (v3 + 1), .retAddr 0], [], st mi6 ml6 z6) (qI Q)))))))))) : Ev l (h + 1) m_R_turnOff 26 ([.ref 119, .int v1, .int v2, .int v3, .retAddr 0], [], st mi ml z) (qI Q) := by
  refine ev_iload_n (i := 3) rfl rfl (a_dec_at dc_R_turnOff 17 rfl) ?_
  refine ev_iconst (v := 1) rfl (a_dec_at dc_R_turnOff 18 rfl) ?_
  refine ev_aload_n (i := 0) rfl rfl (a_dec_at dc_R_turnOff 19 rfl) ?_
  refine m_getR (y := 120) fl_R_13 rfl sh119 (mr_119_1 _) (by decide) (a_dec_at dc_R_turnOff 20 rfl) ?_
  refine ev_iconst (v := 1) rfl (a_dec_at dc_R_turnOff 21 rfl) ?_
  refine w_iald (k := 1) sh120 (by unfold vp_in; decide) (by decide) (a_dec_at dc_R_turnOff 22 rfl) ?_
  refine ev_ishl (a_dec_at dc_R_turnOff 23 rfl) ?_
  refine ev_icmp_ge (tgt := 117) (a_dec_at dc_R_turnOff 24 rfl) (by decide) (fun b1 => ?_) (fun b1 => ?_)
  · have H := H.1 b1
    refine ev_iload_n (i := 1) rfl rfl (a_dec_at dc_R_turnOff 65 rfl) ?_
    refine ev_iconst (v := 1) rfl (a_dec_at dc_R_turnOff 66 rfl) ?_
    refine ev_icmp_ne (tgt := 126) (a_dec_at dc_R_turnOff 67 rfl) (by decide) (fun b2 => ?_) (fun b2 => ?_)
    · have H := H.1 b2
      refine ev_iload_n (i := 2) rfl rfl (a_dec_at dc_R_turnOff 70 rfl) ?_
      refine cS1I cs_R_256 rfl (Nat.le_of_ble_eq_true rfl) (Nat.le_of_ble_eq_true rfl) (a_dec_at dc_R_turnOff 71 rfl) ?_
      refine CI.mono (fun x3 mi3 ml3 z3 H => ?_) H
      exact m_retI (a_dec_at dc_R_turnOff 72 rfl) rfl rfl H
    · have H := H.2 b2
      refine ev_iload_n (i := 2) rfl rfl (a_dec_at dc_R_turnOff 68 rfl) ?_
      refine ev_goto (tgt := 130) (a_dec_at dc_R_turnOff 69 rfl) (by decide) ?_
      exact m_retI (a_dec_at dc_R_turnOff 72 rfl) rfl rfl H
  · have H := H.2 b1
    refine ev_iload_n (i := 2) rfl rfl (a_dec_at dc_R_turnOff 25 rfl) ?_
    refine ev_iconst (v := (-1)) rfl (a_dec_at dc_R_turnOff 26 rfl) ?_
    refine ev_icmp_eq (tgt := 57) (a_dec_at dc_R_turnOff 27 rfl) (by decide) (fun b4 => ?_) (fun b4 => ?_)
    · have H := H.1 b4
      refine ev_iconst (v := 0) rfl (a_dec_at dc_R_turnOff 34 rfl) ?_
      refine ev_istore (by decide) rfl (a_dec_at dc_R_turnOff 35 rfl) ?_
      exact Ev.drop (L' := [.ref 119, .int v1, .int v2, .int v3, .int 0]) (And.intro rfl (And.intro rfl (And.intro rfl (And.intro rfl (And.intro rfl trivial))))) H
    · have H := H.2 b4
      refine ev_iload_n (i := 3) rfl rfl (a_dec_at dc_R_turnOff 28 rfl) ?_
      refine cS1I cs_R_256 rfl (Nat.le_of_ble_eq_true rfl) (Nat.le_of_ble_eq_true rfl) (a_dec_at dc_R_turnOff 29 rfl) ?_
      refine CI.mono (fun x5 mi5 ml5 z5 H => ?_) H
      refine ev_iload_n (i := 2) rfl rfl (a_dec_at dc_R_turnOff 30 rfl) ?_
      refine cS1I cs_R_256 rfl (Nat.le_of_ble_eq_true rfl) (Nat.le_of_ble_eq_true rfl) (a_dec_at dc_R_turnOff 31 rfl) ?_
      refine CI.mono (fun x6 mi6 ml6 z6 H => ?_) H
      refine ev_icmp_lt (tgt := 57) (a_dec_at dc_R_turnOff 32 rfl) (by decide) (fun b7 => ?_) (fun b7 => ?_)
      · have H := H.1 b7
        refine ev_iconst (v := 0) rfl (a_dec_at dc_R_turnOff 34 rfl) ?_
        refine ev_istore (by decide) rfl (a_dec_at dc_R_turnOff 35 rfl) ?_
        exact Ev.drop (L' := [.ref 119, .int v1, .int v2, .int v3, .int 0]) (And.intro rfl (And.intro rfl (And.intro rfl (And.intro rfl (And.intro rfl trivial))))) H
      · have H := H.2 b7
        refine ev_goto (tgt := 111) (a_dec_at dc_R_turnOff 33 rfl) (by decide) ?_
        refine ev_iinc (v := 1) rfl rfl (by decide) rfl (a_dec_at dc_R_turnOff 63 rfl) ?_
        refine ev_goto (tgt := 26) (a_dec_at dc_R_turnOff 64 rfl) (by decide) ?_
        exact Ev.drop (L' := [.ref 119, .int v1, .int v2, .int (v3 + 1), .retAddr 0]) (And.intro rfl (And.intro rfl (And.intro rfl (And.intro rfl trivial)))) H
set_option maxRecDepth 20000 in
theorem t_R_turnOff_60 {l : Launch} {h : Nat} (mi : TMi) (ml : TMl) (z : Nat) (v1 : Int32) (v2 : Int32) (v3 : Int32) (v4 : Int32) {Q : Int32 → TMi → TMl → Nat → Prop} (H : (((mi 120 1) ≤ v4 → CI l h m_R_floodSet [.ref 119] mi ml z (fun x2 mi2 ml2 z2 => ((¬ x2 = 0 → CV l h m_R_isAgain [.ref 119] mi2 ml2 z2 (fun mi4 ml4 z4 => Ev l (h + 1) m_R_turnOff 26 ([.ref 119, .int v1, .int v2, .int (v3 + 1), .retAddr 0], [], st mi4 ml4 z4) (qI Q))) ∧ (x2 = 0 → CV l h m_R_isAgain [.ref 119] mi2 ml2 z2 (fun mi5 ml5 z5 => Ev l (h + 1) m_R_turnOff 26 ([.ref 119, .int v1, .int v3, .int (v3 + 1), .retAddr 0], [], st mi5 ml5 z5) (qI Q)))))) ∧ (¬ (mi 120 1) ≤ v4 → CI l h m_R_isIn [.long v3.toInt64, .int v4] mi ml z (fun x6 mi6 ml6 z6 => ((x6 = 0 → Ev l (h + 1) m_R_turnOff 60 ([.ref 119, .int v1, .int v2, .int v3, .int (v4 + 1)], [], st mi6 ml6 z6) (qI Q)) ∧ (¬ x6 = 0 → (vp_in (29 + v4) 4113) ∧ Ev l (h + 1) m_R_turnOff 60 ([.ref 119, .int v1, .int v2, .int v3, .int (v4 + 1)], [], st (up mi6 120 ((29 + v4).toNatClampNeg) (-1)) ml6 z6) (qI Q))))))) : Ev l (h + 1) m_R_turnOff 60 ([.ref 119, .int v1, .int v2, .int v3, .int v4], [], st mi ml z) (qI Q) := by
  refine ev_iload rfl (a_dec_at dc_R_turnOff 36 rfl) ?_
  refine ev_aload_n (i := 0) rfl rfl (a_dec_at dc_R_turnOff 37 rfl) ?_
  refine m_getR (y := 120) fl_R_13 rfl sh119 (mr_119_1 _) (by decide) (a_dec_at dc_R_turnOff 38 rfl) ?_
  refine ev_iconst (v := 1) rfl (a_dec_at dc_R_turnOff 39 rfl) ?_
  refine w_iald (k := 1) sh120 (by unfold vp_in; decide) (by decide) (a_dec_at dc_R_turnOff 40 rfl) ?_
  refine ev_icmp_ge (tgt := 98) (a_dec_at dc_R_turnOff 41 rfl) (by decide) (fun b1 => ?_) (fun b1 => ?_)
  · have H := H.1 b1
    refine ev_aload_n (i := 0) rfl rfl (a_dec_at dc_R_turnOff 56 rfl) ?_
    refine cV0I cs_R_328 sh119 rfl (Nat.le_of_ble_eq_true rfl) (Nat.le_of_ble_eq_true rfl) (a_dec_at dc_R_turnOff 57 rfl) ?_
    refine CI.mono (fun x2 mi2 ml2 z2 H => ?_) H
    refine ev_if_ne (tgt := 107) (a_dec_at dc_R_turnOff 58 rfl) (by decide) (fun b3 => ?_) (fun b3 => ?_)
    · have H := H.1 b3
      refine ev_aload_n (i := 0) rfl rfl (a_dec_at dc_R_turnOff 61 rfl) ?_
      refine cV0V cs_R_331 sh119 rfl (Nat.le_of_ble_eq_true rfl) (Nat.le_of_ble_eq_true rfl) (a_dec_at dc_R_turnOff 62 rfl) ?_
      refine CV.mono (fun mi4 ml4 z4 H => ?_) H
      refine ev_iinc (v := 1) rfl rfl (by decide) rfl (a_dec_at dc_R_turnOff 63 rfl) ?_
      refine ev_goto (tgt := 26) (a_dec_at dc_R_turnOff 64 rfl) (by decide) ?_
      exact Ev.drop (L' := [.ref 119, .int v1, .int v2, .int (v3 + 1), .retAddr 0]) (And.intro rfl (And.intro rfl (And.intro rfl (And.intro rfl trivial)))) H
    · have H := H.2 b3
      refine ev_iload_n (i := 3) rfl rfl (a_dec_at dc_R_turnOff 59 rfl) ?_
      refine ev_istore_n (i := 2) rfl (by decide) rfl (a_dec_at dc_R_turnOff 60 rfl) ?_
      refine ev_aload_n (i := 0) rfl rfl (a_dec_at dc_R_turnOff 61 rfl) ?_
      refine cV0V cs_R_331 sh119 rfl (Nat.le_of_ble_eq_true rfl) (Nat.le_of_ble_eq_true rfl) (a_dec_at dc_R_turnOff 62 rfl) ?_
      refine CV.mono (fun mi5 ml5 z5 H => ?_) H
      refine ev_iinc (v := 1) rfl rfl (by decide) rfl (a_dec_at dc_R_turnOff 63 rfl) ?_
      refine ev_goto (tgt := 26) (a_dec_at dc_R_turnOff 64 rfl) (by decide) ?_
      exact Ev.drop (L' := [.ref 119, .int v1, .int v3, .int (v3 + 1), .retAddr 0]) (And.intro rfl (And.intro rfl (And.intro rfl (And.intro rfl trivial)))) H
  · have H := H.2 b1
    refine ev_iload_n (i := 3) rfl rfl (a_dec_at dc_R_turnOff 42 rfl) ?_
    refine ev_i2l (a_dec_at dc_R_turnOff 43 rfl) ?_
    refine ev_iload rfl (a_dec_at dc_R_turnOff 44 rfl) ?_
    refine cS2I cs_R_221 rfl (Nat.le_of_ble_eq_true rfl) (Nat.le_of_ble_eq_true rfl) (a_dec_at dc_R_turnOff 45 rfl) ?_
    refine CI.mono (fun x6 mi6 ml6 z6 H => ?_) H
    refine ev_if_eq (tgt := 92) (a_dec_at dc_R_turnOff 46 rfl) (by decide) (fun b7 => ?_) (fun b7 => ?_)
    · have H := H.1 b7
      refine ev_iinc (v := 1) rfl rfl (by decide) rfl (a_dec_at dc_R_turnOff 54 rfl) ?_
      refine ev_goto (tgt := 60) (a_dec_at dc_R_turnOff 55 rfl) (by decide) ?_
      exact Ev.drop (L' := [.ref 119, .int v1, .int v2, .int v3, .int (v4 + 1)]) (And.intro rfl (And.intro rfl (And.intro rfl (And.intro rfl (And.intro rfl trivial))))) H
    · have H := H.2 b7
      refine ev_aload_n (i := 0) rfl rfl (a_dec_at dc_R_turnOff 47 rfl) ?_
      refine m_getR (y := 120) fl_R_13 rfl sh119 (mr_119_1 _) (by decide) (a_dec_at dc_R_turnOff 48 rfl) ?_
      refine ev_bipush (v := 29) rfl (a_dec_at dc_R_turnOff 49 rfl) ?_
      refine ev_iload rfl (a_dec_at dc_R_turnOff 50 rfl) ?_
      refine ev_iadd (a_dec_at dc_R_turnOff 51 rfl) ?_
      refine ev_iconst (v := (-1)) rfl (a_dec_at dc_R_turnOff 52 rfl) ?_
      obtain ⟨c8, H⟩ := H
      refine w_iast (k := (29 + v4).toNatClampNeg) sh120 c8 rfl (a_dec_at dc_R_turnOff 53 rfl) ?_
      refine ev_iinc (v := 1) rfl rfl (by decide) rfl (a_dec_at dc_R_turnOff 54 rfl) ?_
      refine ev_goto (tgt := 60) (a_dec_at dc_R_turnOff 55 rfl) (by decide) ?_
      exact Ev.drop (L' := [.ref 119, .int v1, .int v2, .int v3, .int (v4 + 1)]) (And.intro rfl (And.intro rfl (And.intro rfl (And.intro rfl (And.intro rfl trivial))))) H
set_option maxRecDepth 20000 in
theorem t_R_bearing {l : Launch} {h : Nat} (mi : TMi) (ml : TMl) (z : Nat) (a1 : Int32) {Q : Int32 → TMi → TMl → Nat → Prop} (H : CI l h m_R_isRiver [.ref 119, .long a1.toInt64] (up mi 119 0 0) ml z (fun x1 mi1 ml1 z1 => ((¬ x1 = 0 → CV l h m_R_laysHeld [.ref 119] mi1 ml1 z1 (fun mi3 ml3 z3 => Ev l (h + 1) m_R_bearing 25 ([.ref 119, .int a1, .int 0, .int 0, .retAddr 0], [], st mi3 ml3 z3) (qI Q))) ∧ (x1 = 0 → Q (-2) mi1 ml1 z1)))) : CI l (h + 1) m_R_bearing [.ref 119, .int a1] mi ml z Q := by
  show Ev l (h + 1) m_R_bearing 0 ([.ref 119, .int a1, .retAddr 0, .retAddr 0, .retAddr 0], [], st mi ml z) (qI Q)
  refine ev_aload_n (i := 0) rfl rfl (a_dec_at dc_R_bearing 0 rfl) ?_
  refine ev_iconst (v := 0) rfl (a_dec_at dc_R_bearing 1 rfl) ?_
  refine m_putI fl_R_1 rfl (fun _ _ _ h => by cases h; exact Or.inl rfl) sh119 (a_dec_at dc_R_bearing 2 rfl) ?_
  refine ev_aload_n (i := 0) rfl rfl (a_dec_at dc_R_bearing 3 rfl) ?_
  refine ev_iload_n (i := 1) rfl rfl (a_dec_at dc_R_bearing 4 rfl) ?_
  refine ev_i2l (a_dec_at dc_R_bearing 5 rfl) ?_
  refine cV1I cs_R_243 sh119 rfl (Nat.le_of_ble_eq_true rfl) (Nat.le_of_ble_eq_true rfl) (a_dec_at dc_R_bearing 6 rfl) ?_
  refine CI.mono (fun x1 mi1 ml1 z1 H => ?_) H
  refine ev_if_ne (tgt := 17) (a_dec_at dc_R_bearing 7 rfl) (by decide) (fun b2 => ?_) (fun b2 => ?_)
  · have H := H.1 b2
    refine ev_aload_n (i := 0) rfl rfl (a_dec_at dc_R_bearing 10 rfl) ?_
    refine cV0V cs_R_380 sh119 rfl (Nat.le_of_ble_eq_true rfl) (Nat.le_of_ble_eq_true rfl) (a_dec_at dc_R_bearing 11 rfl) ?_
    refine CV.mono (fun mi3 ml3 z3 H => ?_) H
    refine ev_iconst (v := 0) rfl (a_dec_at dc_R_bearing 12 rfl) ?_
    refine ev_istore_n (i := 2) rfl (by decide) rfl (a_dec_at dc_R_bearing 13 rfl) ?_
    refine ev_iconst (v := 0) rfl (a_dec_at dc_R_bearing 14 rfl) ?_
    refine ev_istore_n (i := 3) rfl (by decide) rfl (a_dec_at dc_R_bearing 15 rfl) ?_
    exact Ev.drop (L' := [.ref 119, .int a1, .int 0, .int 0, .retAddr 0]) (And.intro rfl (And.intro rfl (And.intro rfl (And.intro rfl trivial)))) H
  · have H := H.2 b2
    refine ev_bipush (v := (-2)) rfl (a_dec_at dc_R_bearing 8 rfl) ?_
    exact m_retI (a_dec_at dc_R_bearing 9 rfl) rfl rfl H
set_option maxRecDepth 20000 in
theorem t_R_bearing_25 {l : Launch} {h : Nat} (mi : TMi) (ml : TMl) (z : Nat) (v1 : Int32) (v2 : Int32) (v3 : Int32) {Q : Int32 → TMi → TMl → Nat → Prop} (H : (((mi 119 25) ≤ v3 → Q v2 mi ml z) ∧ (¬ (mi 119 25) ≤ v3 → (vp_in v3 15625) ∧ CI l h m_R_laysChoice [.ref 119, .int (mi 130 v3.toNatClampNeg)] mi ml z (fun x3 mi3 ml3 z3 => CI l h m_R_becksBy [.ref 119, .int v1] mi3 ml3 z3 (fun x4 mi4 ml4 z4 => CI l h m_R_flowOf [.ref 119, .int x4] mi4 ml4 z4 (fun x5 mi5 ml5 z5 => ((x5 ≤ v2 → Ev l (h + 1) m_R_bearing 25 ([.ref 119, .int v1, .int v2, .int (v3 + 1), .retAddr 0], [], st mi5 ml5 z5) (qI Q)) ∧ (¬ x5 ≤ v2 → Ev l (h + 1) m_R_bearing 25 ([.ref 119, .int v1, .int x5, .int (v3 + 1), .retAddr 0], [], st mi5 ml5 z5) (qI Q))))))))) : Ev l (h + 1) m_R_bearing 25 ([.ref 119, .int v1, .int v2, .int v3, .retAddr 0], [], st mi ml z) (qI Q) := by
  refine ev_iload_n (i := 3) rfl rfl (a_dec_at dc_R_bearing 16 rfl) ?_
  refine ev_aload_n (i := 0) rfl rfl (a_dec_at dc_R_bearing 17 rfl) ?_
  refine m_getI fl_R_365 rfl sh119 (a_dec_at dc_R_bearing 18 rfl) ?_
  refine ev_icmp_ge (tgt := 74) (a_dec_at dc_R_bearing 19 rfl) (by decide) (fun b1 => ?_) (fun b1 => ?_)
  · have H := H.1 b1
    refine ev_iload_n (i := 2) rfl rfl (a_dec_at dc_R_bearing 42 rfl) ?_
    exact m_retI (a_dec_at dc_R_bearing 43 rfl) rfl rfl H
  · have H := H.2 b1
    refine ev_aload_n (i := 0) rfl rfl (a_dec_at dc_R_bearing 20 rfl) ?_
    refine ev_aload_n (i := 0) rfl rfl (a_dec_at dc_R_bearing 21 rfl) ?_
    refine m_getR (y := 130) fl_R_48 rfl sh119 (mr_119_24 _) (by decide) (a_dec_at dc_R_bearing 22 rfl) ?_
    refine ev_iload_n (i := 3) rfl rfl (a_dec_at dc_R_bearing 23 rfl) ?_
    obtain ⟨c2, H⟩ := H
    refine w_iald (k := v3.toNatClampNeg) sh130 c2 rfl (a_dec_at dc_R_bearing 24 rfl) ?_
    refine cV1I cs_R_371 sh119 rfl (Nat.le_of_ble_eq_true rfl) (Nat.le_of_ble_eq_true rfl) (a_dec_at dc_R_bearing 25 rfl) ?_
    refine CI.mono (fun x3 mi3 ml3 z3 H => ?_) H
    refine ev_pop rfl (a_dec_at dc_R_bearing 26 rfl) ?_
    refine ev_aload_n (i := 0) rfl rfl (a_dec_at dc_R_bearing 27 rfl) ?_
    refine ev_aload_n (i := 0) rfl rfl (a_dec_at dc_R_bearing 28 rfl) ?_
    refine ev_iload_n (i := 1) rfl rfl (a_dec_at dc_R_bearing 29 rfl) ?_
    refine cV1I cs_R_349 sh119 rfl (Nat.le_of_ble_eq_true rfl) (Nat.le_of_ble_eq_true rfl) (a_dec_at dc_R_bearing 30 rfl) ?_
    refine CI.mono (fun x4 mi4 ml4 z4 H => ?_) H
    refine cV1I cs_R_249 sh119 rfl (Nat.le_of_ble_eq_true rfl) (Nat.le_of_ble_eq_true rfl) (a_dec_at dc_R_bearing 31 rfl) ?_
    refine CI.mono (fun x5 mi5 ml5 z5 H => ?_) H
    refine ev_istore (by decide) rfl (a_dec_at dc_R_bearing 32 rfl) ?_
    refine ev_iload rfl (a_dec_at dc_R_bearing 33 rfl) ?_
    refine ev_iload_n (i := 2) rfl rfl (a_dec_at dc_R_bearing 34 rfl) ?_
    refine ev_icmp_le (tgt := 66) (a_dec_at dc_R_bearing 35 rfl) (by decide) (fun b6 => ?_) (fun b6 => ?_)
    · have H := H.1 b6
      refine ev_iload_n (i := 2) rfl rfl (a_dec_at dc_R_bearing 38 rfl) ?_
      refine ev_istore_n (i := 2) rfl (by decide) rfl (a_dec_at dc_R_bearing 39 rfl) ?_
      refine ev_iinc (v := 1) rfl rfl (by decide) rfl (a_dec_at dc_R_bearing 40 rfl) ?_
      refine ev_goto (tgt := 25) (a_dec_at dc_R_bearing 41 rfl) (by decide) ?_
      exact Ev.drop (L' := [.ref 119, .int v1, .int v2, .int (v3 + 1), .retAddr 0]) (And.intro rfl (And.intro rfl (And.intro rfl (And.intro rfl trivial)))) H
    · have H := H.2 b6
      refine ev_iload rfl (a_dec_at dc_R_bearing 36 rfl) ?_
      refine ev_goto (tgt := 67) (a_dec_at dc_R_bearing 37 rfl) (by decide) ?_
      refine ev_istore_n (i := 2) rfl (by decide) rfl (a_dec_at dc_R_bearing 39 rfl) ?_
      refine ev_iinc (v := 1) rfl rfl (by decide) rfl (a_dec_at dc_R_bearing 40 rfl) ?_
      refine ev_goto (tgt := 25) (a_dec_at dc_R_bearing 41 rfl) (by decide) ?_
      exact Ev.drop (L' := [.ref 119, .int v1, .int x5, .int (v3 + 1), .retAddr 0]) (And.intro rfl (And.intro rfl (And.intro rfl (And.intro rfl trivial)))) H
set_option maxRecDepth 20000 in
theorem t_R_marks {l : Launch} {h : Nat} (mi : TMi) (ml : TMl) (z : Nat) (a1 : Int32) (a2 : Int32) {Q : Int32 → TMi → TMl → Nat → Prop} (H : CI l h m_R_noAnswers [.ref 119, .int a1, .int a2] (up mi 119 0 0) ml z (fun x1 mi1 ml1 z1 => ((x1 = 0 → CI l h m_R_marksOf [.ref 119, .int a1, .int a2] mi1 ml1 z1 (fun x3 mi3 ml3 z3 => Q x3 mi3 ml3 z3)) ∧ (¬ x1 = 0 → Q x1 mi1 ml1 z1)))) : CI l (h + 1) m_R_marks [.ref 119, .int a1, .int a2] mi ml z Q := by
  show Ev l (h + 1) m_R_marks 0 ([.ref 119, .int a1, .int a2, .retAddr 0], [], st mi ml z) (qI Q)
  refine ev_aload_n (i := 0) rfl rfl (a_dec_at dc_R_marks 0 rfl) ?_
  refine ev_iconst (v := 0) rfl (a_dec_at dc_R_marks 1 rfl) ?_
  refine m_putI fl_R_1 rfl (fun _ _ _ h => by cases h; exact Or.inl rfl) sh119 (a_dec_at dc_R_marks 2 rfl) ?_
  refine ev_aload_n (i := 0) rfl rfl (a_dec_at dc_R_marks 3 rfl) ?_
  refine ev_iload_n (i := 1) rfl rfl (a_dec_at dc_R_marks 4 rfl) ?_
  refine ev_iload_n (i := 2) rfl rfl (a_dec_at dc_R_marks 5 rfl) ?_
  refine cV2I cs_R_430 sh119 rfl (Nat.le_of_ble_eq_true rfl) (Nat.le_of_ble_eq_true rfl) (a_dec_at dc_R_marks 6 rfl) ?_
  refine CI.mono (fun x1 mi1 ml1 z1 H => ?_) H
  refine ev_istore_n (i := 3) rfl (by decide) rfl (a_dec_at dc_R_marks 7 rfl) ?_
  refine ev_iload_n (i := 3) rfl rfl (a_dec_at dc_R_marks 8 rfl) ?_
  refine ev_if_eq (tgt := 20) (a_dec_at dc_R_marks 9 rfl) (by decide) (fun b2 => ?_) (fun b2 => ?_)
  · have H := H.1 b2
    refine ev_aload_n (i := 0) rfl rfl (a_dec_at dc_R_marks 12 rfl) ?_
    refine ev_iload_n (i := 1) rfl rfl (a_dec_at dc_R_marks 13 rfl) ?_
    refine ev_iload_n (i := 2) rfl rfl (a_dec_at dc_R_marks 14 rfl) ?_
    refine cV2I cs_R_433 sh119 rfl (Nat.le_of_ble_eq_true rfl) (Nat.le_of_ble_eq_true rfl) (a_dec_at dc_R_marks 15 rfl) ?_
    refine CI.mono (fun x3 mi3 ml3 z3 H => ?_) H
    exact m_retI (a_dec_at dc_R_marks 16 rfl) rfl rfl H
  · have H := H.2 b2
    refine ev_iload_n (i := 3) rfl rfl (a_dec_at dc_R_marks 10 rfl) ?_
    refine ev_goto (tgt := 26) (a_dec_at dc_R_marks 11 rfl) (by decide) ?_
    exact m_retI (a_dec_at dc_R_marks 16 rfl) rfl rfl H
set_option maxRecDepth 20000 in
theorem t_R_noAnswers {l : Launch} {h : Nat} (mi : TMi) (ml : TMl) (z : Nat) (a1 : Int32) (a2 : Int32) {Q : Int32 → TMi → TMl → Nat → Prop} (H : CI l h m_R_within [.long a1.toInt64, .long 0, .long 3] mi ml z (fun x1 mi1 ml1 z1 => ((x1 = 0 → Q (-2) mi1 ml1 z1) ∧ (¬ x1 = 0 → CI l h m_R_isBeck [.ref 119, .long a2.toInt64] mi1 ml1 z1 (fun x3 mi3 ml3 z3 => ((¬ x3 = 0 → CI l h m_R_noTray [.ref 119, .int a1] mi3 ml3 z3 (fun x5 mi5 ml5 z5 => ((x5 = 0 → (vp_in a1 4) ∧ (((mi5 135 a1.toNatClampNeg) = (mi5 120 1) → Ev l (h + 1) m_R_noAnswers 57 ([.ref 119, .int a1, .retAddr 0, .retAddr 0, .int 0, .retAddr 0, .retAddr 0], [], st mi5 ml5 z5) (qI Q)) ∧ (¬ (mi5 135 a1.toNatClampNeg) = (mi5 120 1) → Q (-4) mi5 ml5 z5))) ∧ (¬ x5 = 0 → Q x5 mi5 ml5 z5)))) ∧ (x3 = 0 → Q (-2) mi3 ml3 z3))))))) : CI l (h + 1) m_R_noAnswers [.ref 119, .int a1, .int a2] mi ml z Q := by
  show Ev l (h + 1) m_R_noAnswers 0 ([.ref 119, .int a1, .int a2, .retAddr 0, .retAddr 0, .retAddr 0, .retAddr 0], [], st mi ml z) (qI Q)
  refine ev_iload_n (i := 1) rfl rfl (a_dec_at dc_R_noAnswers 0 rfl) ?_
  refine ev_i2l (a_dec_at dc_R_noAnswers 1 rfl) ?_
  refine ev_lconst (v := 0) rfl (a_dec_at dc_R_noAnswers 2 rfl) ?_
  refine ev_ldc2 kc_R_320 (a_dec_at dc_R_noAnswers 3 rfl) ?_
  refine cS3I cs_R_139 rfl (Nat.le_of_ble_eq_true rfl) (Nat.le_of_ble_eq_true rfl) (a_dec_at dc_R_noAnswers 4 rfl) ?_
  refine CI.mono (fun x1 mi1 ml1 z1 H => ?_) H
  refine ev_if_eq (tgt := 21) (a_dec_at dc_R_noAnswers 5 rfl) (by decide) (fun b2 => ?_) (fun b2 => ?_)
  · have H := H.1 b2
    refine ev_bipush (v := (-2)) rfl (a_dec_at dc_R_noAnswers 11 rfl) ?_
    exact m_retI (a_dec_at dc_R_noAnswers 12 rfl) rfl rfl H
  · have H := H.2 b2
    refine ev_aload_n (i := 0) rfl rfl (a_dec_at dc_R_noAnswers 6 rfl) ?_
    refine ev_iload_n (i := 2) rfl rfl (a_dec_at dc_R_noAnswers 7 rfl) ?_
    refine ev_i2l (a_dec_at dc_R_noAnswers 8 rfl) ?_
    refine cV1I cs_R_233 sh119 rfl (Nat.le_of_ble_eq_true rfl) (Nat.le_of_ble_eq_true rfl) (a_dec_at dc_R_noAnswers 9 rfl) ?_
    refine CI.mono (fun x3 mi3 ml3 z3 H => ?_) H
    refine ev_if_ne (tgt := 24) (a_dec_at dc_R_noAnswers 10 rfl) (by decide) (fun b4 => ?_) (fun b4 => ?_)
    · have H := H.1 b4
      refine ev_aload_n (i := 0) rfl rfl (a_dec_at dc_R_noAnswers 13 rfl) ?_
      refine ev_iload_n (i := 1) rfl rfl (a_dec_at dc_R_noAnswers 14 rfl) ?_
      refine cV1I cs_R_322 sh119 rfl (Nat.le_of_ble_eq_true rfl) (Nat.le_of_ble_eq_true rfl) (a_dec_at dc_R_noAnswers 15 rfl) ?_
      refine CI.mono (fun x5 mi5 ml5 z5 H => ?_) H
      refine ev_istore_n (i := 3) rfl (by decide) rfl (a_dec_at dc_R_noAnswers 16 rfl) ?_
      refine ev_iload_n (i := 3) rfl rfl (a_dec_at dc_R_noAnswers 17 rfl) ?_
      refine ev_if_eq (tgt := 36) (a_dec_at dc_R_noAnswers 18 rfl) (by decide) (fun b6 => ?_) (fun b6 => ?_)
      · have H := H.1 b6
        refine ev_aload_n (i := 0) rfl rfl (a_dec_at dc_R_noAnswers 21 rfl) ?_
        refine m_getR (y := 135) fl_R_66 rfl sh119 (mr_119_33 _) (by decide) (a_dec_at dc_R_noAnswers 22 rfl) ?_
        refine ev_iload_n (i := 1) rfl rfl (a_dec_at dc_R_noAnswers 23 rfl) ?_
        obtain ⟨c7, H⟩ := H
        refine w_iald (k := a1.toNatClampNeg) sh135 c7 rfl (a_dec_at dc_R_noAnswers 24 rfl) ?_
        refine ev_aload_n (i := 0) rfl rfl (a_dec_at dc_R_noAnswers 25 rfl) ?_
        refine m_getR (y := 120) fl_R_13 rfl sh119 (mr_119_1 _) (by decide) (a_dec_at dc_R_noAnswers 26 rfl) ?_
        refine ev_iconst (v := 1) rfl (a_dec_at dc_R_noAnswers 27 rfl) ?_
        refine w_iald (k := 1) sh120 (by unfold vp_in; decide) (by decide) (a_dec_at dc_R_noAnswers 28 rfl) ?_
        refine ev_icmp_eq (tgt := 54) (a_dec_at dc_R_noAnswers 29 rfl) (by decide) (fun b8 => ?_) (fun b8 => ?_)
        · have H := H.1 b8
          refine ev_iconst (v := 0) rfl (a_dec_at dc_R_noAnswers 32 rfl) ?_
          refine ev_istore (by decide) rfl (a_dec_at dc_R_noAnswers 33 rfl) ?_
          exact Ev.drop (L' := [.ref 119, .int a1, .retAddr 0, .retAddr 0, .int 0, .retAddr 0, .retAddr 0]) (And.intro rfl (And.intro rfl (And.intro rfl trivial))) H
        · have H := H.2 b8
          refine ev_bipush (v := (-4)) rfl (a_dec_at dc_R_noAnswers 30 rfl) ?_
          exact m_retI (a_dec_at dc_R_noAnswers 31 rfl) rfl rfl H
      · have H := H.2 b6
        refine ev_iload_n (i := 3) rfl rfl (a_dec_at dc_R_noAnswers 19 rfl) ?_
        exact m_retI (a_dec_at dc_R_noAnswers 20 rfl) rfl rfl H
    · have H := H.2 b4
      refine ev_bipush (v := (-2)) rfl (a_dec_at dc_R_noAnswers 11 rfl) ?_
      exact m_retI (a_dec_at dc_R_noAnswers 12 rfl) rfl rfl H
set_option maxRecDepth 20000 in
theorem t_R_noAnswers_57 {l : Launch} {h : Nat} (mi : TMi) (ml : TMl) (z : Nat) (v1 : Int32) (v4 : Int32) {Q : Int32 → TMi → TMl → Nat → Prop} (H : (((mi 120 1) ≤ v4 → CI l h m_R_fitsRooms [.ref 119] mi ml z (fun x2 mi2 ml2 z2 => ((x2 = 0 → Q (-3) mi2 ml2 z2) ∧ (¬ x2 = 0 → Q 0 mi2 ml2 z2)))) ∧ (¬ (mi 120 1) ≤ v4 → (vp_in ((40 * v1) + v4) 160) ∧ (((lg_cmp (ml 136 (((40 * v1) + v4).toNatClampNeg)) (-1)) = 0 → (vp_in v4 6) ∧ Ev l (h + 1) m_R_noAnswers 57 ([.ref 119, .int v1, .retAddr 0, .retAddr 0, .int (v4 + 1), .retAddr 0, .retAddr 0], [], st (up mi 129 v4.toNatClampNeg ((ml 136 (((40 * v1) + v4).toNatClampNeg)).toInt32)) ml z) (qI Q)) ∧ (¬ (lg_cmp (ml 136 (((40 * v1) + v4).toNatClampNeg)) (-1)) = 0 → CI l h m_R_isRiver [.ref 119, .long (ml 136 (((40 * v1) + v4).toNatClampNeg))] mi ml z (fun x7 mi7 ml7 z7 => ((¬ x7 = 0 → (vp_in v4 6) ∧ Ev l (h + 1) m_R_noAnswers 57 ([.ref 119, .int v1, .retAddr 0, .retAddr 0, .int (v4 + 1), .retAddr 0, .retAddr 0], [], st (up mi7 129 v4.toNatClampNeg ((ml 136 (((40 * v1) + v4).toNatClampNeg)).toInt32)) ml7 z7) (qI Q)) ∧ (x7 = 0 → Q (-3) mi7 ml7 z7)))))))) : Ev l (h + 1) m_R_noAnswers 57 ([.ref 119, .int v1, .retAddr 0, .retAddr 0, .int v4, .retAddr 0, .retAddr 0], [], st mi ml z) (qI Q) := by
  refine ev_iload rfl (a_dec_at dc_R_noAnswers 34 rfl) ?_
  refine ev_aload_n (i := 0) rfl rfl (a_dec_at dc_R_noAnswers 35 rfl) ?_
  refine m_getR (y := 120) fl_R_13 rfl sh119 (mr_119_1 _) (by decide) (a_dec_at dc_R_noAnswers 36 rfl) ?_
  refine ev_iconst (v := 1) rfl (a_dec_at dc_R_noAnswers 37 rfl) ?_
  refine w_iald (k := 1) sh120 (by unfold vp_in; decide) (by decide) (a_dec_at dc_R_noAnswers 38 rfl) ?_
  refine ev_icmp_ge (tgt := 119) (a_dec_at dc_R_noAnswers 39 rfl) (by decide) (fun b1 => ?_) (fun b1 => ?_)
  · have H := H.1 b1
    refine ev_aload_n (i := 0) rfl rfl (a_dec_at dc_R_noAnswers 67 rfl) ?_
    refine cV0I cs_R_374 sh119 rfl (Nat.le_of_ble_eq_true rfl) (Nat.le_of_ble_eq_true rfl) (a_dec_at dc_R_noAnswers 68 rfl) ?_
    refine CI.mono (fun x2 mi2 ml2 z2 H => ?_) H
    refine ev_if_eq (tgt := 130) (a_dec_at dc_R_noAnswers 69 rfl) (by decide) (fun b3 => ?_) (fun b3 => ?_)
    · have H := H.1 b3
      refine ev_bipush (v := (-3)) rfl (a_dec_at dc_R_noAnswers 72 rfl) ?_
      exact m_retI (a_dec_at dc_R_noAnswers 73 rfl) rfl rfl H
    · have H := H.2 b3
      refine ev_iconst (v := 0) rfl (a_dec_at dc_R_noAnswers 70 rfl) ?_
      refine ev_goto (tgt := 132) (a_dec_at dc_R_noAnswers 71 rfl) (by decide) ?_
      exact m_retI (a_dec_at dc_R_noAnswers 73 rfl) rfl rfl H
  · have H := H.2 b1
    refine ev_aload_n (i := 0) rfl rfl (a_dec_at dc_R_noAnswers 40 rfl) ?_
    refine m_getR (y := 136) fl_R_69 rfl sh119 (mr_119_34 _) (by decide) (a_dec_at dc_R_noAnswers 41 rfl) ?_
    refine ev_bipush (v := 40) rfl (a_dec_at dc_R_noAnswers 42 rfl) ?_
    refine ev_iload_n (i := 1) rfl rfl (a_dec_at dc_R_noAnswers 43 rfl) ?_
    refine ev_imul (a_dec_at dc_R_noAnswers 44 rfl) ?_
    refine ev_iload rfl (a_dec_at dc_R_noAnswers 45 rfl) ?_
    refine ev_iadd (a_dec_at dc_R_noAnswers 46 rfl) ?_
    obtain ⟨c4, H⟩ := H
    refine w_lald (k := ((40 * v1) + v4).toNatClampNeg) sh136 c4 rfl (a_dec_at dc_R_noAnswers 47 rfl) ?_
    refine ev_lstore (by decide) rfl (a_dec_at dc_R_noAnswers 48 rfl) ?_
    refine ev_lload rfl (a_dec_at dc_R_noAnswers 49 rfl) ?_
    refine ev_ldc2 kc_R_428 (a_dec_at dc_R_noAnswers 50 rfl) ?_
    refine ev_lcmp (a_dec_at dc_R_noAnswers 51 rfl) ?_
    refine ev_if_eq (tgt := 103) (a_dec_at dc_R_noAnswers 52 rfl) (by decide) (fun b5 => ?_) (fun b5 => ?_)
    · have H := H.1 b5
      refine ev_aload_n (i := 0) rfl rfl (a_dec_at dc_R_noAnswers 59 rfl) ?_
      refine m_getR (y := 129) fl_R_45 rfl sh119 (mr_119_23 _) (by decide) (a_dec_at dc_R_noAnswers 60 rfl) ?_
      refine ev_iload rfl (a_dec_at dc_R_noAnswers 61 rfl) ?_
      refine ev_lload rfl (a_dec_at dc_R_noAnswers 62 rfl) ?_
      refine ev_l2i (a_dec_at dc_R_noAnswers 63 rfl) ?_
      obtain ⟨c6, H⟩ := H
      refine w_iast (k := v4.toNatClampNeg) sh129 c6 rfl (a_dec_at dc_R_noAnswers 64 rfl) ?_
      refine ev_iinc (v := 1) rfl rfl (by decide) rfl (a_dec_at dc_R_noAnswers 65 rfl) ?_
      refine ev_goto (tgt := 57) (a_dec_at dc_R_noAnswers 66 rfl) (by decide) ?_
      exact Ev.drop (L' := [.ref 119, .int v1, .retAddr 0, .retAddr 0, .int (v4 + 1), .retAddr 0, .retAddr 0]) (And.intro rfl (And.intro rfl (And.intro rfl trivial))) H
    · have H := H.2 b5
      refine ev_aload_n (i := 0) rfl rfl (a_dec_at dc_R_noAnswers 53 rfl) ?_
      refine ev_lload rfl (a_dec_at dc_R_noAnswers 54 rfl) ?_
      refine cV1I cs_R_243 sh119 rfl (Nat.le_of_ble_eq_true rfl) (Nat.le_of_ble_eq_true rfl) (a_dec_at dc_R_noAnswers 55 rfl) ?_
      refine CI.mono (fun x7 mi7 ml7 z7 H => ?_) H
      refine ev_if_ne (tgt := 103) (a_dec_at dc_R_noAnswers 56 rfl) (by decide) (fun b8 => ?_) (fun b8 => ?_)
      · have H := H.1 b8
        refine ev_aload_n (i := 0) rfl rfl (a_dec_at dc_R_noAnswers 59 rfl) ?_
        refine m_getR (y := 129) fl_R_45 rfl sh119 (mr_119_23 _) (by decide) (a_dec_at dc_R_noAnswers 60 rfl) ?_
        refine ev_iload rfl (a_dec_at dc_R_noAnswers 61 rfl) ?_
        refine ev_lload rfl (a_dec_at dc_R_noAnswers 62 rfl) ?_
        refine ev_l2i (a_dec_at dc_R_noAnswers 63 rfl) ?_
        obtain ⟨c9, H⟩ := H
        refine w_iast (k := v4.toNatClampNeg) sh129 c9 rfl (a_dec_at dc_R_noAnswers 64 rfl) ?_
        refine ev_iinc (v := 1) rfl rfl (by decide) rfl (a_dec_at dc_R_noAnswers 65 rfl) ?_
        refine ev_goto (tgt := 57) (a_dec_at dc_R_noAnswers 66 rfl) (by decide) ?_
        exact Ev.drop (L' := [.ref 119, .int v1, .retAddr 0, .retAddr 0, .int (v4 + 1), .retAddr 0, .retAddr 0]) (And.intro rfl (And.intro rfl (And.intro rfl trivial))) H
      · have H := H.2 b8
        refine ev_bipush (v := (-3)) rfl (a_dec_at dc_R_noAnswers 57 rfl) ?_
        exact m_retI (a_dec_at dc_R_noAnswers 58 rfl) rfl rfl H
set_option maxRecDepth 20000 in
theorem t_R_marksOf {l : Launch} {h : Nat} (mi : TMi) (ml : TMl) (z : Nat) (a1 : Int32) (a2 : Int32) {Q : Int32 → TMi → TMl → Nat → Prop} (H : (vp_in (9 + a2) 4113) ∧ Ev l (h + 1) m_R_marksOf 16 ([.ref 119, .retAddr 0, .int a2, .int (mi 120 ((9 + a2).toNatClampNeg)), .int 0, .int 0], [], st mi ml z) (qI Q)) : CI l (h + 1) m_R_marksOf [.ref 119, .int a1, .int a2] mi ml z Q := by
  show Ev l (h + 1) m_R_marksOf 0 ([.ref 119, .int a1, .int a2, .retAddr 0, .retAddr 0, .retAddr 0], [], st mi ml z) (qI Q)
  refine ev_aload_n (i := 0) rfl rfl (a_dec_at dc_R_marksOf 0 rfl) ?_
  refine m_getR (y := 120) fl_R_13 rfl sh119 (mr_119_1 _) (by decide) (a_dec_at dc_R_marksOf 1 rfl) ?_
  refine ev_bipush (v := 9) rfl (a_dec_at dc_R_marksOf 2 rfl) ?_
  refine ev_iload_n (i := 2) rfl rfl (a_dec_at dc_R_marksOf 3 rfl) ?_
  refine ev_iadd (a_dec_at dc_R_marksOf 4 rfl) ?_
  obtain ⟨c1, H⟩ := H
  refine w_iald (k := (9 + a2).toNatClampNeg) sh120 c1 rfl (a_dec_at dc_R_marksOf 5 rfl) ?_
  refine ev_istore_n (i := 3) rfl (by decide) rfl (a_dec_at dc_R_marksOf 6 rfl) ?_
  refine ev_iconst (v := 0) rfl (a_dec_at dc_R_marksOf 7 rfl) ?_
  refine ev_istore (by decide) rfl (a_dec_at dc_R_marksOf 8 rfl) ?_
  refine ev_iconst (v := 0) rfl (a_dec_at dc_R_marksOf 9 rfl) ?_
  refine ev_istore (by decide) rfl (a_dec_at dc_R_marksOf 10 rfl) ?_
  exact Ev.drop (L' := [.ref 119, .retAddr 0, .int a2, .int (mi 120 ((9 + a2).toNatClampNeg)), .int 0, .int 0]) (And.intro rfl (And.intro rfl (And.intro rfl (And.intro rfl (And.intro rfl trivial))))) H
set_option maxRecDepth 20000 in
theorem t_R_marksOf_16 {l : Launch} {h : Nat} (mi : TMi) (ml : TMl) (z : Nat) (v2 : Int32) (v3 : Int32) (v4 : Int32) (v5 : Int32) {Q : Int32 → TMi → TMl → Nat → Prop} (H : ((10 ≤ v5 → (vp_in (9 + v2) 4113) ∧ Q v4 (up mi 120 ((9 + v2).toNatClampNeg) v3) ml z) ∧ (¬ 10 ≤ v5 → (vp_in (9 + v2) 4113) ∧ CV l h m_R_laysLikes [.ref 119] (up mi 120 ((9 + v2).toNatClampNeg) v5) ml z (fun mi4 ml4 z4 => CI l h m_R_isHeld [.ref 119] mi4 ml4 z4 (fun x5 mi5 ml5 z5 => ((x5 = 0 → Ev l (h + 1) m_R_marksOf 16 ([.ref 119, .retAddr 0, .int v2, .int v3, .int (v4 ||| 0), .int (v5 + 1)], [], st mi5 ml5 z5) (qI Q)) ∧ (¬ x5 = 0 → Ev l (h + 1) m_R_marksOf 16 ([.ref 119, .retAddr 0, .int v2, .int v3, .int (v4 ||| ((1 : Int32) <<< (v5 &&& 31))), .int (v5 + 1)], [], st mi5 ml5 z5) (qI Q)))))))) : Ev l (h + 1) m_R_marksOf 16 ([.ref 119, .retAddr 0, .int v2, .int v3, .int v4, .int v5], [], st mi ml z) (qI Q) := by
  refine ev_iload rfl (a_dec_at dc_R_marksOf 11 rfl) ?_
  refine ev_bipush (v := 10) rfl (a_dec_at dc_R_marksOf 12 rfl) ?_
  refine ev_icmp_ge (tgt := 64) (a_dec_at dc_R_marksOf 13 rfl) (by decide) (fun b1 => ?_) (fun b1 => ?_)
  · have H := H.1 b1
    refine ev_aload_n (i := 0) rfl rfl (a_dec_at dc_R_marksOf 36 rfl) ?_
    refine m_getR (y := 120) fl_R_13 rfl sh119 (mr_119_1 _) (by decide) (a_dec_at dc_R_marksOf 37 rfl) ?_
    refine ev_bipush (v := 9) rfl (a_dec_at dc_R_marksOf 38 rfl) ?_
    refine ev_iload_n (i := 2) rfl rfl (a_dec_at dc_R_marksOf 39 rfl) ?_
    refine ev_iadd (a_dec_at dc_R_marksOf 40 rfl) ?_
    refine ev_iload_n (i := 3) rfl rfl (a_dec_at dc_R_marksOf 41 rfl) ?_
    obtain ⟨c2, H⟩ := H
    refine w_iast (k := (9 + v2).toNatClampNeg) sh120 c2 rfl (a_dec_at dc_R_marksOf 42 rfl) ?_
    refine ev_iload rfl (a_dec_at dc_R_marksOf 43 rfl) ?_
    exact m_retI (a_dec_at dc_R_marksOf 44 rfl) rfl rfl H
  · have H := H.2 b1
    refine ev_aload_n (i := 0) rfl rfl (a_dec_at dc_R_marksOf 14 rfl) ?_
    refine m_getR (y := 120) fl_R_13 rfl sh119 (mr_119_1 _) (by decide) (a_dec_at dc_R_marksOf 15 rfl) ?_
    refine ev_bipush (v := 9) rfl (a_dec_at dc_R_marksOf 16 rfl) ?_
    refine ev_iload_n (i := 2) rfl rfl (a_dec_at dc_R_marksOf 17 rfl) ?_
    refine ev_iadd (a_dec_at dc_R_marksOf 18 rfl) ?_
    refine ev_iload rfl (a_dec_at dc_R_marksOf 19 rfl) ?_
    obtain ⟨c3, H⟩ := H
    refine w_iast (k := (9 + v2).toNatClampNeg) sh120 c3 rfl (a_dec_at dc_R_marksOf 20 rfl) ?_
    refine ev_aload_n (i := 0) rfl rfl (a_dec_at dc_R_marksOf 21 rfl) ?_
    refine cV0V cs_R_237 sh119 rfl (Nat.le_of_ble_eq_true rfl) (Nat.le_of_ble_eq_true rfl) (a_dec_at dc_R_marksOf 22 rfl) ?_
    refine CV.mono (fun mi4 ml4 z4 H => ?_) H
    refine ev_iload rfl (a_dec_at dc_R_marksOf 23 rfl) ?_
    refine ev_aload_n (i := 0) rfl rfl (a_dec_at dc_R_marksOf 24 rfl) ?_
    refine cV0I cs_R_362 sh119 rfl (Nat.le_of_ble_eq_true rfl) (Nat.le_of_ble_eq_true rfl) (a_dec_at dc_R_marksOf 25 rfl) ?_
    refine CI.mono (fun x5 mi5 ml5 z5 H => ?_) H
    refine ev_if_eq (tgt := 54) (a_dec_at dc_R_marksOf 26 rfl) (by decide) (fun b6 => ?_) (fun b6 => ?_)
    · have H := H.1 b6
      refine ev_iconst (v := 0) rfl (a_dec_at dc_R_marksOf 31 rfl) ?_
      refine ev_ior (a_dec_at dc_R_marksOf 32 rfl) ?_
      refine ev_istore (by decide) rfl (a_dec_at dc_R_marksOf 33 rfl) ?_
      refine ev_iinc (v := 1) rfl rfl (by decide) rfl (a_dec_at dc_R_marksOf 34 rfl) ?_
      refine ev_goto (tgt := 16) (a_dec_at dc_R_marksOf 35 rfl) (by decide) ?_
      exact Ev.drop (L' := [.ref 119, .retAddr 0, .int v2, .int v3, .int (v4 ||| 0), .int (v5 + 1)]) (And.intro rfl (And.intro rfl (And.intro rfl (And.intro rfl (And.intro rfl trivial))))) H
    · have H := H.2 b6
      refine ev_iconst (v := 1) rfl (a_dec_at dc_R_marksOf 27 rfl) ?_
      refine ev_iload rfl (a_dec_at dc_R_marksOf 28 rfl) ?_
      refine ev_ishl (a_dec_at dc_R_marksOf 29 rfl) ?_
      refine ev_goto (tgt := 55) (a_dec_at dc_R_marksOf 30 rfl) (by decide) ?_
      refine ev_ior (a_dec_at dc_R_marksOf 32 rfl) ?_
      refine ev_istore (by decide) rfl (a_dec_at dc_R_marksOf 33 rfl) ?_
      refine ev_iinc (v := 1) rfl rfl (by decide) rfl (a_dec_at dc_R_marksOf 34 rfl) ?_
      refine ev_goto (tgt := 16) (a_dec_at dc_R_marksOf 35 rfl) (by decide) ?_
      exact Ev.drop (L' := [.ref 119, .retAddr 0, .int v2, .int v3, .int (v4 ||| ((1 : Int32) <<< (v5 &&& 31))), .int (v5 + 1)]) (And.intro rfl (And.intro rfl (And.intro rfl (And.intro rfl (And.intro rfl trivial))))) H
set_option maxRecDepth 20000 in
theorem t_R_ask {l : Launch} {h : Nat} (mi : TMi) (ml : TMl) (z : Nat) (a1 : Int32) (a2 : Int32) {Q : Int32 → TMi → TMl → Nat → Prop} (H : CI l h m_R_noAnswers [.ref 119, .int a1, .int a2] (up mi 119 0 0) ml z (fun x1 mi1 ml1 z1 => ((x1 = 0 → CI l h m_R_marksOf [.ref 119, .int a1, .int a2] mi1 ml1 z1 (fun x3 mi3 ml3 z3 => (vp_in (9 + a2) 4113) ∧ Ev l (h + 1) m_R_ask 46 ([.ref 119, .retAddr 0, .int a2, .retAddr 0, .int x3, .int (mi3 120 ((9 + a2).toNatClampNeg)), .int (-1), .int (-1), .int 0, .retAddr 0, .retAddr 0, .retAddr 0], [], st mi3 ml3 z3) (qI Q))) ∧ (¬ x1 = 0 → Q x1 mi1 ml1 z1)))) : CI l (h + 1) m_R_ask [.ref 119, .int a1, .int a2] mi ml z Q := by
  show Ev l (h + 1) m_R_ask 0 ([.ref 119, .int a1, .int a2, .retAddr 0, .retAddr 0, .retAddr 0, .retAddr 0, .retAddr 0, .retAddr 0, .retAddr 0, .retAddr 0, .retAddr 0], [], st mi ml z) (qI Q)
  refine ev_aload_n (i := 0) rfl rfl (a_dec_at dc_R_ask 0 rfl) ?_
  refine ev_iconst (v := 0) rfl (a_dec_at dc_R_ask 1 rfl) ?_
  refine m_putI fl_R_1 rfl (fun _ _ _ h => by cases h; exact Or.inl rfl) sh119 (a_dec_at dc_R_ask 2 rfl) ?_
  refine ev_aload_n (i := 0) rfl rfl (a_dec_at dc_R_ask 3 rfl) ?_
  refine ev_iload_n (i := 1) rfl rfl (a_dec_at dc_R_ask 4 rfl) ?_
  refine ev_iload_n (i := 2) rfl rfl (a_dec_at dc_R_ask 5 rfl) ?_
  refine cV2I cs_R_430 sh119 rfl (Nat.le_of_ble_eq_true rfl) (Nat.le_of_ble_eq_true rfl) (a_dec_at dc_R_ask 6 rfl) ?_
  refine CI.mono (fun x1 mi1 ml1 z1 H => ?_) H
  refine ev_istore_n (i := 3) rfl (by decide) rfl (a_dec_at dc_R_ask 7 rfl) ?_
  refine ev_iload_n (i := 3) rfl rfl (a_dec_at dc_R_ask 8 rfl) ?_
  refine ev_if_eq (tgt := 18) (a_dec_at dc_R_ask 9 rfl) (by decide) (fun b2 => ?_) (fun b2 => ?_)
  · have H := H.1 b2
    refine ev_aload_n (i := 0) rfl rfl (a_dec_at dc_R_ask 12 rfl) ?_
    refine ev_iload_n (i := 1) rfl rfl (a_dec_at dc_R_ask 13 rfl) ?_
    refine ev_iload_n (i := 2) rfl rfl (a_dec_at dc_R_ask 14 rfl) ?_
    refine cV2I cs_R_433 sh119 rfl (Nat.le_of_ble_eq_true rfl) (Nat.le_of_ble_eq_true rfl) (a_dec_at dc_R_ask 15 rfl) ?_
    refine CI.mono (fun x3 mi3 ml3 z3 H => ?_) H
    refine ev_istore (by decide) rfl (a_dec_at dc_R_ask 16 rfl) ?_
    refine ev_aload_n (i := 0) rfl rfl (a_dec_at dc_R_ask 17 rfl) ?_
    refine m_getR (y := 120) fl_R_13 rfl sh119 (mr_119_1 _) (by decide) (a_dec_at dc_R_ask 18 rfl) ?_
    refine ev_bipush (v := 9) rfl (a_dec_at dc_R_ask 19 rfl) ?_
    refine ev_iload_n (i := 2) rfl rfl (a_dec_at dc_R_ask 20 rfl) ?_
    refine ev_iadd (a_dec_at dc_R_ask 21 rfl) ?_
    obtain ⟨c4, H⟩ := H
    refine w_iald (k := (9 + a2).toNatClampNeg) sh120 c4 rfl (a_dec_at dc_R_ask 22 rfl) ?_
    refine ev_istore (by decide) rfl (a_dec_at dc_R_ask 23 rfl) ?_
    refine ev_iconst (v := (-1)) rfl (a_dec_at dc_R_ask 24 rfl) ?_
    refine ev_istore (by decide) rfl (a_dec_at dc_R_ask 25 rfl) ?_
    refine ev_iconst (v := (-1)) rfl (a_dec_at dc_R_ask 26 rfl) ?_
    refine ev_istore (by decide) rfl (a_dec_at dc_R_ask 27 rfl) ?_
    refine ev_iconst (v := 0) rfl (a_dec_at dc_R_ask 28 rfl) ?_
    refine ev_istore (by decide) rfl (a_dec_at dc_R_ask 29 rfl) ?_
    exact Ev.drop (L' := [.ref 119, .retAddr 0, .int a2, .retAddr 0, .int x3, .int (mi3 120 ((9 + a2).toNatClampNeg)), .int (-1), .int (-1), .int 0, .retAddr 0, .retAddr 0, .retAddr 0]) (And.intro rfl (And.intro rfl (And.intro rfl (And.intro rfl (And.intro rfl (And.intro rfl (And.intro rfl trivial))))))) H
  · have H := H.2 b2
    refine ev_iload_n (i := 3) rfl rfl (a_dec_at dc_R_ask 10 rfl) ?_
    exact m_retI (a_dec_at dc_R_ask 11 rfl) rfl rfl H
set_option maxRecDepth 20000 in
theorem t_R_ask_46 {l : Launch} {h : Nat} (mi : TMi) (ml : TMl) (z : Nat) (v2 : Int32) (v4 : Int32) (v5 : Int32) (v6 : Int32) (v7 : Int32) (v8 : Int32) {Q : Int32 → TMi → TMl → Nat → Prop} (H : (((mi 120 2) ≤ v8 → (vp_in (9 + v2) 4113) ∧ Q v6 (up mi 120 ((9 + v2).toNatClampNeg) v5) ml z) ∧ (¬ (mi 120 2) ≤ v8 → ((v4 = 0 → (vp_in (9 + v2) 4113) ∧ Q v6 (up mi 120 ((9 + v2).toNatClampNeg) v5) ml z) ∧ (¬ v4 = 0 → Ev l (h + 1) m_R_ask 68 ([.ref 119, .retAddr 0, .int v2, .retAddr 0, .int v4, .int v5, .int v6, .int v7, .int v8, .int 0, .int 0, .retAddr 0], [], st mi ml z) (qI Q)))))) : Ev l (h + 1) m_R_ask 46 ([.ref 119, .retAddr 0, .int v2, .retAddr 0, .int v4, .int v5, .int v6, .int v7, .int v8, .retAddr 0, .retAddr 0, .retAddr 0], [], st mi ml z) (qI Q) := by
  refine ev_iload rfl (a_dec_at dc_R_ask 30 rfl) ?_
  refine ev_aload_n (i := 0) rfl rfl (a_dec_at dc_R_ask 31 rfl) ?_
  refine m_getR (y := 120) fl_R_13 rfl sh119 (mr_119_1 _) (by decide) (a_dec_at dc_R_ask 32 rfl) ?_
  refine ev_iconst (v := 2) rfl (a_dec_at dc_R_ask 33 rfl) ?_
  refine w_iald (k := 2) sh120 (by unfold vp_in; decide) (by decide) (a_dec_at dc_R_ask 34 rfl) ?_
  refine ev_icmp_ge (tgt := 177) (a_dec_at dc_R_ask 35 rfl) (by decide) (fun b1 => ?_) (fun b1 => ?_)
  · have H := H.1 b1
    refine ev_aload_n (i := 0) rfl rfl (a_dec_at dc_R_ask 95 rfl) ?_
    refine m_getR (y := 120) fl_R_13 rfl sh119 (mr_119_1 _) (by decide) (a_dec_at dc_R_ask 96 rfl) ?_
    refine ev_bipush (v := 9) rfl (a_dec_at dc_R_ask 97 rfl) ?_
    refine ev_iload_n (i := 2) rfl rfl (a_dec_at dc_R_ask 98 rfl) ?_
    refine ev_iadd (a_dec_at dc_R_ask 99 rfl) ?_
    refine ev_iload rfl (a_dec_at dc_R_ask 100 rfl) ?_
    obtain ⟨c2, H⟩ := H
    refine w_iast (k := (9 + v2).toNatClampNeg) sh120 c2 rfl (a_dec_at dc_R_ask 101 rfl) ?_
    refine ev_iload rfl (a_dec_at dc_R_ask 102 rfl) ?_
    exact m_retI (a_dec_at dc_R_ask 103 rfl) rfl rfl H
  · have H := H.2 b1
    refine ev_iload rfl (a_dec_at dc_R_ask 36 rfl) ?_
    refine ev_if_eq (tgt := 177) (a_dec_at dc_R_ask 37 rfl) (by decide) (fun b3 => ?_) (fun b3 => ?_)
    · have H := H.1 b3
      refine ev_aload_n (i := 0) rfl rfl (a_dec_at dc_R_ask 95 rfl) ?_
      refine m_getR (y := 120) fl_R_13 rfl sh119 (mr_119_1 _) (by decide) (a_dec_at dc_R_ask 96 rfl) ?_
      refine ev_bipush (v := 9) rfl (a_dec_at dc_R_ask 97 rfl) ?_
      refine ev_iload_n (i := 2) rfl rfl (a_dec_at dc_R_ask 98 rfl) ?_
      refine ev_iadd (a_dec_at dc_R_ask 99 rfl) ?_
      refine ev_iload rfl (a_dec_at dc_R_ask 100 rfl) ?_
      obtain ⟨c4, H⟩ := H
      refine w_iast (k := (9 + v2).toNatClampNeg) sh120 c4 rfl (a_dec_at dc_R_ask 101 rfl) ?_
      refine ev_iload rfl (a_dec_at dc_R_ask 102 rfl) ?_
      exact m_retI (a_dec_at dc_R_ask 103 rfl) rfl rfl H
    · have H := H.2 b3
      refine ev_iconst (v := 0) rfl (a_dec_at dc_R_ask 38 rfl) ?_
      refine ev_istore (by decide) rfl (a_dec_at dc_R_ask 39 rfl) ?_
      refine ev_iconst (v := 0) rfl (a_dec_at dc_R_ask 40 rfl) ?_
      refine ev_istore (by decide) rfl (a_dec_at dc_R_ask 41 rfl) ?_
      exact Ev.drop (L' := [.ref 119, .retAddr 0, .int v2, .retAddr 0, .int v4, .int v5, .int v6, .int v7, .int v8, .int 0, .int 0, .retAddr 0]) (And.intro rfl (And.intro rfl (And.intro rfl (And.intro rfl (And.intro rfl (And.intro rfl (And.intro rfl (And.intro rfl (And.intro rfl trivial))))))))) H
set_option maxRecDepth 20000 in
theorem t_R_ask_68 {l : Launch} {h : Nat} (mi : TMi) (ml : TMl) (z : Nat) (v2 : Int32) (v4 : Int32) (v5 : Int32) (v6 : Int32) (v7 : Int32) (v8 : Int32) (v9 : Int32) (v10 : Int32) {Q : Int32 → TMi → TMl → Nat → Prop} (H : ((10 ≤ v10 → CI l h m_R_marksIn [.int v4] mi ml z (fun x2 mi2 ml2 z2 => (((x2 - v9) ≤ v9 → ((v7 < (x2 - v9) → Ev l (h + 1) m_R_ask 46 ([.ref 119, .retAddr 0, .int v2, .retAddr 0, .int v4, .int v5, .int v8, .int (x2 - v9), .int (v8 + 1), .retAddr 0, .retAddr 0, .retAddr 0], [], st mi2 ml2 z2) (qI Q)) ∧ (¬ v7 < (x2 - v9) → Ev l (h + 1) m_R_ask 46 ([.ref 119, .retAddr 0, .int v2, .retAddr 0, .int v4, .int v5, .int v6, .int v7, .int (v8 + 1), .retAddr 0, .retAddr 0, .retAddr 0], [], st mi2 ml2 z2) (qI Q)))) ∧ (¬ (x2 - v9) ≤ v9 → ((v7 < v9 → Ev l (h + 1) m_R_ask 46 ([.ref 119, .retAddr 0, .int v2, .retAddr 0, .int v4, .int v5, .int v8, .int v9, .int (v8 + 1), .retAddr 0, .retAddr 0, .retAddr 0], [], st mi2 ml2 z2) (qI Q)) ∧ (¬ v7 < v9 → Ev l (h + 1) m_R_ask 46 ([.ref 119, .retAddr 0, .int v2, .retAddr 0, .int v4, .int v5, .int v6, .int v7, .int (v8 + 1), .retAddr 0, .retAddr 0, .retAddr 0], [], st mi2 ml2 z2) (qI Q))))))) ∧ (¬ 10 ≤ v10 → (vp_in (9 + v2) 4113) ∧ CI l h m_R_isIn [.long v4.toInt64, .int v10] (up mi 120 ((9 + v2).toNatClampNeg) v10) ml z (fun x7 mi7 ml7 z7 => ((x7 = 0 → Ev l (h + 1) m_R_ask 68 ([.ref 119, .retAddr 0, .int v2, .retAddr 0, .int v4, .int v5, .int v6, .int v7, .int v8, .int (v9 + 0), .int (v10 + 1), .retAddr 0], [], st mi7 ml7 z7) (qI Q)) ∧ (¬ x7 = 0 → CI l h m_R_reckons [.ref 119, .int 0, .int v2, .int v8] mi7 ml7 z7 (fun x9 mi9 ml9 z9 => ((x9 ≤ 0 → Ev l (h + 1) m_R_ask 68 ([.ref 119, .retAddr 0, .int v2, .retAddr 0, .int v4, .int v5, .int v6, .int v7, .int v8, .int (v9 + 0), .int (v10 + 1), .retAddr 0], [], st mi9 ml9 z9) (qI Q)) ∧ (¬ x9 ≤ 0 → Ev l (h + 1) m_R_ask 68 ([.ref 119, .retAddr 0, .int v2, .retAddr 0, .int v4, .int v5, .int v6, .int v7, .int v8, .int (v9 + 1), .int (v10 + 1), .retAddr 0], [], st mi9 ml9 z9) (qI Q)))))))))) : Ev l (h + 1) m_R_ask 68 ([.ref 119, .retAddr 0, .int v2, .retAddr 0, .int v4, .int v5, .int v6, .int v7, .int v8, .int v9, .int v10, .retAddr 0], [], st mi ml z) (qI Q) := by
  refine ev_iload rfl (a_dec_at dc_R_ask 42 rfl) ?_
  refine ev_bipush (v := 10) rfl (a_dec_at dc_R_ask 43 rfl) ?_
  refine ev_icmp_ge (tgt := 124) (a_dec_at dc_R_ask 44 rfl) (by decide) (fun b1 => ?_) (fun b1 => ?_)
  · have H := H.1 b1
    refine ev_iload rfl (a_dec_at dc_R_ask 71 rfl) ?_
    refine cS1I cs_R_436 rfl (Nat.le_of_ble_eq_true rfl) (Nat.le_of_ble_eq_true rfl) (a_dec_at dc_R_ask 72 rfl) ?_
    refine CI.mono (fun x2 mi2 ml2 z2 H => ?_) H
    refine ev_istore (by decide) rfl (a_dec_at dc_R_ask 73 rfl) ?_
    refine ev_iload rfl (a_dec_at dc_R_ask 74 rfl) ?_
    refine ev_iload rfl (a_dec_at dc_R_ask 75 rfl) ?_
    refine ev_iload rfl (a_dec_at dc_R_ask 76 rfl) ?_
    refine ev_isub (a_dec_at dc_R_ask 77 rfl) ?_
    refine ev_icmp_ge (tgt := 146) (a_dec_at dc_R_ask 78 rfl) (by decide) (fun b3 => ?_) (fun b3 => ?_)
    · have H := H.1 b3
      refine ev_iload rfl (a_dec_at dc_R_ask 81 rfl) ?_
      refine ev_iload rfl (a_dec_at dc_R_ask 82 rfl) ?_
      refine ev_isub (a_dec_at dc_R_ask 83 rfl) ?_
      refine ev_istore (by decide) rfl (a_dec_at dc_R_ask 84 rfl) ?_
      refine ev_iload rfl (a_dec_at dc_R_ask 85 rfl) ?_
      refine ev_iload rfl (a_dec_at dc_R_ask 86 rfl) ?_
      refine ev_icmp_gt (tgt := 163) (a_dec_at dc_R_ask 87 rfl) (by decide) (fun b4 => ?_) (fun b4 => ?_)
      · have H := H.1 b4
        refine ev_iload rfl (a_dec_at dc_R_ask 89 rfl) ?_
        refine ev_istore (by decide) rfl (a_dec_at dc_R_ask 90 rfl) ?_
        refine ev_iload rfl (a_dec_at dc_R_ask 91 rfl) ?_
        refine ev_istore (by decide) rfl (a_dec_at dc_R_ask 92 rfl) ?_
        refine ev_iinc (v := 1) rfl rfl (by decide) rfl (a_dec_at dc_R_ask 93 rfl) ?_
        refine ev_goto (tgt := 46) (a_dec_at dc_R_ask 94 rfl) (by decide) ?_
        exact Ev.drop (L' := [.ref 119, .retAddr 0, .int v2, .retAddr 0, .int v4, .int v5, .int v8, .int (x2 - v9), .int (v8 + 1), .retAddr 0, .retAddr 0, .retAddr 0]) (And.intro rfl (And.intro rfl (And.intro rfl (And.intro rfl (And.intro rfl (And.intro rfl (And.intro rfl trivial))))))) H
      · have H := H.2 b4
        refine ev_goto (tgt := 171) (a_dec_at dc_R_ask 88 rfl) (by decide) ?_
        refine ev_iinc (v := 1) rfl rfl (by decide) rfl (a_dec_at dc_R_ask 93 rfl) ?_
        refine ev_goto (tgt := 46) (a_dec_at dc_R_ask 94 rfl) (by decide) ?_
        exact Ev.drop (L' := [.ref 119, .retAddr 0, .int v2, .retAddr 0, .int v4, .int v5, .int v6, .int v7, .int (v8 + 1), .retAddr 0, .retAddr 0, .retAddr 0]) (And.intro rfl (And.intro rfl (And.intro rfl (And.intro rfl (And.intro rfl (And.intro rfl (And.intro rfl trivial))))))) H
    · have H := H.2 b3
      refine ev_iload rfl (a_dec_at dc_R_ask 79 rfl) ?_
      refine ev_goto (tgt := 151) (a_dec_at dc_R_ask 80 rfl) (by decide) ?_
      refine ev_istore (by decide) rfl (a_dec_at dc_R_ask 84 rfl) ?_
      refine ev_iload rfl (a_dec_at dc_R_ask 85 rfl) ?_
      refine ev_iload rfl (a_dec_at dc_R_ask 86 rfl) ?_
      refine ev_icmp_gt (tgt := 163) (a_dec_at dc_R_ask 87 rfl) (by decide) (fun b5 => ?_) (fun b5 => ?_)
      · have H := H.1 b5
        refine ev_iload rfl (a_dec_at dc_R_ask 89 rfl) ?_
        refine ev_istore (by decide) rfl (a_dec_at dc_R_ask 90 rfl) ?_
        refine ev_iload rfl (a_dec_at dc_R_ask 91 rfl) ?_
        refine ev_istore (by decide) rfl (a_dec_at dc_R_ask 92 rfl) ?_
        refine ev_iinc (v := 1) rfl rfl (by decide) rfl (a_dec_at dc_R_ask 93 rfl) ?_
        refine ev_goto (tgt := 46) (a_dec_at dc_R_ask 94 rfl) (by decide) ?_
        exact Ev.drop (L' := [.ref 119, .retAddr 0, .int v2, .retAddr 0, .int v4, .int v5, .int v8, .int v9, .int (v8 + 1), .retAddr 0, .retAddr 0, .retAddr 0]) (And.intro rfl (And.intro rfl (And.intro rfl (And.intro rfl (And.intro rfl (And.intro rfl (And.intro rfl trivial))))))) H
      · have H := H.2 b5
        refine ev_goto (tgt := 171) (a_dec_at dc_R_ask 88 rfl) (by decide) ?_
        refine ev_iinc (v := 1) rfl rfl (by decide) rfl (a_dec_at dc_R_ask 93 rfl) ?_
        refine ev_goto (tgt := 46) (a_dec_at dc_R_ask 94 rfl) (by decide) ?_
        exact Ev.drop (L' := [.ref 119, .retAddr 0, .int v2, .retAddr 0, .int v4, .int v5, .int v6, .int v7, .int (v8 + 1), .retAddr 0, .retAddr 0, .retAddr 0]) (And.intro rfl (And.intro rfl (And.intro rfl (And.intro rfl (And.intro rfl (And.intro rfl (And.intro rfl trivial))))))) H
  · have H := H.2 b1
    refine ev_aload_n (i := 0) rfl rfl (a_dec_at dc_R_ask 45 rfl) ?_
    refine m_getR (y := 120) fl_R_13 rfl sh119 (mr_119_1 _) (by decide) (a_dec_at dc_R_ask 46 rfl) ?_
    refine ev_bipush (v := 9) rfl (a_dec_at dc_R_ask 47 rfl) ?_
    refine ev_iload_n (i := 2) rfl rfl (a_dec_at dc_R_ask 48 rfl) ?_
    refine ev_iadd (a_dec_at dc_R_ask 49 rfl) ?_
    refine ev_iload rfl (a_dec_at dc_R_ask 50 rfl) ?_
    obtain ⟨c6, H⟩ := H
    refine w_iast (k := (9 + v2).toNatClampNeg) sh120 c6 rfl (a_dec_at dc_R_ask 51 rfl) ?_
    refine ev_iload rfl (a_dec_at dc_R_ask 52 rfl) ?_
    refine ev_iload rfl (a_dec_at dc_R_ask 53 rfl) ?_
    refine ev_i2l (a_dec_at dc_R_ask 54 rfl) ?_
    refine ev_iload rfl (a_dec_at dc_R_ask 55 rfl) ?_
    refine cS2I cs_R_221 rfl (Nat.le_of_ble_eq_true rfl) (Nat.le_of_ble_eq_true rfl) (a_dec_at dc_R_ask 56 rfl) ?_
    refine CI.mono (fun x7 mi7 ml7 z7 H => ?_) H
    refine ev_if_eq (tgt := 114) (a_dec_at dc_R_ask 57 rfl) (by decide) (fun b8 => ?_) (fun b8 => ?_)
    · have H := H.1 b8
      refine ev_iconst (v := 0) rfl (a_dec_at dc_R_ask 66 rfl) ?_
      refine ev_iadd (a_dec_at dc_R_ask 67 rfl) ?_
      refine ev_istore (by decide) rfl (a_dec_at dc_R_ask 68 rfl) ?_
      refine ev_iinc (v := 1) rfl rfl (by decide) rfl (a_dec_at dc_R_ask 69 rfl) ?_
      refine ev_goto (tgt := 68) (a_dec_at dc_R_ask 70 rfl) (by decide) ?_
      exact Ev.drop (L' := [.ref 119, .retAddr 0, .int v2, .retAddr 0, .int v4, .int v5, .int v6, .int v7, .int v8, .int (v9 + 0), .int (v10 + 1), .retAddr 0]) (And.intro rfl (And.intro rfl (And.intro rfl (And.intro rfl (And.intro rfl (And.intro rfl (And.intro rfl (And.intro rfl (And.intro rfl trivial))))))))) H
    · have H := H.2 b8
      refine ev_aload_n (i := 0) rfl rfl (a_dec_at dc_R_ask 58 rfl) ?_
      refine ev_iconst (v := 0) rfl (a_dec_at dc_R_ask 59 rfl) ?_
      refine ev_iload_n (i := 2) rfl rfl (a_dec_at dc_R_ask 60 rfl) ?_
      refine ev_iload rfl (a_dec_at dc_R_ask 61 rfl) ?_
      refine cV3I cs_R_218 sh119 rfl (Nat.le_of_ble_eq_true rfl) (Nat.le_of_ble_eq_true rfl) (a_dec_at dc_R_ask 62 rfl) ?_
      refine CI.mono (fun x9 mi9 ml9 z9 H => ?_) H
      refine ev_if_le (tgt := 114) (a_dec_at dc_R_ask 63 rfl) (by decide) (fun b10 => ?_) (fun b10 => ?_)
      · have H := H.1 b10
        refine ev_iconst (v := 0) rfl (a_dec_at dc_R_ask 66 rfl) ?_
        refine ev_iadd (a_dec_at dc_R_ask 67 rfl) ?_
        refine ev_istore (by decide) rfl (a_dec_at dc_R_ask 68 rfl) ?_
        refine ev_iinc (v := 1) rfl rfl (by decide) rfl (a_dec_at dc_R_ask 69 rfl) ?_
        refine ev_goto (tgt := 68) (a_dec_at dc_R_ask 70 rfl) (by decide) ?_
        exact Ev.drop (L' := [.ref 119, .retAddr 0, .int v2, .retAddr 0, .int v4, .int v5, .int v6, .int v7, .int v8, .int (v9 + 0), .int (v10 + 1), .retAddr 0]) (And.intro rfl (And.intro rfl (And.intro rfl (And.intro rfl (And.intro rfl (And.intro rfl (And.intro rfl (And.intro rfl (And.intro rfl trivial))))))))) H
      · have H := H.2 b10
        refine ev_iconst (v := 1) rfl (a_dec_at dc_R_ask 64 rfl) ?_
        refine ev_goto (tgt := 115) (a_dec_at dc_R_ask 65 rfl) (by decide) ?_
        refine ev_iadd (a_dec_at dc_R_ask 67 rfl) ?_
        refine ev_istore (by decide) rfl (a_dec_at dc_R_ask 68 rfl) ?_
        refine ev_iinc (v := 1) rfl rfl (by decide) rfl (a_dec_at dc_R_ask 69 rfl) ?_
        refine ev_goto (tgt := 68) (a_dec_at dc_R_ask 70 rfl) (by decide) ?_
        exact Ev.drop (L' := [.ref 119, .retAddr 0, .int v2, .retAddr 0, .int v4, .int v5, .int v6, .int v7, .int v8, .int (v9 + 1), .int (v10 + 1), .retAddr 0]) (And.intro rfl (And.intro rfl (And.intro rfl (And.intro rfl (And.intro rfl (And.intro rfl (And.intro rfl (And.intro rfl (And.intro rfl trivial))))))))) H
set_option maxRecDepth 20000 in
theorem t_R_marksIn {l : Launch} {h : Nat} (mi : TMi) (ml : TMl) (z : Nat) (a1 : Int32) {Q : Int32 → TMi → TMl → Nat → Prop} (H : Ev l (h + 1) m_R_marksIn 4 ([.int a1, .int 0, .int 0], [], st mi ml z) (qI Q)) : CI l (h + 1) m_R_marksIn [.int a1] mi ml z Q := by
  show Ev l (h + 1) m_R_marksIn 0 ([.int a1, .retAddr 0, .retAddr 0], [], st mi ml z) (qI Q)
  refine ev_iconst (v := 0) rfl (a_dec_at dc_R_marksIn 0 rfl) ?_
  refine ev_istore_n (i := 1) rfl (by decide) rfl (a_dec_at dc_R_marksIn 1 rfl) ?_
  refine ev_iconst (v := 0) rfl (a_dec_at dc_R_marksIn 2 rfl) ?_
  refine ev_istore_n (i := 2) rfl (by decide) rfl (a_dec_at dc_R_marksIn 3 rfl) ?_
  exact Ev.drop (L' := [.int a1, .int 0, .int 0]) (And.intro rfl (And.intro rfl (And.intro rfl trivial))) H
set_option maxRecDepth 20000 in
theorem t_R_marksIn_4 {l : Launch} {h : Nat} (mi : TMi) (ml : TMl) (z : Nat) (v0 : Int32) (v1 : Int32) (v2 : Int32) {Q : Int32 → TMi → TMl → Nat → Prop} (H : ((10 ≤ v2 → Q v1 mi ml z) ∧ (¬ 10 ≤ v2 → Ev l (h + 1) m_R_marksIn 4 ([.int v0, .int (v1 + ((v0 >>> (v2 &&& 31)) &&& 1)), .int (v2 + 1)], [], st mi ml z) (qI Q)))) : Ev l (h + 1) m_R_marksIn 4 ([.int v0, .int v1, .int v2], [], st mi ml z) (qI Q) := by
  refine ev_iload_n (i := 2) rfl rfl (a_dec_at dc_R_marksIn 4 rfl) ?_
  refine ev_bipush (v := 10) rfl (a_dec_at dc_R_marksIn 5 rfl) ?_
  refine ev_icmp_ge (tgt := 24) (a_dec_at dc_R_marksIn 6 rfl) (by decide) (fun b1 => ?_) (fun b1 => ?_)
  · have H := H.1 b1
    refine ev_iload_n (i := 1) rfl rfl (a_dec_at dc_R_marksIn 17 rfl) ?_
    exact m_retI (a_dec_at dc_R_marksIn 18 rfl) rfl rfl H
  · have H := H.2 b1
    refine ev_iload_n (i := 1) rfl rfl (a_dec_at dc_R_marksIn 7 rfl) ?_
    refine ev_iload_n (i := 0) rfl rfl (a_dec_at dc_R_marksIn 8 rfl) ?_
    refine ev_iload_n (i := 2) rfl rfl (a_dec_at dc_R_marksIn 9 rfl) ?_
    refine ev_ishr (a_dec_at dc_R_marksIn 10 rfl) ?_
    refine ev_iconst (v := 1) rfl (a_dec_at dc_R_marksIn 11 rfl) ?_
    refine ev_iand (a_dec_at dc_R_marksIn 12 rfl) ?_
    refine ev_iadd (a_dec_at dc_R_marksIn 13 rfl) ?_
    refine ev_istore_n (i := 1) rfl (by decide) rfl (a_dec_at dc_R_marksIn 14 rfl) ?_
    refine ev_iinc (v := 1) rfl rfl (by decide) rfl (a_dec_at dc_R_marksIn 15 rfl) ?_
    refine ev_goto (tgt := 4) (a_dec_at dc_R_marksIn 16 rfl) (by decide) ?_
    exact Ev.drop (L' := [.int v0, .int (v1 + ((v0 >>> (v2 &&& 31)) &&& 1)), .int (v2 + 1)]) (And.intro rfl (And.intro rfl (And.intro rfl trivial))) H
set_option maxRecDepth 20000 in
theorem t_R_flooding {l : Launch} {h : Nat} (mi : TMi) (ml : TMl) (z : Nat) (a1 : Int32) (a2 : Int32) {Q : Int32 → TMi → TMl → Nat → Prop} (H : CI l h m_R_isRiver [.ref 119, .long a1.toInt64] (up mi 119 0 0) ml z (fun x1 mi1 ml1 z1 => ((x1 = 0 → Q (-2) mi1 ml1 z1) ∧ (¬ x1 = 0 → CI l h m_R_within [.long a2.toInt64, .long 0, .long 1] mi1 ml1 z1 (fun x3 mi3 ml3 z3 => ((¬ x3 = 0 → Ev l (h + 1) m_R_flooding 32 ([.ref 119, .int a1, .int a2, .int 0, .int 0], [], st mi3 ml3 z3) (qI Q)) ∧ (x3 = 0 → Q (-2) mi3 ml3 z3))))))) : CI l (h + 1) m_R_flooding [.ref 119, .int a1, .int a2] mi ml z Q := by
  show Ev l (h + 1) m_R_flooding 0 ([.ref 119, .int a1, .int a2, .retAddr 0, .retAddr 0], [], st mi ml z) (qI Q)
  refine ev_aload_n (i := 0) rfl rfl (a_dec_at dc_R_flooding 0 rfl) ?_
  refine ev_iconst (v := 0) rfl (a_dec_at dc_R_flooding 1 rfl) ?_
  refine m_putI fl_R_1 rfl (fun _ _ _ h => by cases h; exact Or.inl rfl) sh119 (a_dec_at dc_R_flooding 2 rfl) ?_
  refine ev_aload_n (i := 0) rfl rfl (a_dec_at dc_R_flooding 3 rfl) ?_
  refine ev_iload_n (i := 1) rfl rfl (a_dec_at dc_R_flooding 4 rfl) ?_
  refine ev_i2l (a_dec_at dc_R_flooding 5 rfl) ?_
  refine cV1I cs_R_243 sh119 rfl (Nat.le_of_ble_eq_true rfl) (Nat.le_of_ble_eq_true rfl) (a_dec_at dc_R_flooding 6 rfl) ?_
  refine CI.mono (fun x1 mi1 ml1 z1 H => ?_) H
  refine ev_if_eq (tgt := 24) (a_dec_at dc_R_flooding 7 rfl) (by decide) (fun b2 => ?_) (fun b2 => ?_)
  · have H := H.1 b2
    refine ev_bipush (v := (-2)) rfl (a_dec_at dc_R_flooding 14 rfl) ?_
    exact m_retI (a_dec_at dc_R_flooding 15 rfl) rfl rfl H
  · have H := H.2 b2
    refine ev_iload_n (i := 2) rfl rfl (a_dec_at dc_R_flooding 8 rfl) ?_
    refine ev_i2l (a_dec_at dc_R_flooding 9 rfl) ?_
    refine ev_lconst (v := 0) rfl (a_dec_at dc_R_flooding 10 rfl) ?_
    refine ev_lconst (v := 1) rfl (a_dec_at dc_R_flooding 11 rfl) ?_
    refine cS3I cs_R_139 rfl (Nat.le_of_ble_eq_true rfl) (Nat.le_of_ble_eq_true rfl) (a_dec_at dc_R_flooding 12 rfl) ?_
    refine CI.mono (fun x3 mi3 ml3 z3 H => ?_) H
    refine ev_if_ne (tgt := 27) (a_dec_at dc_R_flooding 13 rfl) (by decide) (fun b4 => ?_) (fun b4 => ?_)
    · have H := H.1 b4
      refine ev_iconst (v := 0) rfl (a_dec_at dc_R_flooding 16 rfl) ?_
      refine ev_istore_n (i := 3) rfl (by decide) rfl (a_dec_at dc_R_flooding 17 rfl) ?_
      refine ev_iconst (v := 0) rfl (a_dec_at dc_R_flooding 18 rfl) ?_
      refine ev_istore (by decide) rfl (a_dec_at dc_R_flooding 19 rfl) ?_
      exact Ev.drop (L' := [.ref 119, .int a1, .int a2, .int 0, .int 0]) (And.intro rfl (And.intro rfl (And.intro rfl (And.intro rfl (And.intro rfl trivial))))) H
    · have H := H.2 b4
      refine ev_bipush (v := (-2)) rfl (a_dec_at dc_R_flooding 14 rfl) ?_
      exact m_retI (a_dec_at dc_R_flooding 15 rfl) rfl rfl H
set_option maxRecDepth 20000 in
theorem t_R_flooding_32 {l : Launch} {h : Nat} (mi : TMi) (ml : TMl) (z : Nat) (v1 : Int32) (v2 : Int32) (v3 : Int32) (v4 : Int32) {Q : Int32 → TMi → TMl → Nat → Prop} (H : ((((1 : Int32) <<< ((mi 120 1) &&& 31)) ≤ v4 → CI l h m_R_part [.ref 119, .int v3, .int v2] mi ml z (fun x2 mi2 ml2 z2 => Q x2 mi2 ml2 z2)) ∧ (¬ ((1 : Int32) <<< ((mi 120 1) &&& 31)) ≤ v4 → CI l h m_R_becksIn [.ref 119, .int v1] mi ml z (fun x3 mi3 ml3 z3 => CI l h m_R_flowOf [.ref 119, .int (x3 &&& (v4 ^^^ (-1)))] mi3 ml3 z3 (fun x4 mi4 ml4 z4 => (vp_in (25 + v1) 4113) ∧ ((x4 ≤ (mi4 120 ((25 + v1).toNatClampNeg)) → Ev l (h + 1) m_R_flooding 32 ([.ref 119, .int v1, .int v2, .int (v3 + 0), .int (v4 + 1)], [], st mi4 ml4 z4) (qI Q)) ∧ (¬ x4 ≤ (mi4 120 ((25 + v1).toNatClampNeg)) → CI l h m_R_likelyDry [.ref 119, .int v4] mi4 ml4 z4 (fun x7 mi7 ml7 z7 => Ev l (h + 1) m_R_flooding 32 ([.ref 119, .int v1, .int v2, .int (v3 + x7), .int (v4 + 1)], [], st mi7 ml7 z7) (qI Q))))))))) : Ev l (h + 1) m_R_flooding 32 ([.ref 119, .int v1, .int v2, .int v3, .int v4], [], st mi ml z) (qI Q) := by
  refine ev_iload rfl (a_dec_at dc_R_flooding 20 rfl) ?_
  refine ev_iconst (v := 1) rfl (a_dec_at dc_R_flooding 21 rfl) ?_
  refine ev_aload_n (i := 0) rfl rfl (a_dec_at dc_R_flooding 22 rfl) ?_
  refine m_getR (y := 120) fl_R_13 rfl sh119 (mr_119_1 _) (by decide) (a_dec_at dc_R_flooding 23 rfl) ?_
  refine ev_iconst (v := 1) rfl (a_dec_at dc_R_flooding 24 rfl) ?_
  refine w_iald (k := 1) sh120 (by unfold vp_in; decide) (by decide) (a_dec_at dc_R_flooding 25 rfl) ?_
  refine ev_ishl (a_dec_at dc_R_flooding 26 rfl) ?_
  refine ev_icmp_ge (tgt := 90) (a_dec_at dc_R_flooding 27 rfl) (by decide) (fun b1 => ?_) (fun b1 => ?_)
  · have H := H.1 b1
    refine ev_aload_n (i := 0) rfl rfl (a_dec_at dc_R_flooding 54 rfl) ?_
    refine ev_iload_n (i := 3) rfl rfl (a_dec_at dc_R_flooding 55 rfl) ?_
    refine ev_iload_n (i := 2) rfl rfl (a_dec_at dc_R_flooding 56 rfl) ?_
    refine cV2I cs_R_448 sh119 rfl (Nat.le_of_ble_eq_true rfl) (Nat.le_of_ble_eq_true rfl) (a_dec_at dc_R_flooding 57 rfl) ?_
    refine CI.mono (fun x2 mi2 ml2 z2 H => ?_) H
    exact m_retI (a_dec_at dc_R_flooding 58 rfl) rfl rfl H
  · have H := H.2 b1
    refine ev_iload_n (i := 3) rfl rfl (a_dec_at dc_R_flooding 28 rfl) ?_
    refine ev_aload_n (i := 0) rfl rfl (a_dec_at dc_R_flooding 29 rfl) ?_
    refine ev_aload_n (i := 0) rfl rfl (a_dec_at dc_R_flooding 30 rfl) ?_
    refine ev_iload_n (i := 1) rfl rfl (a_dec_at dc_R_flooding 31 rfl) ?_
    refine cV1I cs_R_246 sh119 rfl (Nat.le_of_ble_eq_true rfl) (Nat.le_of_ble_eq_true rfl) (a_dec_at dc_R_flooding 32 rfl) ?_
    refine CI.mono (fun x3 mi3 ml3 z3 H => ?_) H
    refine ev_iload rfl (a_dec_at dc_R_flooding 33 rfl) ?_
    refine ev_iconst (v := (-1)) rfl (a_dec_at dc_R_flooding 34 rfl) ?_
    refine ev_ixor (a_dec_at dc_R_flooding 35 rfl) ?_
    refine ev_iand (a_dec_at dc_R_flooding 36 rfl) ?_
    refine cV1I cs_R_249 sh119 rfl (Nat.le_of_ble_eq_true rfl) (Nat.le_of_ble_eq_true rfl) (a_dec_at dc_R_flooding 37 rfl) ?_
    refine CI.mono (fun x4 mi4 ml4 z4 H => ?_) H
    refine ev_aload_n (i := 0) rfl rfl (a_dec_at dc_R_flooding 38 rfl) ?_
    refine m_getR (y := 120) fl_R_13 rfl sh119 (mr_119_1 _) (by decide) (a_dec_at dc_R_flooding 39 rfl) ?_
    refine ev_bipush (v := 25) rfl (a_dec_at dc_R_flooding 40 rfl) ?_
    refine ev_iload_n (i := 1) rfl rfl (a_dec_at dc_R_flooding 41 rfl) ?_
    refine ev_iadd (a_dec_at dc_R_flooding 42 rfl) ?_
    obtain ⟨c5, H⟩ := H
    refine w_iald (k := (25 + v1).toNatClampNeg) sh120 c5 rfl (a_dec_at dc_R_flooding 43 rfl) ?_
    refine ev_icmp_le (tgt := 81) (a_dec_at dc_R_flooding 44 rfl) (by decide) (fun b6 => ?_) (fun b6 => ?_)
    · have H := H.1 b6
      refine ev_iconst (v := 0) rfl (a_dec_at dc_R_flooding 49 rfl) ?_
      refine ev_iadd (a_dec_at dc_R_flooding 50 rfl) ?_
      refine ev_istore_n (i := 3) rfl (by decide) rfl (a_dec_at dc_R_flooding 51 rfl) ?_
      refine ev_iinc (v := 1) rfl rfl (by decide) rfl (a_dec_at dc_R_flooding 52 rfl) ?_
      refine ev_goto (tgt := 32) (a_dec_at dc_R_flooding 53 rfl) (by decide) ?_
      exact Ev.drop (L' := [.ref 119, .int v1, .int v2, .int (v3 + 0), .int (v4 + 1)]) (And.intro rfl (And.intro rfl (And.intro rfl (And.intro rfl (And.intro rfl trivial))))) H
    · have H := H.2 b6
      refine ev_aload_n (i := 0) rfl rfl (a_dec_at dc_R_flooding 45 rfl) ?_
      refine ev_iload rfl (a_dec_at dc_R_flooding 46 rfl) ?_
      refine cV1I cs_R_445 sh119 rfl (Nat.le_of_ble_eq_true rfl) (Nat.le_of_ble_eq_true rfl) (a_dec_at dc_R_flooding 47 rfl) ?_
      refine CI.mono (fun x7 mi7 ml7 z7 H => ?_) H
      refine ev_goto (tgt := 82) (a_dec_at dc_R_flooding 48 rfl) (by decide) ?_
      refine ev_iadd (a_dec_at dc_R_flooding 50 rfl) ?_
      refine ev_istore_n (i := 3) rfl (by decide) rfl (a_dec_at dc_R_flooding 51 rfl) ?_
      refine ev_iinc (v := 1) rfl rfl (by decide) rfl (a_dec_at dc_R_flooding 52 rfl) ?_
      refine ev_goto (tgt := 32) (a_dec_at dc_R_flooding 53 rfl) (by decide) ?_
      exact Ev.drop (L' := [.ref 119, .int v1, .int v2, .int (v3 + x7), .int (v4 + 1)]) (And.intro rfl (And.intro rfl (And.intro rfl (And.intro rfl (And.intro rfl trivial))))) H
set_option maxRecDepth 20000 in
theorem t_R_likelyDry {l : Launch} {h : Nat} (mi : TMi) (ml : TMl) (z : Nat) (a1 : Int32) {Q : Int32 → TMi → TMl → Nat → Prop} (H : Ev l (h + 1) m_R_likelyDry 4 ([.ref 119, .int a1, .int 1, .int 0], [], st mi ml z) (qI Q)) : CI l (h + 1) m_R_likelyDry [.ref 119, .int a1] mi ml z Q := by
  show Ev l (h + 1) m_R_likelyDry 0 ([.ref 119, .int a1, .retAddr 0, .retAddr 0], [], st mi ml z) (qI Q)
  refine ev_iconst (v := 1) rfl (a_dec_at dc_R_likelyDry 0 rfl) ?_
  refine ev_istore_n (i := 2) rfl (by decide) rfl (a_dec_at dc_R_likelyDry 1 rfl) ?_
  refine ev_iconst (v := 0) rfl (a_dec_at dc_R_likelyDry 2 rfl) ?_
  refine ev_istore_n (i := 3) rfl (by decide) rfl (a_dec_at dc_R_likelyDry 3 rfl) ?_
  exact Ev.drop (L' := [.ref 119, .int a1, .int 1, .int 0]) (And.intro rfl (And.intro rfl (And.intro rfl (And.intro rfl trivial)))) H
set_option maxRecDepth 20000 in
theorem t_R_likelyDry_4 {l : Launch} {h : Nat} (mi : TMi) (ml : TMl) (z : Nat) (v1 : Int32) (v2 : Int32) (v3 : Int32) {Q : Int32 → TMi → TMl → Nat → Prop} (H : (((mi 120 1) ≤ v3 → Q v2 mi ml z) ∧ (¬ (mi 120 1) ≤ v3 → CI l h m_R_isIn [.long v1.toInt64, .int v3] mi ml z (fun x2 mi2 ml2 z2 => ((x2 = 0 → (vp_in (15 + v3) 4113) ∧ Ev l (h + 1) m_R_likelyDry 4 ([.ref 119, .int v1, .int (v2 * (10 - (mi2 120 ((15 + v3).toNatClampNeg)))), .int (v3 + 1)], [], st mi2 ml2 z2) (qI Q)) ∧ (¬ x2 = 0 → (vp_in (15 + v3) 4113) ∧ Ev l (h + 1) m_R_likelyDry 4 ([.ref 119, .int v1, .int (v2 * (mi2 120 ((15 + v3).toNatClampNeg))), .int (v3 + 1)], [], st mi2 ml2 z2) (qI Q))))))) : Ev l (h + 1) m_R_likelyDry 4 ([.ref 119, .int v1, .int v2, .int v3], [], st mi ml z) (qI Q) := by
  refine ev_iload_n (i := 3) rfl rfl (a_dec_at dc_R_likelyDry 4 rfl) ?_
  refine ev_aload_n (i := 0) rfl rfl (a_dec_at dc_R_likelyDry 5 rfl) ?_
  refine m_getR (y := 120) fl_R_13 rfl sh119 (mr_119_1 _) (by decide) (a_dec_at dc_R_likelyDry 6 rfl) ?_
  refine ev_iconst (v := 1) rfl (a_dec_at dc_R_likelyDry 7 rfl) ?_
  refine w_iald (k := 1) sh120 (by unfold vp_in; decide) (by decide) (a_dec_at dc_R_likelyDry 8 rfl) ?_
  refine ev_icmp_ge (tgt := 56) (a_dec_at dc_R_likelyDry 9 rfl) (by decide) (fun b1 => ?_) (fun b1 => ?_)
  · have H := H.1 b1
    refine ev_iload_n (i := 2) rfl rfl (a_dec_at dc_R_likelyDry 35 rfl) ?_
    exact m_retI (a_dec_at dc_R_likelyDry 36 rfl) rfl rfl H
  · have H := H.2 b1
    refine ev_iload_n (i := 2) rfl rfl (a_dec_at dc_R_likelyDry 10 rfl) ?_
    refine ev_iload_n (i := 1) rfl rfl (a_dec_at dc_R_likelyDry 11 rfl) ?_
    refine ev_i2l (a_dec_at dc_R_likelyDry 12 rfl) ?_
    refine ev_iload_n (i := 3) rfl rfl (a_dec_at dc_R_likelyDry 13 rfl) ?_
    refine cS2I cs_R_221 rfl (Nat.le_of_ble_eq_true rfl) (Nat.le_of_ble_eq_true rfl) (a_dec_at dc_R_likelyDry 14 rfl) ?_
    refine CI.mono (fun x2 mi2 ml2 z2 H => ?_) H
    refine ev_if_eq (tgt := 36) (a_dec_at dc_R_likelyDry 15 rfl) (by decide) (fun b3 => ?_) (fun b3 => ?_)
    · have H := H.1 b3
      refine ev_bipush (v := 10) rfl (a_dec_at dc_R_likelyDry 23 rfl) ?_
      refine ev_aload_n (i := 0) rfl rfl (a_dec_at dc_R_likelyDry 24 rfl) ?_
      refine m_getR (y := 120) fl_R_13 rfl sh119 (mr_119_1 _) (by decide) (a_dec_at dc_R_likelyDry 25 rfl) ?_
      refine ev_bipush (v := 15) rfl (a_dec_at dc_R_likelyDry 26 rfl) ?_
      refine ev_iload_n (i := 3) rfl rfl (a_dec_at dc_R_likelyDry 27 rfl) ?_
      refine ev_iadd (a_dec_at dc_R_likelyDry 28 rfl) ?_
      obtain ⟨c4, H⟩ := H
      refine w_iald (k := (15 + v3).toNatClampNeg) sh120 c4 rfl (a_dec_at dc_R_likelyDry 29 rfl) ?_
      refine ev_isub (a_dec_at dc_R_likelyDry 30 rfl) ?_
      refine ev_imul (a_dec_at dc_R_likelyDry 31 rfl) ?_
      refine ev_istore_n (i := 2) rfl (by decide) rfl (a_dec_at dc_R_likelyDry 32 rfl) ?_
      refine ev_iinc (v := 1) rfl rfl (by decide) rfl (a_dec_at dc_R_likelyDry 33 rfl) ?_
      refine ev_goto (tgt := 4) (a_dec_at dc_R_likelyDry 34 rfl) (by decide) ?_
      exact Ev.drop (L' := [.ref 119, .int v1, .int (v2 * (10 - (mi2 120 ((15 + v3).toNatClampNeg)))), .int (v3 + 1)]) (And.intro rfl (And.intro rfl (And.intro rfl (And.intro rfl trivial)))) H
    · have H := H.2 b3
      refine ev_aload_n (i := 0) rfl rfl (a_dec_at dc_R_likelyDry 16 rfl) ?_
      refine m_getR (y := 120) fl_R_13 rfl sh119 (mr_119_1 _) (by decide) (a_dec_at dc_R_likelyDry 17 rfl) ?_
      refine ev_bipush (v := 15) rfl (a_dec_at dc_R_likelyDry 18 rfl) ?_
      refine ev_iload_n (i := 3) rfl rfl (a_dec_at dc_R_likelyDry 19 rfl) ?_
      refine ev_iadd (a_dec_at dc_R_likelyDry 20 rfl) ?_
      obtain ⟨c5, H⟩ := H
      refine w_iald (k := (15 + v3).toNatClampNeg) sh120 c5 rfl (a_dec_at dc_R_likelyDry 21 rfl) ?_
      refine ev_goto (tgt := 48) (a_dec_at dc_R_likelyDry 22 rfl) (by decide) ?_
      refine ev_imul (a_dec_at dc_R_likelyDry 31 rfl) ?_
      refine ev_istore_n (i := 2) rfl (by decide) rfl (a_dec_at dc_R_likelyDry 32 rfl) ?_
      refine ev_iinc (v := 1) rfl rfl (by decide) rfl (a_dec_at dc_R_likelyDry 33 rfl) ?_
      refine ev_goto (tgt := 4) (a_dec_at dc_R_likelyDry 34 rfl) (by decide) ?_
      exact Ev.drop (L' := [.ref 119, .int v1, .int (v2 * (mi2 120 ((15 + v3).toNatClampNeg))), .int (v3 + 1)]) (And.intro rfl (And.intro rfl (And.intro rfl (And.intro rfl trivial)))) H
set_option maxRecDepth 20000 in
theorem t_R_part {l : Launch} {h : Nat} (mi : TMi) (ml : TMl) (z : Nat) (a1 : Int32) (a2 : Int32) {Q : Int32 → TMi → TMl → Nat → Prop} (H : CI l h m_R_wholeOf [.ref 119] mi ml z (fun x1 mi1 ml1 z1 => CI l h m_R_common [.int a1, .int x1] mi1 ml1 z1 (fun x2 mi2 ml2 z2 => ((¬ a2 = 0 → CI l h m_R_wholeOf [.ref 119] mi2 ml2 z2 (fun x4 mi4 ml4 z4 => (¬ x2 = 0) ∧ Q (x4 / x2) mi4 ml4 z4)) ∧ (a2 = 0 → (¬ x2 = 0) ∧ Q (a1 / x2) mi2 ml2 z2))))) : CI l (h + 1) m_R_part [.ref 119, .int a1, .int a2] mi ml z Q := by
  show Ev l (h + 1) m_R_part 0 ([.ref 119, .int a1, .int a2, .retAddr 0], [], st mi ml z) (qI Q)
  refine ev_iload_n (i := 1) rfl rfl (a_dec_at dc_R_part 0 rfl) ?_
  refine ev_aload_n (i := 0) rfl rfl (a_dec_at dc_R_part 1 rfl) ?_
  refine cV0I cs_R_442 sh119 rfl (Nat.le_of_ble_eq_true rfl) (Nat.le_of_ble_eq_true rfl) (a_dec_at dc_R_part 2 rfl) ?_
  refine CI.mono (fun x1 mi1 ml1 z1 H => ?_) H
  refine cS2I cs_R_439 rfl (Nat.le_of_ble_eq_true rfl) (Nat.le_of_ble_eq_true rfl) (a_dec_at dc_R_part 3 rfl) ?_
  refine CI.mono (fun x2 mi2 ml2 z2 H => ?_) H
  refine ev_istore_n (i := 3) rfl (by decide) rfl (a_dec_at dc_R_part 4 rfl) ?_
  refine ev_iload_n (i := 2) rfl rfl (a_dec_at dc_R_part 5 rfl) ?_
  refine ev_if_ne (tgt := 17) (a_dec_at dc_R_part 6 rfl) (by decide) (fun b3 => ?_) (fun b3 => ?_)
  · have H := H.1 b3
    refine ev_aload_n (i := 0) rfl rfl (a_dec_at dc_R_part 9 rfl) ?_
    refine cV0I cs_R_442 sh119 rfl (Nat.le_of_ble_eq_true rfl) (Nat.le_of_ble_eq_true rfl) (a_dec_at dc_R_part 10 rfl) ?_
    refine CI.mono (fun x4 mi4 ml4 z4 H => ?_) H
    refine ev_iload_n (i := 3) rfl rfl (a_dec_at dc_R_part 11 rfl) ?_
    obtain ⟨c5, H⟩ := H
    refine ev_idiv c5 (a_dec_at dc_R_part 12 rfl) ?_
    exact m_retI (a_dec_at dc_R_part 13 rfl) rfl rfl H
  · have H := H.2 b3
    refine ev_iload_n (i := 1) rfl rfl (a_dec_at dc_R_part 7 rfl) ?_
    refine ev_goto (tgt := 21) (a_dec_at dc_R_part 8 rfl) (by decide) ?_
    refine ev_iload_n (i := 3) rfl rfl (a_dec_at dc_R_part 11 rfl) ?_
    obtain ⟨c6, H⟩ := H
    refine ev_idiv c6 (a_dec_at dc_R_part 12 rfl) ?_
    exact m_retI (a_dec_at dc_R_part 13 rfl) rfl rfl H
set_option maxRecDepth 20000 in
theorem t_R_wholeOf {l : Launch} {h : Nat} (mi : TMi) (ml : TMl) (z : Nat) {Q : Int32 → TMi → TMl → Nat → Prop} (H : Ev l (h + 1) m_R_wholeOf 4 ([.ref 119, .int 1, .int 0], [], st mi ml z) (qI Q)) : CI l (h + 1) m_R_wholeOf [.ref 119] mi ml z Q := by
  show Ev l (h + 1) m_R_wholeOf 0 ([.ref 119, .retAddr 0, .retAddr 0], [], st mi ml z) (qI Q)
  refine ev_iconst (v := 1) rfl (a_dec_at dc_R_wholeOf 0 rfl) ?_
  refine ev_istore_n (i := 1) rfl (by decide) rfl (a_dec_at dc_R_wholeOf 1 rfl) ?_
  refine ev_iconst (v := 0) rfl (a_dec_at dc_R_wholeOf 2 rfl) ?_
  refine ev_istore_n (i := 2) rfl (by decide) rfl (a_dec_at dc_R_wholeOf 3 rfl) ?_
  exact Ev.drop (L' := [.ref 119, .int 1, .int 0]) (And.intro rfl (And.intro rfl (And.intro rfl trivial))) H
set_option maxRecDepth 20000 in
theorem t_R_wholeOf_4 {l : Launch} {h : Nat} (mi : TMi) (ml : TMl) (z : Nat) (v1 : Int32) (v2 : Int32) {Q : Int32 → TMi → TMl → Nat → Prop} (H : (((mi 120 1) ≤ v2 → Q v1 mi ml z) ∧ (¬ (mi 120 1) ≤ v2 → Ev l (h + 1) m_R_wholeOf 4 ([.ref 119, .int (v1 * 10), .int (v2 + 1)], [], st mi ml z) (qI Q)))) : Ev l (h + 1) m_R_wholeOf 4 ([.ref 119, .int v1, .int v2], [], st mi ml z) (qI Q) := by
  refine ev_iload_n (i := 2) rfl rfl (a_dec_at dc_R_wholeOf 4 rfl) ?_
  refine ev_aload_n (i := 0) rfl rfl (a_dec_at dc_R_wholeOf 5 rfl) ?_
  refine m_getR (y := 120) fl_R_13 rfl sh119 (mr_119_1 _) (by decide) (a_dec_at dc_R_wholeOf 6 rfl) ?_
  refine ev_iconst (v := 1) rfl (a_dec_at dc_R_wholeOf 7 rfl) ?_
  refine w_iald (k := 1) sh120 (by unfold vp_in; decide) (by decide) (a_dec_at dc_R_wholeOf 8 rfl) ?_
  refine ev_icmp_ge (tgt := 25) (a_dec_at dc_R_wholeOf 9 rfl) (by decide) (fun b1 => ?_) (fun b1 => ?_)
  · have H := H.1 b1
    refine ev_iload_n (i := 1) rfl rfl (a_dec_at dc_R_wholeOf 16 rfl) ?_
    exact m_retI (a_dec_at dc_R_wholeOf 17 rfl) rfl rfl H
  · have H := H.2 b1
    refine ev_iload_n (i := 1) rfl rfl (a_dec_at dc_R_wholeOf 10 rfl) ?_
    refine ev_bipush (v := 10) rfl (a_dec_at dc_R_wholeOf 11 rfl) ?_
    refine ev_imul (a_dec_at dc_R_wholeOf 12 rfl) ?_
    refine ev_istore_n (i := 1) rfl (by decide) rfl (a_dec_at dc_R_wholeOf 13 rfl) ?_
    refine ev_iinc (v := 1) rfl rfl (by decide) rfl (a_dec_at dc_R_wholeOf 14 rfl) ?_
    refine ev_goto (tgt := 4) (a_dec_at dc_R_wholeOf 15 rfl) (by decide) ?_
    exact Ev.drop (L' := [.ref 119, .int (v1 * 10), .int (v2 + 1)]) (And.intro rfl (And.intro rfl (And.intro rfl trivial))) H
set_option maxRecDepth 20000 in
theorem t_R_common {l : Launch} {h : Nat} (mi : TMi) (ml : TMl) (z : Nat) (a1 : Int32) (a2 : Int32) {Q : Int32 → TMi → TMl → Nat → Prop} (H : ((¬ a2 = 0 → (¬ a2 = 0) ∧ CI l h m_R_common [.int a2, .int (a_rem a1 a2)] mi ml z (fun x3 mi3 ml3 z3 => Q x3 mi3 ml3 z3)) ∧ (a2 = 0 → Q a1 mi ml z))) : CI l (h + 1) m_R_common [.int a1, .int a2] mi ml z Q := by
  show Ev l (h + 1) m_R_common 0 ([.int a1, .int a2], [], st mi ml z) (qI Q)
  refine ev_iload_n (i := 1) rfl rfl (a_dec_at dc_R_common 0 rfl) ?_
  refine ev_if_ne (tgt := 8) (a_dec_at dc_R_common 1 rfl) (by decide) (fun b1 => ?_) (fun b1 => ?_)
  · have H := H.1 b1
    refine ev_iload_n (i := 1) rfl rfl (a_dec_at dc_R_common 4 rfl) ?_
    refine ev_iload_n (i := 0) rfl rfl (a_dec_at dc_R_common 5 rfl) ?_
    refine ev_iload_n (i := 1) rfl rfl (a_dec_at dc_R_common 6 rfl) ?_
    obtain ⟨c2, H⟩ := H
    refine ev_irem c2 (a_dec_at dc_R_common 7 rfl) ?_
    refine cS2I cs_R_439 rfl (Nat.le_of_ble_eq_true rfl) (Nat.le_of_ble_eq_true rfl) (a_dec_at dc_R_common 8 rfl) ?_
    refine CI.mono (fun x3 mi3 ml3 z3 H => ?_) H
    exact m_retI (a_dec_at dc_R_common 9 rfl) rfl rfl H
  · have H := H.2 b1
    refine ev_iload_n (i := 0) rfl rfl (a_dec_at dc_R_common 2 rfl) ?_
    refine ev_goto (tgt := 15) (a_dec_at dc_R_common 3 rfl) (by decide) ?_
    exact m_retI (a_dec_at dc_R_common 9 rfl) rfl rfl H
set_option maxRecDepth 20000 in
theorem t_R_staying {l : Launch} {h : Nat} (mi : TMi) (ml : TMl) (z : Nat) (a1 : Int32) (a2 : Int32) {Q : Int32 → TMi → TMl → Nat → Prop} (H : CI l h m_R_isBeck [.ref 119, .long a1.toInt64] (up mi 119 0 0) ml z (fun x1 mi1 ml1 z1 => ((x1 = 0 → Q (-2) mi1 ml1 z1) ∧ (¬ x1 = 0 → CI l h m_R_within [.long a2.toInt64, .long 0, .long 1] mi1 ml1 z1 (fun x3 mi3 ml3 z3 => ((¬ x3 = 0 → CV l h m_R_laysLikes [.ref 119] mi3 ml3 z3 (fun mi5 ml5 z5 => CV l h m_R_laysByBecks [.ref 119, .int 0] mi5 ml5 z5 (fun mi6 ml6 z6 => (vp_in a1 6) ∧ Ev l (h + 1) m_R_staying 49 ([.ref 119, .int a1, .int a2, .int (mi6 129 a1.toNatClampNeg), .int 0, .int 0], [], st mi6 ml6 z6) (qI Q)))) ∧ (x3 = 0 → Q (-2) mi3 ml3 z3))))))) : CI l (h + 1) m_R_staying [.ref 119, .int a1, .int a2] mi ml z Q := by
  show Ev l (h + 1) m_R_staying 0 ([.ref 119, .int a1, .int a2, .retAddr 0, .retAddr 0, .retAddr 0], [], st mi ml z) (qI Q)
  refine ev_aload_n (i := 0) rfl rfl (a_dec_at dc_R_staying 0 rfl) ?_
  refine ev_iconst (v := 0) rfl (a_dec_at dc_R_staying 1 rfl) ?_
  refine m_putI fl_R_1 rfl (fun _ _ _ h => by cases h; exact Or.inl rfl) sh119 (a_dec_at dc_R_staying 2 rfl) ?_
  refine ev_aload_n (i := 0) rfl rfl (a_dec_at dc_R_staying 3 rfl) ?_
  refine ev_iload_n (i := 1) rfl rfl (a_dec_at dc_R_staying 4 rfl) ?_
  refine ev_i2l (a_dec_at dc_R_staying 5 rfl) ?_
  refine cV1I cs_R_233 sh119 rfl (Nat.le_of_ble_eq_true rfl) (Nat.le_of_ble_eq_true rfl) (a_dec_at dc_R_staying 6 rfl) ?_
  refine CI.mono (fun x1 mi1 ml1 z1 H => ?_) H
  refine ev_if_eq (tgt := 24) (a_dec_at dc_R_staying 7 rfl) (by decide) (fun b2 => ?_) (fun b2 => ?_)
  · have H := H.1 b2
    refine ev_bipush (v := (-2)) rfl (a_dec_at dc_R_staying 14 rfl) ?_
    exact m_retI (a_dec_at dc_R_staying 15 rfl) rfl rfl H
  · have H := H.2 b2
    refine ev_iload_n (i := 2) rfl rfl (a_dec_at dc_R_staying 8 rfl) ?_
    refine ev_i2l (a_dec_at dc_R_staying 9 rfl) ?_
    refine ev_lconst (v := 0) rfl (a_dec_at dc_R_staying 10 rfl) ?_
    refine ev_lconst (v := 1) rfl (a_dec_at dc_R_staying 11 rfl) ?_
    refine cS3I cs_R_139 rfl (Nat.le_of_ble_eq_true rfl) (Nat.le_of_ble_eq_true rfl) (a_dec_at dc_R_staying 12 rfl) ?_
    refine CI.mono (fun x3 mi3 ml3 z3 H => ?_) H
    refine ev_if_ne (tgt := 27) (a_dec_at dc_R_staying 13 rfl) (by decide) (fun b4 => ?_) (fun b4 => ?_)
    · have H := H.1 b4
      refine ev_aload_n (i := 0) rfl rfl (a_dec_at dc_R_staying 16 rfl) ?_
      refine cV0V cs_R_237 sh119 rfl (Nat.le_of_ble_eq_true rfl) (Nat.le_of_ble_eq_true rfl) (a_dec_at dc_R_staying 17 rfl) ?_
      refine CV.mono (fun mi5 ml5 z5 H => ?_) H
      refine ev_aload_n (i := 0) rfl rfl (a_dec_at dc_R_staying 18 rfl) ?_
      refine ev_iconst (v := 0) rfl (a_dec_at dc_R_staying 19 rfl) ?_
      refine cV1V cs_R_421 sh119 rfl (Nat.le_of_ble_eq_true rfl) (Nat.le_of_ble_eq_true rfl) (a_dec_at dc_R_staying 20 rfl) ?_
      refine CV.mono (fun mi6 ml6 z6 H => ?_) H
      refine ev_aload_n (i := 0) rfl rfl (a_dec_at dc_R_staying 21 rfl) ?_
      refine m_getR (y := 129) fl_R_45 rfl sh119 (mr_119_23 _) (by decide) (a_dec_at dc_R_staying 22 rfl) ?_
      refine ev_iload_n (i := 1) rfl rfl (a_dec_at dc_R_staying 23 rfl) ?_
      obtain ⟨c7, H⟩ := H
      refine w_iald (k := a1.toNatClampNeg) sh129 c7 rfl (a_dec_at dc_R_staying 24 rfl) ?_
      refine ev_istore_n (i := 3) rfl (by decide) rfl (a_dec_at dc_R_staying 25 rfl) ?_
      refine ev_iconst (v := 0) rfl (a_dec_at dc_R_staying 26 rfl) ?_
      refine ev_istore (by decide) rfl (a_dec_at dc_R_staying 27 rfl) ?_
      refine ev_iconst (v := 0) rfl (a_dec_at dc_R_staying 28 rfl) ?_
      refine ev_istore (by decide) rfl (a_dec_at dc_R_staying 29 rfl) ?_
      exact Ev.drop (L' := [.ref 119, .int a1, .int a2, .int (mi6 129 a1.toNatClampNeg), .int 0, .int 0]) (And.intro rfl (And.intro rfl (And.intro rfl (And.intro rfl (And.intro rfl (And.intro rfl trivial)))))) H
    · have H := H.2 b4
      refine ev_bipush (v := (-2)) rfl (a_dec_at dc_R_staying 14 rfl) ?_
      exact m_retI (a_dec_at dc_R_staying 15 rfl) rfl rfl H
set_option maxRecDepth 20000 in
theorem t_R_staying_49 {l : Launch} {h : Nat} (mi : TMi) (ml : TMl) (z : Nat) (v1 : Int32) (v2 : Int32) (v3 : Int32) (v4 : Int32) (v5 : Int32) {Q : Int32 → TMi → TMl → Nat → Prop} (H : ((((1 : Int32) <<< ((mi 120 1) &&& 31)) ≤ v5 → CI l h m_R_part [.ref 119, .int v4, .int v2] mi ml z (fun x2 mi2 ml2 z2 => Q x2 mi2 ml2 z2)) ∧ (¬ ((1 : Int32) <<< ((mi 120 1) &&& 31)) ≤ v5 → ((v3 = (-1) → CI l h m_R_part [.ref 119, .int v4, .int v2] mi ml z (fun x4 mi4 ml4 z4 => Q x4 mi4 ml4 z4)) ∧ (¬ v3 = (-1) → CI l h m_R_isIn [.long v5.toInt64, .int v1] mi ml z (fun x5 mi5 ml5 z5 => ((x5 = 0 → CV l h m_R_laysByBecks [.ref 119, .int v5] mi5 ml5 z5 (fun mi7 ml7 z7 => (vp_in v1 6) ∧ ((¬ (mi7 129 v1.toNatClampNeg) = v3 → Ev l (h + 1) m_R_staying 49 ([.ref 119, .int v1, .int v2, .int v3, .int (v4 + 0), .int (v5 + 1)], [], st mi7 ml7 z7) (qI Q)) ∧ ((mi7 129 v1.toNatClampNeg) = v3 → CI l h m_R_likelyDry [.ref 119, .int v5] mi7 ml7 z7 (fun x10 mi10 ml10 z10 => Ev l (h + 1) m_R_staying 49 ([.ref 119, .int v1, .int v2, .int v3, .int (v4 + x10), .int (v5 + 1)], [], st mi10 ml10 z10) (qI Q)))))) ∧ (¬ x5 = 0 → Ev l (h + 1) m_R_staying 49 ([.ref 119, .int v1, .int v2, .int v3, .int v4, .int (v5 + 1)], [], st mi5 ml5 z5) (qI Q))))))))) : Ev l (h + 1) m_R_staying 49 ([.ref 119, .int v1, .int v2, .int v3, .int v4, .int v5], [], st mi ml z) (qI Q) := by
  refine ev_iload rfl (a_dec_at dc_R_staying 30 rfl) ?_
  refine ev_iconst (v := 1) rfl (a_dec_at dc_R_staying 31 rfl) ?_
  refine ev_aload_n (i := 0) rfl rfl (a_dec_at dc_R_staying 32 rfl) ?_
  refine m_getR (y := 120) fl_R_13 rfl sh119 (mr_119_1 _) (by decide) (a_dec_at dc_R_staying 33 rfl) ?_
  refine ev_iconst (v := 1) rfl (a_dec_at dc_R_staying 34 rfl) ?_
  refine w_iald (k := 1) sh120 (by unfold vp_in; decide) (by decide) (a_dec_at dc_R_staying 35 rfl) ?_
  refine ev_ishl (a_dec_at dc_R_staying 36 rfl) ?_
  refine ev_icmp_ge (tgt := 117) (a_dec_at dc_R_staying 37 rfl) (by decide) (fun b1 => ?_) (fun b1 => ?_)
  · have H := H.1 b1
    refine ev_aload_n (i := 0) rfl rfl (a_dec_at dc_R_staying 66 rfl) ?_
    refine ev_iload rfl (a_dec_at dc_R_staying 67 rfl) ?_
    refine ev_iload_n (i := 2) rfl rfl (a_dec_at dc_R_staying 68 rfl) ?_
    refine cV2I cs_R_448 sh119 rfl (Nat.le_of_ble_eq_true rfl) (Nat.le_of_ble_eq_true rfl) (a_dec_at dc_R_staying 69 rfl) ?_
    refine CI.mono (fun x2 mi2 ml2 z2 H => ?_) H
    exact m_retI (a_dec_at dc_R_staying 70 rfl) rfl rfl H
  · have H := H.2 b1
    refine ev_iload_n (i := 3) rfl rfl (a_dec_at dc_R_staying 38 rfl) ?_
    refine ev_iconst (v := (-1)) rfl (a_dec_at dc_R_staying 39 rfl) ?_
    refine ev_icmp_eq (tgt := 117) (a_dec_at dc_R_staying 40 rfl) (by decide) (fun b3 => ?_) (fun b3 => ?_)
    · have H := H.1 b3
      refine ev_aload_n (i := 0) rfl rfl (a_dec_at dc_R_staying 66 rfl) ?_
      refine ev_iload rfl (a_dec_at dc_R_staying 67 rfl) ?_
      refine ev_iload_n (i := 2) rfl rfl (a_dec_at dc_R_staying 68 rfl) ?_
      refine cV2I cs_R_448 sh119 rfl (Nat.le_of_ble_eq_true rfl) (Nat.le_of_ble_eq_true rfl) (a_dec_at dc_R_staying 69 rfl) ?_
      refine CI.mono (fun x4 mi4 ml4 z4 H => ?_) H
      exact m_retI (a_dec_at dc_R_staying 70 rfl) rfl rfl H
    · have H := H.2 b3
      refine ev_iload rfl (a_dec_at dc_R_staying 41 rfl) ?_
      refine ev_i2l (a_dec_at dc_R_staying 42 rfl) ?_
      refine ev_iload_n (i := 1) rfl rfl (a_dec_at dc_R_staying 43 rfl) ?_
      refine cS2I cs_R_221 rfl (Nat.le_of_ble_eq_true rfl) (Nat.le_of_ble_eq_true rfl) (a_dec_at dc_R_staying 44 rfl) ?_
      refine CI.mono (fun x5 mi5 ml5 z5 H => ?_) H
      refine ev_if_eq (tgt := 80) (a_dec_at dc_R_staying 45 rfl) (by decide) (fun b6 => ?_) (fun b6 => ?_)
      · have H := H.1 b6
        refine ev_aload_n (i := 0) rfl rfl (a_dec_at dc_R_staying 47 rfl) ?_
        refine ev_iload rfl (a_dec_at dc_R_staying 48 rfl) ?_
        refine cV1V cs_R_421 sh119 rfl (Nat.le_of_ble_eq_true rfl) (Nat.le_of_ble_eq_true rfl) (a_dec_at dc_R_staying 49 rfl) ?_
        refine CV.mono (fun mi7 ml7 z7 H => ?_) H
        refine ev_iload rfl (a_dec_at dc_R_staying 50 rfl) ?_
        refine ev_aload_n (i := 0) rfl rfl (a_dec_at dc_R_staying 51 rfl) ?_
        refine m_getR (y := 129) fl_R_45 rfl sh119 (mr_119_23 _) (by decide) (a_dec_at dc_R_staying 52 rfl) ?_
        refine ev_iload_n (i := 1) rfl rfl (a_dec_at dc_R_staying 53 rfl) ?_
        obtain ⟨c8, H⟩ := H
        refine w_iald (k := v1.toNatClampNeg) sh129 c8 rfl (a_dec_at dc_R_staying 54 rfl) ?_
        refine ev_iload_n (i := 3) rfl rfl (a_dec_at dc_R_staying 55 rfl) ?_
        refine ev_icmp_ne (tgt := 107) (a_dec_at dc_R_staying 56 rfl) (by decide) (fun b9 => ?_) (fun b9 => ?_)
        · have H := H.1 b9
          refine ev_iconst (v := 0) rfl (a_dec_at dc_R_staying 61 rfl) ?_
          refine ev_iadd (a_dec_at dc_R_staying 62 rfl) ?_
          refine ev_istore (by decide) rfl (a_dec_at dc_R_staying 63 rfl) ?_
          refine ev_iinc (v := 1) rfl rfl (by decide) rfl (a_dec_at dc_R_staying 64 rfl) ?_
          refine ev_goto (tgt := 49) (a_dec_at dc_R_staying 65 rfl) (by decide) ?_
          exact Ev.drop (L' := [.ref 119, .int v1, .int v2, .int v3, .int (v4 + 0), .int (v5 + 1)]) (And.intro rfl (And.intro rfl (And.intro rfl (And.intro rfl (And.intro rfl (And.intro rfl trivial)))))) H
        · have H := H.2 b9
          refine ev_aload_n (i := 0) rfl rfl (a_dec_at dc_R_staying 57 rfl) ?_
          refine ev_iload rfl (a_dec_at dc_R_staying 58 rfl) ?_
          refine cV1I cs_R_445 sh119 rfl (Nat.le_of_ble_eq_true rfl) (Nat.le_of_ble_eq_true rfl) (a_dec_at dc_R_staying 59 rfl) ?_
          refine CI.mono (fun x10 mi10 ml10 z10 H => ?_) H
          refine ev_goto (tgt := 108) (a_dec_at dc_R_staying 60 rfl) (by decide) ?_
          refine ev_iadd (a_dec_at dc_R_staying 62 rfl) ?_
          refine ev_istore (by decide) rfl (a_dec_at dc_R_staying 63 rfl) ?_
          refine ev_iinc (v := 1) rfl rfl (by decide) rfl (a_dec_at dc_R_staying 64 rfl) ?_
          refine ev_goto (tgt := 49) (a_dec_at dc_R_staying 65 rfl) (by decide) ?_
          exact Ev.drop (L' := [.ref 119, .int v1, .int v2, .int v3, .int (v4 + x10), .int (v5 + 1)]) (And.intro rfl (And.intro rfl (And.intro rfl (And.intro rfl (And.intro rfl (And.intro rfl trivial)))))) H
      · have H := H.2 b6
        refine ev_goto (tgt := 111) (a_dec_at dc_R_staying 46 rfl) (by decide) ?_
        refine ev_iinc (v := 1) rfl rfl (by decide) rfl (a_dec_at dc_R_staying 64 rfl) ?_
        refine ev_goto (tgt := 49) (a_dec_at dc_R_staying 65 rfl) (by decide) ?_
        exact Ev.drop (L' := [.ref 119, .int v1, .int v2, .int v3, .int v4, .int (v5 + 1)]) (And.intro rfl (And.intro rfl (And.intro rfl (And.intro rfl (And.intro rfl (And.intro rfl trivial)))))) H
set_option maxRecDepth 20000 in
theorem t_R_numbers {l : Launch} {h : Nat} (mi : TMi) (ml : TMl) (z : Nat) (a1 : Int32) (a2 : Int32) (a3 : Int32) {Q : Int32 → TMi → TMl → Nat → Prop} (H : CI l h m_R_within [.long a1.toInt64, .long 0, .long 3] (up mi 119 0 0) ml z (fun x1 mi1 ml1 z1 => ((x1 = 0 → Q (-2) mi1 ml1 z1) ∧ (¬ x1 = 0 → CI l h m_R_within [.long a2.toInt64, .long 0, .long 3] mi1 ml1 z1 (fun x3 mi3 ml3 z3 => ((¬ x3 = 0 → CI l h m_R_within [.long a3.toInt64, .long 0, .long 40] mi3 ml3 z3 (fun x5 mi5 ml5 z5 => ((¬ x5 = 0 → (vp_in a1 4) ∧ (vp_in a1 4) ∧ Ev l (h + 1) m_R_numbers 64 ([.ref 119, .int a1, .retAddr 0, .int a3, .int 0], [], st (up (up mi5 134 a1.toNatClampNeg a2) 135 a1.toNatClampNeg a3) ml5 z5) (qI Q)) ∧ (x5 = 0 → Q (-3) mi5 ml5 z5)))) ∧ (x3 = 0 → Q (-2) mi3 ml3 z3))))))) : CI l (h + 1) m_R_numbers [.ref 119, .int a1, .int a2, .int a3] mi ml z Q := by
  show Ev l (h + 1) m_R_numbers 0 ([.ref 119, .int a1, .int a2, .int a3, .retAddr 0], [], st mi ml z) (qI Q)
  refine ev_aload_n (i := 0) rfl rfl (a_dec_at dc_R_numbers 0 rfl) ?_
  refine ev_iconst (v := 0) rfl (a_dec_at dc_R_numbers 1 rfl) ?_
  refine m_putI fl_R_1 rfl (fun _ _ _ h => by cases h; exact Or.inl rfl) sh119 (a_dec_at dc_R_numbers 2 rfl) ?_
  refine ev_iload_n (i := 1) rfl rfl (a_dec_at dc_R_numbers 3 rfl) ?_
  refine ev_i2l (a_dec_at dc_R_numbers 4 rfl) ?_
  refine ev_lconst (v := 0) rfl (a_dec_at dc_R_numbers 5 rfl) ?_
  refine ev_ldc2 kc_R_320 (a_dec_at dc_R_numbers 6 rfl) ?_
  refine cS3I cs_R_139 rfl (Nat.le_of_ble_eq_true rfl) (Nat.le_of_ble_eq_true rfl) (a_dec_at dc_R_numbers 7 rfl) ?_
  refine CI.mono (fun x1 mi1 ml1 z1 H => ?_) H
  refine ev_if_eq (tgt := 29) (a_dec_at dc_R_numbers 8 rfl) (by decide) (fun b2 => ?_) (fun b2 => ?_)
  · have H := H.1 b2
    refine ev_bipush (v := (-2)) rfl (a_dec_at dc_R_numbers 15 rfl) ?_
    exact m_retI (a_dec_at dc_R_numbers 16 rfl) rfl rfl H
  · have H := H.2 b2
    refine ev_iload_n (i := 2) rfl rfl (a_dec_at dc_R_numbers 9 rfl) ?_
    refine ev_i2l (a_dec_at dc_R_numbers 10 rfl) ?_
    refine ev_lconst (v := 0) rfl (a_dec_at dc_R_numbers 11 rfl) ?_
    refine ev_ldc2 kc_R_320 (a_dec_at dc_R_numbers 12 rfl) ?_
    refine cS3I cs_R_139 rfl (Nat.le_of_ble_eq_true rfl) (Nat.le_of_ble_eq_true rfl) (a_dec_at dc_R_numbers 13 rfl) ?_
    refine CI.mono (fun x3 mi3 ml3 z3 H => ?_) H
    refine ev_if_ne (tgt := 32) (a_dec_at dc_R_numbers 14 rfl) (by decide) (fun b4 => ?_) (fun b4 => ?_)
    · have H := H.1 b4
      refine ev_iload_n (i := 3) rfl rfl (a_dec_at dc_R_numbers 17 rfl) ?_
      refine ev_i2l (a_dec_at dc_R_numbers 18 rfl) ?_
      refine ev_lconst (v := 0) rfl (a_dec_at dc_R_numbers 19 rfl) ?_
      refine ev_ldc2 kc_R_341 (a_dec_at dc_R_numbers 20 rfl) ?_
      refine cS3I cs_R_139 rfl (Nat.le_of_ble_eq_true rfl) (Nat.le_of_ble_eq_true rfl) (a_dec_at dc_R_numbers 21 rfl) ?_
      refine CI.mono (fun x5 mi5 ml5 z5 H => ?_) H
      refine ev_if_ne (tgt := 47) (a_dec_at dc_R_numbers 22 rfl) (by decide) (fun b6 => ?_) (fun b6 => ?_)
      · have H := H.1 b6
        refine ev_aload_n (i := 0) rfl rfl (a_dec_at dc_R_numbers 25 rfl) ?_
        refine m_getR (y := 134) fl_R_63 rfl sh119 (mr_119_32 _) (by decide) (a_dec_at dc_R_numbers 26 rfl) ?_
        refine ev_iload_n (i := 1) rfl rfl (a_dec_at dc_R_numbers 27 rfl) ?_
        refine ev_iload_n (i := 2) rfl rfl (a_dec_at dc_R_numbers 28 rfl) ?_
        obtain ⟨c7, H⟩ := H
        refine w_iast (k := a1.toNatClampNeg) sh134 c7 rfl (a_dec_at dc_R_numbers 29 rfl) ?_
        refine ev_aload_n (i := 0) rfl rfl (a_dec_at dc_R_numbers 30 rfl) ?_
        refine m_getR (y := 135) fl_R_66 rfl sh119 (mr_119_33 _) (by decide) (a_dec_at dc_R_numbers 31 rfl) ?_
        refine ev_iload_n (i := 1) rfl rfl (a_dec_at dc_R_numbers 32 rfl) ?_
        refine ev_iload_n (i := 3) rfl rfl (a_dec_at dc_R_numbers 33 rfl) ?_
        obtain ⟨c8, H⟩ := H
        refine w_iast (k := a1.toNatClampNeg) sh135 c8 rfl (a_dec_at dc_R_numbers 34 rfl) ?_
        refine ev_iconst (v := 0) rfl (a_dec_at dc_R_numbers 35 rfl) ?_
        refine ev_istore (by decide) rfl (a_dec_at dc_R_numbers 36 rfl) ?_
        exact Ev.drop (L' := [.ref 119, .int a1, .retAddr 0, .int a3, .int 0]) (And.intro rfl (And.intro rfl (And.intro rfl (And.intro rfl trivial)))) H
      · have H := H.2 b6
        refine ev_bipush (v := (-3)) rfl (a_dec_at dc_R_numbers 23 rfl) ?_
        exact m_retI (a_dec_at dc_R_numbers 24 rfl) rfl rfl H
    · have H := H.2 b4
      refine ev_bipush (v := (-2)) rfl (a_dec_at dc_R_numbers 15 rfl) ?_
      exact m_retI (a_dec_at dc_R_numbers 16 rfl) rfl rfl H
set_option maxRecDepth 20000 in
theorem t_R_numbers_64 {l : Launch} {h : Nat} (mi : TMi) (ml : TMl) (z : Nat) (v1 : Int32) (v3 : Int32) (v4 : Int32) {Q : Int32 → TMi → TMl → Nat → Prop} (H : ((v3 ≤ v4 → Q 0 mi ml z) ∧ (¬ v3 ≤ v4 → (vp_in ((40 * v1) + v4) 160) ∧ Ev l (h + 1) m_R_numbers 64 ([.ref 119, .int v1, .retAddr 0, .int v3, .int (v4 + 1)], [], st mi (upL ml 136 (((40 * v1) + v4).toNatClampNeg) 0) z) (qI Q)))) : Ev l (h + 1) m_R_numbers 64 ([.ref 119, .int v1, .retAddr 0, .int v3, .int v4], [], st mi ml z) (qI Q) := by
  refine ev_iload rfl (a_dec_at dc_R_numbers 37 rfl) ?_
  refine ev_iload_n (i := 3) rfl rfl (a_dec_at dc_R_numbers 38 rfl) ?_
  refine ev_icmp_ge (tgt := 89) (a_dec_at dc_R_numbers 39 rfl) (by decide) (fun b1 => ?_) (fun b1 => ?_)
  · have H := H.1 b1
    refine ev_iconst (v := 0) rfl (a_dec_at dc_R_numbers 51 rfl) ?_
    exact m_retI (a_dec_at dc_R_numbers 52 rfl) rfl rfl H
  · have H := H.2 b1
    refine ev_aload_n (i := 0) rfl rfl (a_dec_at dc_R_numbers 40 rfl) ?_
    refine m_getR (y := 136) fl_R_69 rfl sh119 (mr_119_34 _) (by decide) (a_dec_at dc_R_numbers 41 rfl) ?_
    refine ev_bipush (v := 40) rfl (a_dec_at dc_R_numbers 42 rfl) ?_
    refine ev_iload_n (i := 1) rfl rfl (a_dec_at dc_R_numbers 43 rfl) ?_
    refine ev_imul (a_dec_at dc_R_numbers 44 rfl) ?_
    refine ev_iload rfl (a_dec_at dc_R_numbers 45 rfl) ?_
    refine ev_iadd (a_dec_at dc_R_numbers 46 rfl) ?_
    refine ev_lconst (v := 0) rfl (a_dec_at dc_R_numbers 47 rfl) ?_
    obtain ⟨c2, H⟩ := H
    refine w_last (k := ((40 * v1) + v4).toNatClampNeg) sh136 c2 rfl (a_dec_at dc_R_numbers 48 rfl) ?_
    refine ev_iinc (v := 1) rfl rfl (by decide) rfl (a_dec_at dc_R_numbers 49 rfl) ?_
    refine ev_goto (tgt := 64) (a_dec_at dc_R_numbers 50 rfl) (by decide) ?_
    exact Ev.drop (L' := [.ref 119, .int v1, .retAddr 0, .int v3, .int (v4 + 1)]) (And.intro rfl (And.intro rfl (And.intro rfl (And.intro rfl trivial)))) H
set_option maxRecDepth 20000 in
theorem t_R_write {l : Launch} {h : Nat} (mi : TMi) (ml : TMl) (z : Nat) (a1 : Int32) (a2 : Int32) (a3 : Int64) {Q : Int64 → TMi → TMl → Nat → Prop} (H : CI l h m_R_noTray [.ref 119, .int a1] (up mi 119 0 0) ml z (fun x1 mi1 ml1 z1 => ((x1 = 0 → (vp_in a1 4) ∧ CI l h m_R_within [.long a2.toInt64, .long 0, .long (((mi1 135 a1.toNatClampNeg) - 1).toInt64)] mi1 ml1 z1 (fun x4 mi4 ml4 z4 => ((¬ x4 = 0 → (vp_in a1 4) ∧ CLg l h m_R_cut [.long a3, .int (mi4 134 a1.toNatClampNeg)] mi4 ml4 z4 (fun x7 mi7 ml7 z7 => (vp_in ((40 * a1) + a2) 160) ∧ (vp_in ((40 * a1) + a2) 160) ∧ Q ((upL ml7 136 (((40 * a1) + a2).toNatClampNeg) x7) 136 (((40 * a1) + a2).toNatClampNeg)) mi7 (upL ml7 136 (((40 * a1) + a2).toNatClampNeg) x7) z7)) ∧ (x4 = 0 → Q (-7) mi4 ml4 z4)))) ∧ (¬ x1 = 0 → Q x1.toInt64 mi1 ml1 z1)))) : CLg l (h + 1) m_R_write [.ref 119, .int a1, .int a2, .long a3] mi ml z Q := by
  show Ev l (h + 1) m_R_write 0 ([.ref 119, .int a1, .int a2, .long a3, .retAddr 0, .retAddr 0], [], st mi ml z) (qL Q)
  refine ev_aload_n (i := 0) rfl rfl (a_dec_at dc_R_write 0 rfl) ?_
  refine ev_iconst (v := 0) rfl (a_dec_at dc_R_write 1 rfl) ?_
  refine m_putI fl_R_1 rfl (fun _ _ _ h => by cases h; exact Or.inl rfl) sh119 (a_dec_at dc_R_write 2 rfl) ?_
  refine ev_aload_n (i := 0) rfl rfl (a_dec_at dc_R_write 3 rfl) ?_
  refine ev_iload_n (i := 1) rfl rfl (a_dec_at dc_R_write 4 rfl) ?_
  refine cV1I cs_R_322 sh119 rfl (Nat.le_of_ble_eq_true rfl) (Nat.le_of_ble_eq_true rfl) (a_dec_at dc_R_write 5 rfl) ?_
  refine CI.mono (fun x1 mi1 ml1 z1 H => ?_) H
  refine ev_istore (by decide) rfl (a_dec_at dc_R_write 6 rfl) ?_
  refine ev_iload rfl (a_dec_at dc_R_write 7 rfl) ?_
  refine ev_if_eq (tgt := 21) (a_dec_at dc_R_write 8 rfl) (by decide) (fun b2 => ?_) (fun b2 => ?_)
  · have H := H.1 b2
    refine ev_iload_n (i := 2) rfl rfl (a_dec_at dc_R_write 12 rfl) ?_
    refine ev_i2l (a_dec_at dc_R_write 13 rfl) ?_
    refine ev_lconst (v := 0) rfl (a_dec_at dc_R_write 14 rfl) ?_
    refine ev_aload_n (i := 0) rfl rfl (a_dec_at dc_R_write 15 rfl) ?_
    refine m_getR (y := 135) fl_R_66 rfl sh119 (mr_119_33 _) (by decide) (a_dec_at dc_R_write 16 rfl) ?_
    refine ev_iload_n (i := 1) rfl rfl (a_dec_at dc_R_write 17 rfl) ?_
    obtain ⟨c3, H⟩ := H
    refine w_iald (k := a1.toNatClampNeg) sh135 c3 rfl (a_dec_at dc_R_write 18 rfl) ?_
    refine ev_iconst (v := 1) rfl (a_dec_at dc_R_write 19 rfl) ?_
    refine ev_isub (a_dec_at dc_R_write 20 rfl) ?_
    refine ev_i2l (a_dec_at dc_R_write 21 rfl) ?_
    refine cS3I cs_R_139 rfl (Nat.le_of_ble_eq_true rfl) (Nat.le_of_ble_eq_true rfl) (a_dec_at dc_R_write 22 rfl) ?_
    refine CI.mono (fun x4 mi4 ml4 z4 H => ?_) H
    refine ev_if_ne (tgt := 43) (a_dec_at dc_R_write 23 rfl) (by decide) (fun b5 => ?_) (fun b5 => ?_)
    · have H := H.1 b5
      refine ev_aload_n (i := 0) rfl rfl (a_dec_at dc_R_write 26 rfl) ?_
      refine m_getR (y := 136) fl_R_69 rfl sh119 (mr_119_34 _) (by decide) (a_dec_at dc_R_write 27 rfl) ?_
      refine ev_bipush (v := 40) rfl (a_dec_at dc_R_write 28 rfl) ?_
      refine ev_iload_n (i := 1) rfl rfl (a_dec_at dc_R_write 29 rfl) ?_
      refine ev_imul (a_dec_at dc_R_write 30 rfl) ?_
      refine ev_iload_n (i := 2) rfl rfl (a_dec_at dc_R_write 31 rfl) ?_
      refine ev_iadd (a_dec_at dc_R_write 32 rfl) ?_
      refine ev_lload_n (i := 3) rfl rfl (a_dec_at dc_R_write 33 rfl) ?_
      refine ev_aload_n (i := 0) rfl rfl (a_dec_at dc_R_write 34 rfl) ?_
      refine m_getR (y := 134) fl_R_63 rfl sh119 (mr_119_32 _) (by decide) (a_dec_at dc_R_write 35 rfl) ?_
      refine ev_iload_n (i := 1) rfl rfl (a_dec_at dc_R_write 36 rfl) ?_
      obtain ⟨c6, H⟩ := H
      refine w_iald (k := a1.toNatClampNeg) sh134 c6 rfl (a_dec_at dc_R_write 37 rfl) ?_
      refine cS2L cs_R_453 rfl (Nat.le_of_ble_eq_true rfl) (Nat.le_of_ble_eq_true rfl) (a_dec_at dc_R_write 38 rfl) ?_
      refine CLg.mono (fun x7 mi7 ml7 z7 H => ?_) H
      obtain ⟨c8, H⟩ := H
      refine w_last (k := ((40 * a1) + a2).toNatClampNeg) sh136 c8 rfl (a_dec_at dc_R_write 39 rfl) ?_
      refine ev_aload_n (i := 0) rfl rfl (a_dec_at dc_R_write 40 rfl) ?_
      refine m_getR (y := 136) fl_R_69 rfl sh119 (mr_119_34 _) (by decide) (a_dec_at dc_R_write 41 rfl) ?_
      refine ev_bipush (v := 40) rfl (a_dec_at dc_R_write 42 rfl) ?_
      refine ev_iload_n (i := 1) rfl rfl (a_dec_at dc_R_write 43 rfl) ?_
      refine ev_imul (a_dec_at dc_R_write 44 rfl) ?_
      refine ev_iload_n (i := 2) rfl rfl (a_dec_at dc_R_write 45 rfl) ?_
      refine ev_iadd (a_dec_at dc_R_write 46 rfl) ?_
      obtain ⟨c9, H⟩ := H
      refine w_lald (k := ((40 * a1) + a2).toNatClampNeg) sh136 c9 rfl (a_dec_at dc_R_write 47 rfl) ?_
      exact m_retL (a_dec_at dc_R_write 48 rfl) rfl H
    · have H := H.2 b5
      refine ev_ldc2 kc_R_451 (a_dec_at dc_R_write 24 rfl) ?_
      exact m_retL (a_dec_at dc_R_write 25 rfl) rfl H
  · have H := H.2 b2
    refine ev_iload rfl (a_dec_at dc_R_write 9 rfl) ?_
    refine ev_i2l (a_dec_at dc_R_write 10 rfl) ?_
    exact m_retL (a_dec_at dc_R_write 11 rfl) rfl H
set_option maxRecDepth 20000 in
theorem t_R_cut {l : Launch} {h : Nat} (mi : TMi) (ml : TMl) (z : Nat) (a1 : Int64) (a2 : Int32) {Q : Int64 → TMi → TMl → Nat → Prop} (H : ((¬ a2 = 0 → ((¬ a2 = 1 → ((¬ a2 = 2 → Q a1 mi ml z) ∧ (a2 = 2 → Q a1.toInt32.toInt64 mi ml z))) ∧ (a2 = 1 → Q a1.toInt32.toInt16.toInt32.toInt64 mi ml z))) ∧ (a2 = 0 → Q a1.toInt32.toInt8.toInt32.toInt64 mi ml z))) : CLg l (h + 1) m_R_cut [.long a1, .int a2] mi ml z Q := by
  show Ev l (h + 1) m_R_cut 0 ([.long a1, .retAddr 0, .int a2], [], st mi ml z) (qL Q)
  refine ev_iload_n (i := 2) rfl rfl (a_dec_at dc_R_cut 0 rfl) ?_
  refine ev_if_ne (tgt := 11) (a_dec_at dc_R_cut 1 rfl) (by decide) (fun b1 => ?_) (fun b1 => ?_)
  · have H := H.1 b1
    refine ev_iload_n (i := 2) rfl rfl (a_dec_at dc_R_cut 7 rfl) ?_
    refine ev_iconst (v := 1) rfl (a_dec_at dc_R_cut 8 rfl) ?_
    refine ev_icmp_ne (tgt := 23) (a_dec_at dc_R_cut 9 rfl) (by decide) (fun b2 => ?_) (fun b2 => ?_)
    · have H := H.1 b2
      refine ev_iload_n (i := 2) rfl rfl (a_dec_at dc_R_cut 15 rfl) ?_
      refine ev_iconst (v := 2) rfl (a_dec_at dc_R_cut 16 rfl) ?_
      refine ev_icmp_ne (tgt := 34) (a_dec_at dc_R_cut 17 rfl) (by decide) (fun b3 => ?_) (fun b3 => ?_)
      · have H := H.1 b3
        refine ev_lload_n (i := 0) rfl rfl (a_dec_at dc_R_cut 22 rfl) ?_
        exact m_retL (a_dec_at dc_R_cut 23 rfl) rfl H
      · have H := H.2 b3
        refine ev_lload_n (i := 0) rfl rfl (a_dec_at dc_R_cut 18 rfl) ?_
        refine ev_l2i (a_dec_at dc_R_cut 19 rfl) ?_
        refine ev_i2l (a_dec_at dc_R_cut 20 rfl) ?_
        refine ev_goto (tgt := 35) (a_dec_at dc_R_cut 21 rfl) (by decide) ?_
        exact m_retL (a_dec_at dc_R_cut 23 rfl) rfl H
    · have H := H.2 b2
      refine ev_lload_n (i := 0) rfl rfl (a_dec_at dc_R_cut 10 rfl) ?_
      refine ev_l2i (a_dec_at dc_R_cut 11 rfl) ?_
      refine ev_i2s (a_dec_at dc_R_cut 12 rfl) ?_
      refine ev_i2l (a_dec_at dc_R_cut 13 rfl) ?_
      refine ev_goto (tgt := 35) (a_dec_at dc_R_cut 14 rfl) (by decide) ?_
      exact m_retL (a_dec_at dc_R_cut 23 rfl) rfl H
  · have H := H.2 b1
    refine ev_lload_n (i := 0) rfl rfl (a_dec_at dc_R_cut 2 rfl) ?_
    refine ev_l2i (a_dec_at dc_R_cut 3 rfl) ?_
    refine ev_i2b (a_dec_at dc_R_cut 4 rfl) ?_
    refine ev_i2l (a_dec_at dc_R_cut 5 rfl) ?_
    refine ev_goto (tgt := 35) (a_dec_at dc_R_cut 6 rfl) (by decide) ?_
    exact m_retL (a_dec_at dc_R_cut 23 rfl) rfl H
set_option maxRecDepth 20000 in
theorem t_R_lists {l : Launch} {h : Nat} (mi : TMi) (ml : TMl) (z : Nat) (a1 : Int32) (a2 : Int32) {Q : Int32 → TMi → TMl → Nat → Prop} (H : CI l h m_R_within [.long a1.toInt64, .long 0, .long 3] (up mi 119 0 0) ml z (fun x1 mi1 ml1 z1 => ((x1 = 0 → Q (-2) mi1 ml1 z1) ∧ (¬ x1 = 0 → CI l h m_R_within [.long a2.toInt64, .long 0, .long 1] mi1 ml1 z1 (fun x3 mi3 ml3 z3 => ((¬ x3 = 0 → CI l h m_R_noTray [.ref 119, .int a1] mi3 ml3 z3 (fun x5 mi5 ml5 z5 => ((x5 = 0 → CV l h m_R_laysHeld [.ref 119] mi5 ml5 z5 (fun mi7 ml7 z7 => (vp_in a1 4) ∧ (((mi7 135 a1.toNatClampNeg) ≤ (mi7 120 1) → (vp_in a1 4) ∧ Ev l (h + 1) m_R_lists 81 ([.ref 119, .int a1, .int a2, .retAddr 0, .int (mi7 135 a1.toNatClampNeg), .int 0], [], st mi7 ml7 z7) (qI Q)) ∧ (¬ (mi7 135 a1.toNatClampNeg) ≤ (mi7 120 1) → Ev l (h + 1) m_R_lists 81 ([.ref 119, .int a1, .int a2, .retAddr 0, .int (mi7 120 1), .int 0], [], st mi7 ml7 z7) (qI Q))))) ∧ (¬ x5 = 0 → Q x5 mi5 ml5 z5)))) ∧ (x3 = 0 → Q (-2) mi3 ml3 z3))))))) : CI l (h + 1) m_R_lists [.ref 119, .int a1, .int a2] mi ml z Q := by
  show Ev l (h + 1) m_R_lists 0 ([.ref 119, .int a1, .int a2, .retAddr 0, .retAddr 0, .retAddr 0], [], st mi ml z) (qI Q)
  refine ev_aload_n (i := 0) rfl rfl (a_dec_at dc_R_lists 0 rfl) ?_
  refine ev_iconst (v := 0) rfl (a_dec_at dc_R_lists 1 rfl) ?_
  refine m_putI fl_R_1 rfl (fun _ _ _ h => by cases h; exact Or.inl rfl) sh119 (a_dec_at dc_R_lists 2 rfl) ?_
  refine ev_iload_n (i := 1) rfl rfl (a_dec_at dc_R_lists 3 rfl) ?_
  refine ev_i2l (a_dec_at dc_R_lists 4 rfl) ?_
  refine ev_lconst (v := 0) rfl (a_dec_at dc_R_lists 5 rfl) ?_
  refine ev_ldc2 kc_R_320 (a_dec_at dc_R_lists 6 rfl) ?_
  refine cS3I cs_R_139 rfl (Nat.le_of_ble_eq_true rfl) (Nat.le_of_ble_eq_true rfl) (a_dec_at dc_R_lists 7 rfl) ?_
  refine CI.mono (fun x1 mi1 ml1 z1 H => ?_) H
  refine ev_if_eq (tgt := 27) (a_dec_at dc_R_lists 8 rfl) (by decide) (fun b2 => ?_) (fun b2 => ?_)
  · have H := H.1 b2
    refine ev_bipush (v := (-2)) rfl (a_dec_at dc_R_lists 15 rfl) ?_
    exact m_retI (a_dec_at dc_R_lists 16 rfl) rfl rfl H
  · have H := H.2 b2
    refine ev_iload_n (i := 2) rfl rfl (a_dec_at dc_R_lists 9 rfl) ?_
    refine ev_i2l (a_dec_at dc_R_lists 10 rfl) ?_
    refine ev_lconst (v := 0) rfl (a_dec_at dc_R_lists 11 rfl) ?_
    refine ev_lconst (v := 1) rfl (a_dec_at dc_R_lists 12 rfl) ?_
    refine cS3I cs_R_139 rfl (Nat.le_of_ble_eq_true rfl) (Nat.le_of_ble_eq_true rfl) (a_dec_at dc_R_lists 13 rfl) ?_
    refine CI.mono (fun x3 mi3 ml3 z3 H => ?_) H
    refine ev_if_ne (tgt := 30) (a_dec_at dc_R_lists 14 rfl) (by decide) (fun b4 => ?_) (fun b4 => ?_)
    · have H := H.1 b4
      refine ev_aload_n (i := 0) rfl rfl (a_dec_at dc_R_lists 17 rfl) ?_
      refine ev_iload_n (i := 1) rfl rfl (a_dec_at dc_R_lists 18 rfl) ?_
      refine cV1I cs_R_322 sh119 rfl (Nat.le_of_ble_eq_true rfl) (Nat.le_of_ble_eq_true rfl) (a_dec_at dc_R_lists 19 rfl) ?_
      refine CI.mono (fun x5 mi5 ml5 z5 H => ?_) H
      refine ev_istore_n (i := 3) rfl (by decide) rfl (a_dec_at dc_R_lists 20 rfl) ?_
      refine ev_iload_n (i := 3) rfl rfl (a_dec_at dc_R_lists 21 rfl) ?_
      refine ev_if_eq (tgt := 42) (a_dec_at dc_R_lists 22 rfl) (by decide) (fun b6 => ?_) (fun b6 => ?_)
      · have H := H.1 b6
        refine ev_aload_n (i := 0) rfl rfl (a_dec_at dc_R_lists 25 rfl) ?_
        refine cV0V cs_R_380 sh119 rfl (Nat.le_of_ble_eq_true rfl) (Nat.le_of_ble_eq_true rfl) (a_dec_at dc_R_lists 26 rfl) ?_
        refine CV.mono (fun mi7 ml7 z7 H => ?_) H
        refine ev_aload_n (i := 0) rfl rfl (a_dec_at dc_R_lists 27 rfl) ?_
        refine m_getR (y := 120) fl_R_13 rfl sh119 (mr_119_1 _) (by decide) (a_dec_at dc_R_lists 28 rfl) ?_
        refine ev_iconst (v := 1) rfl (a_dec_at dc_R_lists 29 rfl) ?_
        refine w_iald (k := 1) sh120 (by unfold vp_in; decide) (by decide) (a_dec_at dc_R_lists 30 rfl) ?_
        refine ev_aload_n (i := 0) rfl rfl (a_dec_at dc_R_lists 31 rfl) ?_
        refine m_getR (y := 135) fl_R_66 rfl sh119 (mr_119_33 _) (by decide) (a_dec_at dc_R_lists 32 rfl) ?_
        refine ev_iload_n (i := 1) rfl rfl (a_dec_at dc_R_lists 33 rfl) ?_
        obtain ⟨c8, H⟩ := H
        refine w_iald (k := a1.toNatClampNeg) sh135 c8 rfl (a_dec_at dc_R_lists 34 rfl) ?_
        refine ev_icmp_ge (tgt := 70) (a_dec_at dc_R_lists 35 rfl) (by decide) (fun b9 => ?_) (fun b9 => ?_)
        · have H := H.1 b9
          refine ev_aload_n (i := 0) rfl rfl (a_dec_at dc_R_lists 41 rfl) ?_
          refine m_getR (y := 135) fl_R_66 rfl sh119 (mr_119_33 _) (by decide) (a_dec_at dc_R_lists 42 rfl) ?_
          refine ev_iload_n (i := 1) rfl rfl (a_dec_at dc_R_lists 43 rfl) ?_
          obtain ⟨c10, H⟩ := H
          refine w_iald (k := a1.toNatClampNeg) sh135 c10 rfl (a_dec_at dc_R_lists 44 rfl) ?_
          refine ev_istore (by decide) rfl (a_dec_at dc_R_lists 45 rfl) ?_
          refine ev_iconst (v := 0) rfl (a_dec_at dc_R_lists 46 rfl) ?_
          refine ev_istore (by decide) rfl (a_dec_at dc_R_lists 47 rfl) ?_
          exact Ev.drop (L' := [.ref 119, .int a1, .int a2, .retAddr 0, .int (mi7 135 a1.toNatClampNeg), .int 0]) (And.intro rfl (And.intro rfl (And.intro rfl (And.intro rfl (And.intro rfl trivial))))) H
        · have H := H.2 b9
          refine ev_aload_n (i := 0) rfl rfl (a_dec_at dc_R_lists 36 rfl) ?_
          refine m_getR (y := 120) fl_R_13 rfl sh119 (mr_119_1 _) (by decide) (a_dec_at dc_R_lists 37 rfl) ?_
          refine ev_iconst (v := 1) rfl (a_dec_at dc_R_lists 38 rfl) ?_
          refine w_iald (k := 1) sh120 (by unfold vp_in; decide) (by decide) (a_dec_at dc_R_lists 39 rfl) ?_
          refine ev_goto (tgt := 76) (a_dec_at dc_R_lists 40 rfl) (by decide) ?_
          refine ev_istore (by decide) rfl (a_dec_at dc_R_lists 45 rfl) ?_
          refine ev_iconst (v := 0) rfl (a_dec_at dc_R_lists 46 rfl) ?_
          refine ev_istore (by decide) rfl (a_dec_at dc_R_lists 47 rfl) ?_
          exact Ev.drop (L' := [.ref 119, .int a1, .int a2, .retAddr 0, .int (mi7 120 1), .int 0]) (And.intro rfl (And.intro rfl (And.intro rfl (And.intro rfl (And.intro rfl trivial))))) H
      · have H := H.2 b6
        refine ev_iload_n (i := 3) rfl rfl (a_dec_at dc_R_lists 23 rfl) ?_
        exact m_retI (a_dec_at dc_R_lists 24 rfl) rfl rfl H
    · have H := H.2 b4
      refine ev_bipush (v := (-2)) rfl (a_dec_at dc_R_lists 15 rfl) ?_
      exact m_retI (a_dec_at dc_R_lists 16 rfl) rfl rfl H
set_option maxRecDepth 20000 in
theorem t_R_lists_81 {l : Launch} {h : Nat} (mi : TMi) (ml : TMl) (z : Nat) (v1 : Int32) (v2 : Int32) (v4 : Int32) (v5 : Int32) {Q : Int32 → TMi → TMl → Nat → Prop} (H : ((v4 ≤ v5 → Q v4 mi ml z) ∧ (¬ v4 ≤ v5 → ((¬ v2 = 0 → CI l h m_R_ofHeld [.ref 119, .int v5, .int 0] mi ml z (fun x3 mi3 ml3 z3 => (vp_in ((40 * v1) + v5) 160) ∧ Ev l (h + 1) m_R_lists 81 ([.ref 119, .int v1, .int v2, .retAddr 0, .int v4, .int (v5 + 1)], [], st mi3 (upL ml3 136 (((40 * v1) + v5).toNatClampNeg) x3.toInt64) z3) (qI Q))) ∧ (v2 = 0 → CI l h m_R_ofHeld [.ref 119, .int v5, .int 1] mi ml z (fun x5 mi5 ml5 z5 => (vp_in ((40 * v1) + v5) 160) ∧ Ev l (h + 1) m_R_lists 81 ([.ref 119, .int v1, .int v2, .retAddr 0, .int v4, .int (v5 + 1)], [], st mi5 (upL ml5 136 (((40 * v1) + v5).toNatClampNeg) x5.toInt64) z5) (qI Q))))))) : Ev l (h + 1) m_R_lists 81 ([.ref 119, .int v1, .int v2, .retAddr 0, .int v4, .int v5], [], st mi ml z) (qI Q) := by
  refine ev_iload rfl (a_dec_at dc_R_lists 48 rfl) ?_
  refine ev_iload rfl (a_dec_at dc_R_lists 49 rfl) ?_
  refine ev_icmp_ge (tgt := 122) (a_dec_at dc_R_lists 50 rfl) (by decide) (fun b1 => ?_) (fun b1 => ?_)
  · have H := H.1 b1
    refine ev_iload rfl (a_dec_at dc_R_lists 70 rfl) ?_
    exact m_retI (a_dec_at dc_R_lists 71 rfl) rfl rfl H
  · have H := H.2 b1
    refine ev_aload_n (i := 0) rfl rfl (a_dec_at dc_R_lists 51 rfl) ?_
    refine m_getR (y := 136) fl_R_69 rfl sh119 (mr_119_34 _) (by decide) (a_dec_at dc_R_lists 52 rfl) ?_
    refine ev_bipush (v := 40) rfl (a_dec_at dc_R_lists 53 rfl) ?_
    refine ev_iload_n (i := 1) rfl rfl (a_dec_at dc_R_lists 54 rfl) ?_
    refine ev_imul (a_dec_at dc_R_lists 55 rfl) ?_
    refine ev_iload rfl (a_dec_at dc_R_lists 56 rfl) ?_
    refine ev_iadd (a_dec_at dc_R_lists 57 rfl) ?_
    refine ev_aload_n (i := 0) rfl rfl (a_dec_at dc_R_lists 58 rfl) ?_
    refine ev_iload rfl (a_dec_at dc_R_lists 59 rfl) ?_
    refine ev_iload_n (i := 2) rfl rfl (a_dec_at dc_R_lists 60 rfl) ?_
    refine ev_if_ne (tgt := 110) (a_dec_at dc_R_lists 61 rfl) (by decide) (fun b2 => ?_) (fun b2 => ?_)
    · have H := H.1 b2
      refine ev_iconst (v := 0) rfl (a_dec_at dc_R_lists 64 rfl) ?_
      refine cV2I cs_R_383 sh119 rfl (Nat.le_of_ble_eq_true rfl) (Nat.le_of_ble_eq_true rfl) (a_dec_at dc_R_lists 65 rfl) ?_
      refine CI.mono (fun x3 mi3 ml3 z3 H => ?_) H
      refine ev_i2l (a_dec_at dc_R_lists 66 rfl) ?_
      obtain ⟨c4, H⟩ := H
      refine w_last (k := ((40 * v1) + v5).toNatClampNeg) sh136 c4 rfl (a_dec_at dc_R_lists 67 rfl) ?_
      refine ev_iinc (v := 1) rfl rfl (by decide) rfl (a_dec_at dc_R_lists 68 rfl) ?_
      refine ev_goto (tgt := 81) (a_dec_at dc_R_lists 69 rfl) (by decide) ?_
      exact Ev.drop (L' := [.ref 119, .int v1, .int v2, .retAddr 0, .int v4, .int (v5 + 1)]) (And.intro rfl (And.intro rfl (And.intro rfl (And.intro rfl (And.intro rfl trivial))))) H
    · have H := H.2 b2
      refine ev_iconst (v := 1) rfl (a_dec_at dc_R_lists 62 rfl) ?_
      refine ev_goto (tgt := 111) (a_dec_at dc_R_lists 63 rfl) (by decide) ?_
      refine cV2I cs_R_383 sh119 rfl (Nat.le_of_ble_eq_true rfl) (Nat.le_of_ble_eq_true rfl) (a_dec_at dc_R_lists 65 rfl) ?_
      refine CI.mono (fun x5 mi5 ml5 z5 H => ?_) H
      refine ev_i2l (a_dec_at dc_R_lists 66 rfl) ?_
      obtain ⟨c6, H⟩ := H
      refine w_last (k := ((40 * v1) + v5).toNatClampNeg) sh136 c6 rfl (a_dec_at dc_R_lists 67 rfl) ?_
      refine ev_iinc (v := 1) rfl rfl (by decide) rfl (a_dec_at dc_R_lists 68 rfl) ?_
      refine ev_goto (tgt := 81) (a_dec_at dc_R_lists 69 rfl) (by decide) ?_
      exact Ev.drop (L' := [.ref 119, .int v1, .int v2, .retAddr 0, .int v4, .int (v5 + 1)]) (And.intro rfl (And.intro rfl (And.intro rfl (And.intro rfl (And.intro rfl trivial))))) H
set_option maxRecDepth 20000 in
theorem t_R_image {l : Launch} {h : Nat} (mi : TMi) (ml : TMl) (z : Nat) (a1 : Int32) {Q : Int32 → TMi → TMl → Nat → Prop} (H : CI l h m_R_within [.long a1.toInt64, .long 0, .long 1] (up mi 119 0 0) ml z (fun x1 mi1 ml1 z1 => ((¬ x1 = 0 → Ev l (h + 1) m_R_image 20 ([.ref 119, .int a1, .int 0], [], st mi1 ml1 z1) (qI Q)) ∧ (x1 = 0 → Q (-2) mi1 ml1 z1)))) : CI l (h + 1) m_R_image [.ref 119, .int a1] mi ml z Q := by
  show Ev l (h + 1) m_R_image 0 ([.ref 119, .int a1, .retAddr 0], [], st mi ml z) (qI Q)
  refine ev_aload_n (i := 0) rfl rfl (a_dec_at dc_R_image 0 rfl) ?_
  refine ev_iconst (v := 0) rfl (a_dec_at dc_R_image 1 rfl) ?_
  refine m_putI fl_R_1 rfl (fun _ _ _ h => by cases h; exact Or.inl rfl) sh119 (a_dec_at dc_R_image 2 rfl) ?_
  refine ev_iload_n (i := 1) rfl rfl (a_dec_at dc_R_image 3 rfl) ?_
  refine ev_i2l (a_dec_at dc_R_image 4 rfl) ?_
  refine ev_lconst (v := 0) rfl (a_dec_at dc_R_image 5 rfl) ?_
  refine ev_lconst (v := 1) rfl (a_dec_at dc_R_image 6 rfl) ?_
  refine cS3I cs_R_139 rfl (Nat.le_of_ble_eq_true rfl) (Nat.le_of_ble_eq_true rfl) (a_dec_at dc_R_image 7 rfl) ?_
  refine CI.mono (fun x1 mi1 ml1 z1 H => ?_) H
  refine ev_if_ne (tgt := 18) (a_dec_at dc_R_image 8 rfl) (by decide) (fun b2 => ?_) (fun b2 => ?_)
  · have H := H.1 b2
    refine ev_iconst (v := 0) rfl (a_dec_at dc_R_image 11 rfl) ?_
    refine ev_istore_n (i := 2) rfl (by decide) rfl (a_dec_at dc_R_image 12 rfl) ?_
    exact Ev.drop (L' := [.ref 119, .int a1, .int 0]) (And.intro rfl (And.intro rfl (And.intro rfl trivial))) H
  · have H := H.2 b2
    refine ev_bipush (v := (-2)) rfl (a_dec_at dc_R_image 9 rfl) ?_
    exact m_retI (a_dec_at dc_R_image 10 rfl) rfl rfl H
set_option maxRecDepth 20000 in
theorem t_R_image_20 {l : Launch} {h : Nat} (mi : TMi) (ml : TMl) (z : Nat) (v1 : Int32) (v2 : Int32) {Q : Int32 → TMi → TMl → Nat → Prop} (H : ((1371 ≤ v2 → (vp_in v1 2) ∧ Q 0 (up mi 121 v1.toNatClampNeg (vp_nar .boolean 1)) ml z) ∧ (¬ 1371 ≤ v2 → (vp_in v2 4113) ∧ (vp_in ((1371 * (v1 + 1)) + v2) 4113) ∧ Ev l (h + 1) m_R_image 20 ([.ref 119, .int v1, .int (v2 + 1)], [], st (up mi 120 (((1371 * (v1 + 1)) + v2).toNatClampNeg) (mi 120 v2.toNatClampNeg)) ml z) (qI Q)))) : Ev l (h + 1) m_R_image 20 ([.ref 119, .int v1, .int v2], [], st mi ml z) (qI Q) := by
  refine ev_iload_n (i := 2) rfl rfl (a_dec_at dc_R_image 13 rfl) ?_
  refine ev_sipush (v := 1371) rfl (a_dec_at dc_R_image 14 rfl) ?_
  refine ev_icmp_ge (tgt := 53) (a_dec_at dc_R_image 15 rfl) (by decide) (fun b1 => ?_) (fun b1 => ?_)
  · have H := H.1 b1
    refine ev_aload_n (i := 0) rfl rfl (a_dec_at dc_R_image 32 rfl) ?_
    refine m_getR (y := 121) fl_R_17 rfl sh119 (mr_119_2 _) (by decide) (a_dec_at dc_R_image 33 rfl) ?_
    refine ev_iload_n (i := 1) rfl rfl (a_dec_at dc_R_image 34 rfl) ?_
    refine ev_iconst (v := 1) rfl (a_dec_at dc_R_image 35 rfl) ?_
    obtain ⟨c2, H⟩ := H
    refine w_zast (k := v1.toNatClampNeg) sh121 c2 rfl (a_dec_at dc_R_image 36 rfl) ?_
    refine ev_iconst (v := 0) rfl (a_dec_at dc_R_image 37 rfl) ?_
    exact m_retI (a_dec_at dc_R_image 38 rfl) rfl rfl H
  · have H := H.2 b1
    refine ev_aload_n (i := 0) rfl rfl (a_dec_at dc_R_image 16 rfl) ?_
    refine m_getR (y := 120) fl_R_13 rfl sh119 (mr_119_1 _) (by decide) (a_dec_at dc_R_image 17 rfl) ?_
    refine ev_sipush (v := 1371) rfl (a_dec_at dc_R_image 18 rfl) ?_
    refine ev_iload_n (i := 1) rfl rfl (a_dec_at dc_R_image 19 rfl) ?_
    refine ev_iconst (v := 1) rfl (a_dec_at dc_R_image 20 rfl) ?_
    refine ev_iadd (a_dec_at dc_R_image 21 rfl) ?_
    refine ev_imul (a_dec_at dc_R_image 22 rfl) ?_
    refine ev_iload_n (i := 2) rfl rfl (a_dec_at dc_R_image 23 rfl) ?_
    refine ev_iadd (a_dec_at dc_R_image 24 rfl) ?_
    refine ev_aload_n (i := 0) rfl rfl (a_dec_at dc_R_image 25 rfl) ?_
    refine m_getR (y := 120) fl_R_13 rfl sh119 (mr_119_1 _) (by decide) (a_dec_at dc_R_image 26 rfl) ?_
    refine ev_iload_n (i := 2) rfl rfl (a_dec_at dc_R_image 27 rfl) ?_
    obtain ⟨c3, H⟩ := H
    refine w_iald (k := v2.toNatClampNeg) sh120 c3 rfl (a_dec_at dc_R_image 28 rfl) ?_
    obtain ⟨c4, H⟩ := H
    refine w_iast (k := ((1371 * (v1 + 1)) + v2).toNatClampNeg) sh120 c4 rfl (a_dec_at dc_R_image 29 rfl) ?_
    refine ev_iinc (v := 1) rfl rfl (by decide) rfl (a_dec_at dc_R_image 30 rfl) ?_
    refine ev_goto (tgt := 20) (a_dec_at dc_R_image 31 rfl) (by decide) ?_
    exact Ev.drop (L' := [.ref 119, .int v1, .int (v2 + 1)]) (And.intro rfl (And.intro rfl (And.intro rfl trivial))) H
set_option maxRecDepth 20000 in
theorem t_R_restore {l : Launch} {h : Nat} (mi : TMi) (ml : TMl) (z : Nat) (a1 : Int32) {Q : Int32 → TMi → TMl → Nat → Prop} (H : CI l h m_R_within [.long a1.toInt64, .long 0, .long 1] (up mi 119 0 0) ml z (fun x1 mi1 ml1 z1 => ((¬ x1 = 0 → (vp_in a1 2) ∧ ((¬ (mi1 121 a1.toNatClampNeg) = 0 → Ev l (h + 1) m_R_restore 32 ([.ref 119, .int a1, .int 0], [], st mi1 ml1 z1) (qI Q)) ∧ ((mi1 121 a1.toNatClampNeg) = 0 → Q (-5) mi1 ml1 z1))) ∧ (x1 = 0 → Q (-2) mi1 ml1 z1)))) : CI l (h + 1) m_R_restore [.ref 119, .int a1] mi ml z Q := by
  show Ev l (h + 1) m_R_restore 0 ([.ref 119, .int a1, .retAddr 0], [], st mi ml z) (qI Q)
  refine ev_aload_n (i := 0) rfl rfl (a_dec_at dc_R_restore 0 rfl) ?_
  refine ev_iconst (v := 0) rfl (a_dec_at dc_R_restore 1 rfl) ?_
  refine m_putI fl_R_1 rfl (fun _ _ _ h => by cases h; exact Or.inl rfl) sh119 (a_dec_at dc_R_restore 2 rfl) ?_
  refine ev_iload_n (i := 1) rfl rfl (a_dec_at dc_R_restore 3 rfl) ?_
  refine ev_i2l (a_dec_at dc_R_restore 4 rfl) ?_
  refine ev_lconst (v := 0) rfl (a_dec_at dc_R_restore 5 rfl) ?_
  refine ev_lconst (v := 1) rfl (a_dec_at dc_R_restore 6 rfl) ?_
  refine cS3I cs_R_139 rfl (Nat.le_of_ble_eq_true rfl) (Nat.le_of_ble_eq_true rfl) (a_dec_at dc_R_restore 7 rfl) ?_
  refine CI.mono (fun x1 mi1 ml1 z1 H => ?_) H
  refine ev_if_ne (tgt := 18) (a_dec_at dc_R_restore 8 rfl) (by decide) (fun b2 => ?_) (fun b2 => ?_)
  · have H := H.1 b2
    refine ev_aload_n (i := 0) rfl rfl (a_dec_at dc_R_restore 11 rfl) ?_
    refine m_getR (y := 121) fl_R_17 rfl sh119 (mr_119_2 _) (by decide) (a_dec_at dc_R_restore 12 rfl) ?_
    refine ev_iload_n (i := 1) rfl rfl (a_dec_at dc_R_restore 13 rfl) ?_
    obtain ⟨c3, H⟩ := H
    refine w_zald (k := a1.toNatClampNeg) sh121 c3 rfl (a_dec_at dc_R_restore 14 rfl) ?_
    refine ev_if_ne (tgt := 30) (a_dec_at dc_R_restore 15 rfl) (by decide) (fun b4 => ?_) (fun b4 => ?_)
    · have H := H.1 b4
      refine ev_iconst (v := 0) rfl (a_dec_at dc_R_restore 18 rfl) ?_
      refine ev_istore_n (i := 2) rfl (by decide) rfl (a_dec_at dc_R_restore 19 rfl) ?_
      exact Ev.drop (L' := [.ref 119, .int a1, .int 0]) (And.intro rfl (And.intro rfl (And.intro rfl trivial))) H
    · have H := H.2 b4
      refine ev_bipush (v := (-5)) rfl (a_dec_at dc_R_restore 16 rfl) ?_
      exact m_retI (a_dec_at dc_R_restore 17 rfl) rfl rfl H
  · have H := H.2 b2
    refine ev_bipush (v := (-2)) rfl (a_dec_at dc_R_restore 9 rfl) ?_
    exact m_retI (a_dec_at dc_R_restore 10 rfl) rfl rfl H
set_option maxRecDepth 20000 in
theorem t_R_restore_32 {l : Launch} {h : Nat} (mi : TMi) (ml : TMl) (z : Nat) (v1 : Int32) (v2 : Int32) {Q : Int32 → TMi → TMl → Nat → Prop} (H : ((1371 ≤ v2 → Q 0 (up mi 120 69 0) ml z) ∧ (¬ 1371 ≤ v2 → (vp_in ((1371 * (v1 + 1)) + v2) 4113) ∧ (vp_in v2 4113) ∧ Ev l (h + 1) m_R_restore 32 ([.ref 119, .int v1, .int (v2 + 1)], [], st (up mi 120 v2.toNatClampNeg (mi 120 (((1371 * (v1 + 1)) + v2).toNatClampNeg))) ml z) (qI Q)))) : Ev l (h + 1) m_R_restore 32 ([.ref 119, .int v1, .int v2], [], st mi ml z) (qI Q) := by
  refine ev_iload_n (i := 2) rfl rfl (a_dec_at dc_R_restore 20 rfl) ?_
  refine ev_sipush (v := 1371) rfl (a_dec_at dc_R_restore 21 rfl) ?_
  refine ev_icmp_ge (tgt := 65) (a_dec_at dc_R_restore 22 rfl) (by decide) (fun b1 => ?_) (fun b1 => ?_)
  · have H := H.1 b1
    refine ev_aload_n (i := 0) rfl rfl (a_dec_at dc_R_restore 39 rfl) ?_
    refine m_getR (y := 120) fl_R_13 rfl sh119 (mr_119_1 _) (by decide) (a_dec_at dc_R_restore 40 rfl) ?_
    refine ev_bipush (v := 69) rfl (a_dec_at dc_R_restore 41 rfl) ?_
    refine ev_iconst (v := 0) rfl (a_dec_at dc_R_restore 42 rfl) ?_
    refine w_iast (k := 69) sh120 (by unfold vp_in; decide) (by decide) (a_dec_at dc_R_restore 43 rfl) ?_
    refine ev_iconst (v := 0) rfl (a_dec_at dc_R_restore 44 rfl) ?_
    exact m_retI (a_dec_at dc_R_restore 45 rfl) rfl rfl H
  · have H := H.2 b1
    refine ev_aload_n (i := 0) rfl rfl (a_dec_at dc_R_restore 23 rfl) ?_
    refine m_getR (y := 120) fl_R_13 rfl sh119 (mr_119_1 _) (by decide) (a_dec_at dc_R_restore 24 rfl) ?_
    refine ev_iload_n (i := 2) rfl rfl (a_dec_at dc_R_restore 25 rfl) ?_
    refine ev_aload_n (i := 0) rfl rfl (a_dec_at dc_R_restore 26 rfl) ?_
    refine m_getR (y := 120) fl_R_13 rfl sh119 (mr_119_1 _) (by decide) (a_dec_at dc_R_restore 27 rfl) ?_
    refine ev_sipush (v := 1371) rfl (a_dec_at dc_R_restore 28 rfl) ?_
    refine ev_iload_n (i := 1) rfl rfl (a_dec_at dc_R_restore 29 rfl) ?_
    refine ev_iconst (v := 1) rfl (a_dec_at dc_R_restore 30 rfl) ?_
    refine ev_iadd (a_dec_at dc_R_restore 31 rfl) ?_
    refine ev_imul (a_dec_at dc_R_restore 32 rfl) ?_
    refine ev_iload_n (i := 2) rfl rfl (a_dec_at dc_R_restore 33 rfl) ?_
    refine ev_iadd (a_dec_at dc_R_restore 34 rfl) ?_
    obtain ⟨c2, H⟩ := H
    refine w_iald (k := ((1371 * (v1 + 1)) + v2).toNatClampNeg) sh120 c2 rfl (a_dec_at dc_R_restore 35 rfl) ?_
    obtain ⟨c3, H⟩ := H
    refine w_iast (k := v2.toNatClampNeg) sh120 c3 rfl (a_dec_at dc_R_restore 36 rfl) ?_
    refine ev_iinc (v := 1) rfl rfl (by decide) rfl (a_dec_at dc_R_restore 37 rfl) ?_
    refine ev_goto (tgt := 32) (a_dec_at dc_R_restore 38 rfl) (by decide) ?_
    exact Ev.drop (L' := [.ref 119, .int v1, .int (v2 + 1)]) (And.intro rfl (And.intro rfl (And.intro rfl trivial))) H
set_option maxRecDepth 20000 in
theorem t_R_count {l : Launch} {h : Nat} (mi : TMi) (ml : TMl) (z : Nat) (a1 : Int32) {Q : Int32 → TMi → TMl → Nat → Prop} (H : ((a1 = 0 → Q ((up mi 119 0 0) 120 1) (up mi 119 0 0) ml z) ∧ ((a1 = 1 → Q ((up mi 119 0 0) 120 2) (up mi 119 0 0) ml z) ∧ ((a1 = 2 → CI l h m_R_becksIn [.ref 119, .int (-1)] (up mi 119 0 0) ml z (fun x4 mi4 ml4 z4 => Q x4 mi4 ml4 z4)) ∧ ((a1 = 3 → CI l h m_R_sumOf [.ref 119, .int 41, .int ((up mi 119 0 0) 120 2)] (up mi 119 0 0) ml z (fun x6 mi6 ml6 z6 => Q x6 mi6 ml6 z6)) ∧ ((a1 = 4 → CI l h m_R_sumOf [.ref 119, .int 35, .int ((up mi 119 0 0) 120 1)] (up mi 119 0 0) ml z (fun x8 mi8 ml8 z8 => Q x8 mi8 ml8 z8)) ∧ ((a1 = 5 → CI l h m_R_sumOf [.ref 119, .int 45, .int 24] (up mi 119 0 0) ml z (fun x10 mi10 ml10 z10 => Q x10 mi10 ml10 z10)) ∧ ((a1 = 6 → Q ((up mi 119 0 0) 120 69) (up mi 119 0 0) ml z) ∧ ((a1 = 7 → Q ((up mi 119 0 0) 119 5) (up mi 119 0 0) ml z) ∧ ((a1 = 8 → Q ((up mi 119 0 0) 120 0) (up mi 119 0 0) ml z) ∧ (¬ a1 = 0 → ¬ a1 = 1 → ¬ a1 = 2 → ¬ a1 = 3 → ¬ a1 = 4 → ¬ a1 = 5 → ¬ a1 = 6 → ¬ a1 = 7 → ¬ a1 = 8 → Q (-1) (up mi 119 0 0) ml z))))))))))) : CI l (h + 1) m_R_count [.ref 119, .int a1] mi ml z Q := by
  show Ev l (h + 1) m_R_count 0 ([.ref 119, .int a1], [], st mi ml z) (qI Q)
  refine ev_aload_n (i := 0) rfl rfl (a_dec_at dc_R_count 0 rfl) ?_
  refine ev_iconst (v := 0) rfl (a_dec_at dc_R_count 1 rfl) ?_
  refine m_putI fl_R_1 rfl (fun _ _ _ h => by cases h; exact Or.inl rfl) sh119 (a_dec_at dc_R_count 2 rfl) ?_
  refine ev_iload_n (i := 1) rfl rfl (a_dec_at dc_R_count 3 rfl) ?_
  by_cases e1 : a1 = 0
  · have H := H.1 e1
    refine w_tableIn (c := 0) (off := 50) (tgt := 56) (a_dec_at dc_R_count 4 rfl) e1 (by decide) (by decide) (by decide) (by decide) ?_
    refine ev_aload_n (i := 0) rfl rfl (a_dec_at dc_R_count 5 rfl) ?_
    refine m_getR (y := 120) fl_R_13 rfl sh119 (mr_119_1 _) (by decide) (a_dec_at dc_R_count 6 rfl) ?_
    refine ev_iconst (v := 1) rfl (a_dec_at dc_R_count 7 rfl) ?_
    refine w_iald (k := 1) sh120 (by unfold vp_in; decide) (by decide) (a_dec_at dc_R_count 8 rfl) ?_
    exact m_retI (a_dec_at dc_R_count 9 rfl) rfl rfl H
  have H := H.2
  by_cases e2 : a1 = 1
  · have H := H.1 e2
    refine w_tableIn (c := 1) (off := 57) (tgt := 63) (a_dec_at dc_R_count 4 rfl) e2 (by decide) (by decide) (by decide) (by decide) ?_
    refine ev_aload_n (i := 0) rfl rfl (a_dec_at dc_R_count 10 rfl) ?_
    refine m_getR (y := 120) fl_R_13 rfl sh119 (mr_119_1 _) (by decide) (a_dec_at dc_R_count 11 rfl) ?_
    refine ev_iconst (v := 2) rfl (a_dec_at dc_R_count 12 rfl) ?_
    refine w_iald (k := 2) sh120 (by unfold vp_in; decide) (by decide) (a_dec_at dc_R_count 13 rfl) ?_
    exact m_retI (a_dec_at dc_R_count 14 rfl) rfl rfl H
  have H := H.2
  by_cases e3 : a1 = 2
  · have H := H.1 e3
    refine w_tableIn (c := 2) (off := 64) (tgt := 70) (a_dec_at dc_R_count 4 rfl) e3 (by decide) (by decide) (by decide) (by decide) ?_
    refine ev_aload_n (i := 0) rfl rfl (a_dec_at dc_R_count 15 rfl) ?_
    refine ev_iconst (v := (-1)) rfl (a_dec_at dc_R_count 16 rfl) ?_
    refine cV1I cs_R_246 sh119 rfl (Nat.le_of_ble_eq_true rfl) (Nat.le_of_ble_eq_true rfl) (a_dec_at dc_R_count 17 rfl) ?_
    refine CI.mono (fun x4 mi4 ml4 z4 H => ?_) H
    exact m_retI (a_dec_at dc_R_count 18 rfl) rfl rfl H
  have H := H.2
  by_cases e5 : a1 = 3
  · have H := H.1 e5
    refine w_tableIn (c := 3) (off := 70) (tgt := 76) (a_dec_at dc_R_count 4 rfl) e5 (by decide) (by decide) (by decide) (by decide) ?_
    refine ev_aload_n (i := 0) rfl rfl (a_dec_at dc_R_count 19 rfl) ?_
    refine ev_bipush (v := 41) rfl (a_dec_at dc_R_count 20 rfl) ?_
    refine ev_aload_n (i := 0) rfl rfl (a_dec_at dc_R_count 21 rfl) ?_
    refine m_getR (y := 120) fl_R_13 rfl sh119 (mr_119_1 _) (by decide) (a_dec_at dc_R_count 22 rfl) ?_
    refine ev_iconst (v := 2) rfl (a_dec_at dc_R_count 23 rfl) ?_
    refine w_iald (k := 2) sh120 (by unfold vp_in; decide) (by decide) (a_dec_at dc_R_count 24 rfl) ?_
    refine cV2I cs_R_457 sh119 rfl (Nat.le_of_ble_eq_true rfl) (Nat.le_of_ble_eq_true rfl) (a_dec_at dc_R_count 25 rfl) ?_
    refine CI.mono (fun x6 mi6 ml6 z6 H => ?_) H
    exact m_retI (a_dec_at dc_R_count 26 rfl) rfl rfl H
  have H := H.2
  by_cases e7 : a1 = 4
  · have H := H.1 e7
    refine w_tableIn (c := 4) (off := 83) (tgt := 89) (a_dec_at dc_R_count 4 rfl) e7 (by decide) (by decide) (by decide) (by decide) ?_
    refine ev_aload_n (i := 0) rfl rfl (a_dec_at dc_R_count 27 rfl) ?_
    refine ev_bipush (v := 35) rfl (a_dec_at dc_R_count 28 rfl) ?_
    refine ev_aload_n (i := 0) rfl rfl (a_dec_at dc_R_count 29 rfl) ?_
    refine m_getR (y := 120) fl_R_13 rfl sh119 (mr_119_1 _) (by decide) (a_dec_at dc_R_count 30 rfl) ?_
    refine ev_iconst (v := 1) rfl (a_dec_at dc_R_count 31 rfl) ?_
    refine w_iald (k := 1) sh120 (by unfold vp_in; decide) (by decide) (a_dec_at dc_R_count 32 rfl) ?_
    refine cV2I cs_R_457 sh119 rfl (Nat.le_of_ble_eq_true rfl) (Nat.le_of_ble_eq_true rfl) (a_dec_at dc_R_count 33 rfl) ?_
    refine CI.mono (fun x8 mi8 ml8 z8 H => ?_) H
    exact m_retI (a_dec_at dc_R_count 34 rfl) rfl rfl H
  have H := H.2
  by_cases e9 : a1 = 5
  · have H := H.1 e9
    refine w_tableIn (c := 5) (off := 96) (tgt := 102) (a_dec_at dc_R_count 4 rfl) e9 (by decide) (by decide) (by decide) (by decide) ?_
    refine ev_aload_n (i := 0) rfl rfl (a_dec_at dc_R_count 35 rfl) ?_
    refine ev_bipush (v := 45) rfl (a_dec_at dc_R_count 36 rfl) ?_
    refine ev_bipush (v := 24) rfl (a_dec_at dc_R_count 37 rfl) ?_
    refine cV2I cs_R_457 sh119 rfl (Nat.le_of_ble_eq_true rfl) (Nat.le_of_ble_eq_true rfl) (a_dec_at dc_R_count 38 rfl) ?_
    refine CI.mono (fun x10 mi10 ml10 z10 H => ?_) H
    exact m_retI (a_dec_at dc_R_count 39 rfl) rfl rfl H
  have H := H.2
  by_cases e11 : a1 = 6
  · have H := H.1 e11
    refine w_tableIn (c := 6) (off := 105) (tgt := 111) (a_dec_at dc_R_count 4 rfl) e11 (by decide) (by decide) (by decide) (by decide) ?_
    refine ev_aload_n (i := 0) rfl rfl (a_dec_at dc_R_count 40 rfl) ?_
    refine m_getR (y := 120) fl_R_13 rfl sh119 (mr_119_1 _) (by decide) (a_dec_at dc_R_count 41 rfl) ?_
    refine ev_bipush (v := 69) rfl (a_dec_at dc_R_count 42 rfl) ?_
    refine w_iald (k := 69) sh120 (by unfold vp_in; decide) (by decide) (a_dec_at dc_R_count 43 rfl) ?_
    exact m_retI (a_dec_at dc_R_count 44 rfl) rfl rfl H
  have H := H.2
  by_cases e12 : a1 = 7
  · have H := H.1 e12
    refine w_tableIn (c := 7) (off := 113) (tgt := 119) (a_dec_at dc_R_count 4 rfl) e12 (by decide) (by decide) (by decide) (by decide) ?_
    refine ev_aload_n (i := 0) rfl rfl (a_dec_at dc_R_count 45 rfl) ?_
    refine m_getI fl_R_77 rfl sh119 (a_dec_at dc_R_count 46 rfl) ?_
    exact m_retI (a_dec_at dc_R_count 47 rfl) rfl rfl H
  have H := H.2
  by_cases e13 : a1 = 8
  · have H := H.1 e13
    refine w_tableIn (c := 8) (off := 118) (tgt := 124) (a_dec_at dc_R_count 4 rfl) e13 (by decide) (by decide) (by decide) (by decide) ?_
    refine ev_aload_n (i := 0) rfl rfl (a_dec_at dc_R_count 48 rfl) ?_
    refine m_getR (y := 120) fl_R_13 rfl sh119 (mr_119_1 _) (by decide) (a_dec_at dc_R_count 49 rfl) ?_
    refine ev_iconst (v := 0) rfl (a_dec_at dc_R_count 50 rfl) ?_
    refine w_iald (k := 0) sh120 (by unfold vp_in; decide) (by decide) (a_dec_at dc_R_count 51 rfl) ?_
    exact m_retI (a_dec_at dc_R_count 52 rfl) rfl rfl H
  have H := H.2
  refine w_tableOut (tgt := 131) [0, 1, 2, 3, 4, 5, 6, 7, 8] (a_dec_at dc_R_count 4 rfl) (by decide) (by intro c hc; simp only [List.mem_cons, List.not_mem_nil, or_false] at hc; rcases hc with rfl | rfl | rfl | rfl | rfl | rfl | rfl | rfl | rfl <;> assumption) (by decide) ?_
  have H := H e1 e2 e3 e5 e7 e9 e11 e12 e13
  refine ev_iconst (v := (-1)) rfl (a_dec_at dc_R_count 53 rfl) ?_
  exact m_retI (a_dec_at dc_R_count 54 rfl) rfl rfl H
set_option maxRecDepth 20000 in
theorem t_R_sumOf {l : Launch} {h : Nat} (mi : TMi) (ml : TMl) (z : Nat) (a1 : Int32) (a2 : Int32) {Q : Int32 → TMi → TMl → Nat → Prop} (H : Ev l (h + 1) m_R_sumOf 5 ([.ref 119, .int a1, .int a2, .int 0, .int 0], [], st mi ml z) (qI Q)) : CI l (h + 1) m_R_sumOf [.ref 119, .int a1, .int a2] mi ml z Q := by
  show Ev l (h + 1) m_R_sumOf 0 ([.ref 119, .int a1, .int a2, .retAddr 0, .retAddr 0], [], st mi ml z) (qI Q)
  refine ev_iconst (v := 0) rfl (a_dec_at dc_R_sumOf 0 rfl) ?_
  refine ev_istore_n (i := 3) rfl (by decide) rfl (a_dec_at dc_R_sumOf 1 rfl) ?_
  refine ev_iconst (v := 0) rfl (a_dec_at dc_R_sumOf 2 rfl) ?_
  refine ev_istore (by decide) rfl (a_dec_at dc_R_sumOf 3 rfl) ?_
  exact Ev.drop (L' := [.ref 119, .int a1, .int a2, .int 0, .int 0]) (And.intro rfl (And.intro rfl (And.intro rfl (And.intro rfl (And.intro rfl trivial))))) H
set_option maxRecDepth 20000 in
theorem t_R_sumOf_5 {l : Launch} {h : Nat} (mi : TMi) (ml : TMl) (z : Nat) (v1 : Int32) (v2 : Int32) (v3 : Int32) (v4 : Int32) {Q : Int32 → TMi → TMl → Nat → Prop} (H : ((v2 ≤ v4 → Q v3 mi ml z) ∧ (¬ v2 ≤ v4 → (vp_in (v1 + v4) 4113) ∧ Ev l (h + 1) m_R_sumOf 5 ([.ref 119, .int v1, .int v2, .int (v3 + (mi 120 ((v1 + v4).toNatClampNeg))), .int (v4 + 1)], [], st mi ml z) (qI Q)))) : Ev l (h + 1) m_R_sumOf 5 ([.ref 119, .int v1, .int v2, .int v3, .int v4], [], st mi ml z) (qI Q) := by
  refine ev_iload rfl (a_dec_at dc_R_sumOf 4 rfl) ?_
  refine ev_iload_n (i := 2) rfl rfl (a_dec_at dc_R_sumOf 5 rfl) ?_
  refine ev_icmp_ge (tgt := 29) (a_dec_at dc_R_sumOf 6 rfl) (by decide) (fun b1 => ?_) (fun b1 => ?_)
  · have H := H.1 b1
    refine ev_iload_n (i := 3) rfl rfl (a_dec_at dc_R_sumOf 18 rfl) ?_
    exact m_retI (a_dec_at dc_R_sumOf 19 rfl) rfl rfl H
  · have H := H.2 b1
    refine ev_iload_n (i := 3) rfl rfl (a_dec_at dc_R_sumOf 7 rfl) ?_
    refine ev_aload_n (i := 0) rfl rfl (a_dec_at dc_R_sumOf 8 rfl) ?_
    refine m_getR (y := 120) fl_R_13 rfl sh119 (mr_119_1 _) (by decide) (a_dec_at dc_R_sumOf 9 rfl) ?_
    refine ev_iload_n (i := 1) rfl rfl (a_dec_at dc_R_sumOf 10 rfl) ?_
    refine ev_iload rfl (a_dec_at dc_R_sumOf 11 rfl) ?_
    refine ev_iadd (a_dec_at dc_R_sumOf 12 rfl) ?_
    obtain ⟨c2, H⟩ := H
    refine w_iald (k := (v1 + v4).toNatClampNeg) sh120 c2 rfl (a_dec_at dc_R_sumOf 13 rfl) ?_
    refine ev_iadd (a_dec_at dc_R_sumOf 14 rfl) ?_
    refine ev_istore_n (i := 3) rfl (by decide) rfl (a_dec_at dc_R_sumOf 15 rfl) ?_
    refine ev_iinc (v := 1) rfl rfl (by decide) rfl (a_dec_at dc_R_sumOf 16 rfl) ?_
    refine ev_goto (tgt := 5) (a_dec_at dc_R_sumOf 17 rfl) (by decide) ?_
    exact Ev.drop (L' := [.ref 119, .int v1, .int v2, .int (v3 + (mi 120 ((v1 + v4).toNatClampNeg))), .int (v4 + 1)]) (And.intro rfl (And.intro rfl (And.intro rfl (And.intro rfl (And.intro rfl trivial))))) H
