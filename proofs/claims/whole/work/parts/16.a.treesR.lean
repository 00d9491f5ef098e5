set_option maxRecDepth 20000 in
theorem t_R_plain {l : Launch} {h : Nat} (mi : TMi) (ml : TMl) (z : Nat) (w1 lw1 : Nat) (hw1 : SH[w1]? = some (.inr (0, lw1))) {Q : TMi → TMl → Nat → Prop} (H : Ev l (h + 1) m_R_plain 2 ([.ref w1, .int 0], [], st mi ml z) (qV Q)) : CV l (h + 1) m_R_plain [.ref w1] mi ml z Q := by
  show Ev l (h + 1) m_R_plain 0 ([.ref w1, .retAddr 0], [], st mi ml z) (qV Q)
  refine ev_iconst (v := 0) rfl (a_dec_at dc_R_plain 0 rfl) ?_
  refine ev_istore_n (i := 1) rfl (by decide) rfl (a_dec_at dc_R_plain 1 rfl) ?_
  exact Ev.drop (L' := [.ref w1, .int 0]) (And.intro rfl (And.intro rfl trivial)) H
set_option maxRecDepth 20000 in
theorem t_R_plain_2 {l : Launch} {h : Nat} (mi : TMi) (ml : TMl) (z : Nat) (w1 lw1 : Nat) (v1 : Int32) (hw1 : SH[w1]? = some (.inr (0, lw1))) {Q : TMi → TMl → Nat → Prop} (H : ((1371 ≤ v1 → Ev l (h + 1) m_R_plain 21 ([.ref w1, .int 0], [], st mi ml z) (qV Q)) ∧ (¬ 1371 ≤ v1 → (vp_in v1 lw1) ∧ Ev l (h + 1) m_R_plain 2 ([.ref w1, .int (v1 + 1)], [], st (up mi w1 v1.toNatClampNeg 0) ml z) (qV Q)))) : Ev l (h + 1) m_R_plain 2 ([.ref w1, .int v1], [], st mi ml z) (qV Q) := by
  refine ev_iload_n (i := 1) rfl rfl (a_dec_at dc_R_plain 2 rfl) ?_
  refine ev_sipush (v := 1371) rfl (a_dec_at dc_R_plain 3 rfl) ?_
  refine ev_icmp_ge (tgt := 19) (a_dec_at dc_R_plain 4 rfl) (by decide) (fun b1 => ?_) (fun b1 => ?_)
  · have H := H.1 b1
    refine ev_iconst (v := 0) rfl (a_dec_at dc_R_plain 11 rfl) ?_
    refine ev_istore_n (i := 1) rfl (by decide) rfl (a_dec_at dc_R_plain 12 rfl) ?_
    exact Ev.drop (L' := [.ref w1, .int 0]) (And.intro rfl (And.intro rfl trivial)) H
  · have H := H.2 b1
    refine ev_aload_n (i := 0) rfl rfl (a_dec_at dc_R_plain 5 rfl) ?_
    refine ev_iload_n (i := 1) rfl rfl (a_dec_at dc_R_plain 6 rfl) ?_
    refine ev_iconst (v := 0) rfl (a_dec_at dc_R_plain 7 rfl) ?_
    obtain ⟨c2, H⟩ := H
    refine w_iast (k := v1.toNatClampNeg) hw1 c2 rfl (a_dec_at dc_R_plain 8 rfl) ?_
    refine ev_iinc (v := 1) rfl rfl (by decide) rfl (a_dec_at dc_R_plain 9 rfl) ?_
    refine ev_goto (tgt := 2) (a_dec_at dc_R_plain 10 rfl) (by decide) ?_
    exact Ev.drop (L' := [.ref w1, .int (v1 + 1)]) (And.intro rfl (And.intro rfl trivial)) H
set_option maxRecDepth 20000 in
theorem t_R_plain_21 {l : Launch} {h : Nat} (mi : TMi) (ml : TMl) (z : Nat) (w1 lw1 : Nat) (v1 : Int32) (hw1 : SH[w1]? = some (.inr (0, lw1))) {Q : TMi → TMl → Nat → Prop} (H : ((6 ≤ v1 → Q mi ml z) ∧ (¬ 6 ≤ v1 → (vp_in (29 + v1) lw1) ∧ Ev l (h + 1) m_R_plain 21 ([.ref w1, .int (v1 + 1)], [], st (up mi w1 ((29 + v1).toNatClampNeg) (-1)) ml z) (qV Q)))) : Ev l (h + 1) m_R_plain 21 ([.ref w1, .int v1], [], st mi ml z) (qV Q) := by
  refine ev_iload_n (i := 1) rfl rfl (a_dec_at dc_R_plain 13 rfl) ?_
  refine ev_bipush (v := 6) rfl (a_dec_at dc_R_plain 14 rfl) ?_
  refine ev_icmp_ge (tgt := 40) (a_dec_at dc_R_plain 15 rfl) (by decide) (fun b1 => ?_) (fun b1 => ?_)
  · have H := H.1 b1
    exact m_retV (a_dec_at dc_R_plain 24 rfl) rfl H
  · have H := H.2 b1
    refine ev_aload_n (i := 0) rfl rfl (a_dec_at dc_R_plain 16 rfl) ?_
    refine ev_bipush (v := 29) rfl (a_dec_at dc_R_plain 17 rfl) ?_
    refine ev_iload_n (i := 1) rfl rfl (a_dec_at dc_R_plain 18 rfl) ?_
    refine ev_iadd (a_dec_at dc_R_plain 19 rfl) ?_
    refine ev_iconst (v := (-1)) rfl (a_dec_at dc_R_plain 20 rfl) ?_
    obtain ⟨c2, H⟩ := H
    refine w_iast (k := (29 + v1).toNatClampNeg) hw1 c2 rfl (a_dec_at dc_R_plain 21 rfl) ?_
    refine ev_iinc (v := 1) rfl rfl (by decide) rfl (a_dec_at dc_R_plain 22 rfl) ?_
    refine ev_goto (tgt := 21) (a_dec_at dc_R_plain 23 rfl) (by decide) ?_
    exact Ev.drop (L' := [.ref w1, .int (v1 + 1)]) (And.intro rfl (And.intro rfl trivial)) H
set_option maxRecDepth 20000 in
theorem t_R_feed {l : Launch} {h : Nat} (mi : TMi) (ml : TMl) (z : Nat) (a1 : Int32) (a2 : Int32) (a3 : Int32) (a4 : Int32) (a5 : Int32) {Q : Int32 → TMi → TMl → Nat → Prop} (H : (((((up mi 119 0 0) 119 5) + 20) ≤ 900 → Ev l (h + 1) m_R_feed 24 ([.ref 119, .int a1, .int a2, .int a3, .int a4, .int a5, .int 0, .retAddr 0], [], st (up mi 119 0 0) ml z) (qI Q)) ∧ (¬ (((up mi 119 0 0) 119 5) + 20) ≤ 900 → Q (-5) (up mi 119 0 0) ml z))) : CI l (h + 1) m_R_feed [.ref 119, .int a1, .int a2, .int a3, .int a4, .int a5] mi ml z Q := by
  show Ev l (h + 1) m_R_feed 0 ([.ref 119, .int a1, .int a2, .int a3, .int a4, .int a5, .retAddr 0, .retAddr 0], [], st mi ml z) (qI Q)
  refine ev_aload_n (i := 0) rfl rfl (a_dec_at dc_R_feed 0 rfl) ?_
  refine ev_iconst (v := 0) rfl (a_dec_at dc_R_feed 1 rfl) ?_
  refine m_putI fl_R_1 rfl (fun _ _ _ h => by cases h; exact Or.inl rfl) sh119 (a_dec_at dc_R_feed 2 rfl) ?_
  refine ev_aload_n (i := 0) rfl rfl (a_dec_at dc_R_feed 3 rfl) ?_
  refine m_getI fl_R_77 rfl sh119 (a_dec_at dc_R_feed 4 rfl) ?_
  refine ev_bipush (v := 20) rfl (a_dec_at dc_R_feed 5 rfl) ?_
  refine ev_iadd (a_dec_at dc_R_feed 6 rfl) ?_
  refine ev_sipush (v := 900) rfl (a_dec_at dc_R_feed 7 rfl) ?_
  refine ev_icmp_le (tgt := 21) (a_dec_at dc_R_feed 8 rfl) (by decide) (fun b1 => ?_) (fun b1 => ?_)
  · have H := H.1 b1
    refine ev_iconst (v := 0) rfl (a_dec_at dc_R_feed 11 rfl) ?_
    refine ev_istore (by decide) rfl (a_dec_at dc_R_feed 12 rfl) ?_
    exact Ev.drop (L' := [.ref 119, .int a1, .int a2, .int a3, .int a4, .int a5, .int 0, .retAddr 0]) (And.intro rfl (And.intro rfl (And.intro rfl (And.intro rfl (And.intro rfl (And.intro rfl (And.intro rfl trivial))))))) H
  · have H := H.2 b1
    refine ev_bipush (v := (-5)) rfl (a_dec_at dc_R_feed 9 rfl) ?_
    exact m_retI (a_dec_at dc_R_feed 10 rfl) rfl rfl H
set_option maxRecDepth 20000 in
theorem t_R_feed_24 {l : Launch} {h : Nat} (mi : TMi) (ml : TMl) (z : Nat) (v1 : Int32) (v2 : Int32) (v3 : Int32) (v4 : Int32) (v5 : Int32) (v6 : Int32) {Q : Int32 → TMi → TMl → Nat → Prop} (H : ((20 ≤ v6 → Q (mi 119 5) mi ml z) ∧ (¬ 20 ≤ v6 → ((4 ≤ v6 → ((8 ≤ v6 → ((12 ≤ v6 → ((16 ≤ v6 → (vp_in (mi 119 5) 900) ∧ Ev l (h + 1) m_R_feed 24 ([.ref 119, .int v1, .int v2, .int v3, .int v4, .int v5, .int (v6 + 1), .retAddr 0], [], st (up (up mi 122 ((mi 119 5).toNatClampNeg) ((v5 >>> ((24 - (8 * (a_rem v6 4))) &&& 31)) &&& 255)) 119 5 (((up mi 122 ((mi 119 5).toNatClampNeg) ((v5 >>> ((24 - (8 * (a_rem v6 4))) &&& 31)) &&& 255)) 119 5) + 1)) ml z) (qI Q)) ∧ (¬ 16 ≤ v6 → (vp_in (mi 119 5) 900) ∧ Ev l (h + 1) m_R_feed 24 ([.ref 119, .int v1, .int v2, .int v3, .int v4, .int v5, .int (v6 + 1), .retAddr 0], [], st (up (up mi 122 ((mi 119 5).toNatClampNeg) ((v4 >>> ((24 - (8 * (a_rem v6 4))) &&& 31)) &&& 255)) 119 5 (((up mi 122 ((mi 119 5).toNatClampNeg) ((v4 >>> ((24 - (8 * (a_rem v6 4))) &&& 31)) &&& 255)) 119 5) + 1)) ml z) (qI Q)))) ∧ (¬ 12 ≤ v6 → (vp_in (mi 119 5) 900) ∧ Ev l (h + 1) m_R_feed 24 ([.ref 119, .int v1, .int v2, .int v3, .int v4, .int v5, .int (v6 + 1), .retAddr 0], [], st (up (up mi 122 ((mi 119 5).toNatClampNeg) ((v3 >>> ((24 - (8 * (a_rem v6 4))) &&& 31)) &&& 255)) 119 5 (((up mi 122 ((mi 119 5).toNatClampNeg) ((v3 >>> ((24 - (8 * (a_rem v6 4))) &&& 31)) &&& 255)) 119 5) + 1)) ml z) (qI Q)))) ∧ (¬ 8 ≤ v6 → (vp_in (mi 119 5) 900) ∧ Ev l (h + 1) m_R_feed 24 ([.ref 119, .int v1, .int v2, .int v3, .int v4, .int v5, .int (v6 + 1), .retAddr 0], [], st (up (up mi 122 ((mi 119 5).toNatClampNeg) ((v2 >>> ((24 - (8 * (a_rem v6 4))) &&& 31)) &&& 255)) 119 5 (((up mi 122 ((mi 119 5).toNatClampNeg) ((v2 >>> ((24 - (8 * (a_rem v6 4))) &&& 31)) &&& 255)) 119 5) + 1)) ml z) (qI Q)))) ∧ (¬ 4 ≤ v6 → (vp_in (mi 119 5) 900) ∧ Ev l (h + 1) m_R_feed 24 ([.ref 119, .int v1, .int v2, .int v3, .int v4, .int v5, .int (v6 + 1), .retAddr 0], [], st (up (up mi 122 ((mi 119 5).toNatClampNeg) ((v1 >>> ((24 - (8 * (a_rem v6 4))) &&& 31)) &&& 255)) 119 5 (((up mi 122 ((mi 119 5).toNatClampNeg) ((v1 >>> ((24 - (8 * (a_rem v6 4))) &&& 31)) &&& 255)) 119 5) + 1)) ml z) (qI Q)))))) : Ev l (h + 1) m_R_feed 24 ([.ref 119, .int v1, .int v2, .int v3, .int v4, .int v5, .int v6, .retAddr 0], [], st mi ml z) (qI Q) := by
  refine ev_iload rfl (a_dec_at dc_R_feed 13 rfl) ?_
  refine ev_bipush (v := 20) rfl (a_dec_at dc_R_feed 14 rfl) ?_
  refine ev_icmp_ge (tgt := 121) (a_dec_at dc_R_feed 15 rfl) (by decide) (fun b1 => ?_) (fun b1 => ?_)
  · have H := H.1 b1
    refine ev_aload_n (i := 0) rfl rfl (a_dec_at dc_R_feed 62 rfl) ?_
    refine m_getI fl_R_77 rfl sh119 (a_dec_at dc_R_feed 63 rfl) ?_
    exact m_retI (a_dec_at dc_R_feed 64 rfl) rfl rfl H
  · have H := H.2 b1
    refine ev_iload rfl (a_dec_at dc_R_feed 16 rfl) ?_
    refine ev_iconst (v := 4) rfl (a_dec_at dc_R_feed 17 rfl) ?_
    refine ev_icmp_ge (tgt := 41) (a_dec_at dc_R_feed 18 rfl) (by decide) (fun b2 => ?_) (fun b2 => ?_)
    · have H := H.1 b2
      refine ev_iload rfl (a_dec_at dc_R_feed 21 rfl) ?_
      refine ev_bipush (v := 8) rfl (a_dec_at dc_R_feed 22 rfl) ?_
      refine ev_icmp_ge (tgt := 52) (a_dec_at dc_R_feed 23 rfl) (by decide) (fun b3 => ?_) (fun b3 => ?_)
      · have H := H.1 b3
        refine ev_iload rfl (a_dec_at dc_R_feed 26 rfl) ?_
        refine ev_bipush (v := 12) rfl (a_dec_at dc_R_feed 27 rfl) ?_
        refine ev_icmp_ge (tgt := 63) (a_dec_at dc_R_feed 28 rfl) (by decide) (fun b4 => ?_) (fun b4 => ?_)
        · have H := H.1 b4
          refine ev_iload rfl (a_dec_at dc_R_feed 31 rfl) ?_
          refine ev_bipush (v := 16) rfl (a_dec_at dc_R_feed 32 rfl) ?_
          refine ev_icmp_ge (tgt := 75) (a_dec_at dc_R_feed 33 rfl) (by decide) (fun b5 => ?_) (fun b5 => ?_)
          · have H := H.1 b5
            refine ev_iload rfl (a_dec_at dc_R_feed 36 rfl) ?_
            refine ev_istore (by decide) rfl (a_dec_at dc_R_feed 37 rfl) ?_
            refine ev_aload_n (i := 0) rfl rfl (a_dec_at dc_R_feed 38 rfl) ?_
            refine m_getR (y := 122) fl_R_21 rfl sh119 (mr_119_3 _) (by decide) (a_dec_at dc_R_feed 39 rfl) ?_
            refine ev_aload_n (i := 0) rfl rfl (a_dec_at dc_R_feed 40 rfl) ?_
            refine m_getI fl_R_77 rfl sh119 (a_dec_at dc_R_feed 41 rfl) ?_
            refine ev_iload rfl (a_dec_at dc_R_feed 42 rfl) ?_
            refine ev_bipush (v := 24) rfl (a_dec_at dc_R_feed 43 rfl) ?_
            refine ev_bipush (v := 8) rfl (a_dec_at dc_R_feed 44 rfl) ?_
            refine ev_iload rfl (a_dec_at dc_R_feed 45 rfl) ?_
            refine ev_iconst (v := 4) rfl (a_dec_at dc_R_feed 46 rfl) ?_
            refine ev_irem (by decide) (a_dec_at dc_R_feed 47 rfl) ?_
            refine ev_imul (a_dec_at dc_R_feed 48 rfl) ?_
            refine ev_isub (a_dec_at dc_R_feed 49 rfl) ?_
            refine ev_ishr (a_dec_at dc_R_feed 50 rfl) ?_
            refine ev_sipush (v := 255) rfl (a_dec_at dc_R_feed 51 rfl) ?_
            refine ev_iand (a_dec_at dc_R_feed 52 rfl) ?_
            obtain ⟨c6, H⟩ := H
            refine w_iast (k := (mi 119 5).toNatClampNeg) sh122 c6 rfl (a_dec_at dc_R_feed 53 rfl) ?_
            refine ev_aload_n (i := 0) rfl rfl (a_dec_at dc_R_feed 54 rfl) ?_
            refine ev_dup rfl (a_dec_at dc_R_feed 55 rfl) ?_
            refine m_getI fl_R_77 rfl sh119 (a_dec_at dc_R_feed 56 rfl) ?_
            refine ev_iconst (v := 1) rfl (a_dec_at dc_R_feed 57 rfl) ?_
            refine ev_iadd (a_dec_at dc_R_feed 58 rfl) ?_
            refine m_putI fl_R_77 rfl (fun _ _ _ h => by cases h; exact Or.inl rfl) sh119 (a_dec_at dc_R_feed 59 rfl) ?_
            refine ev_iinc (v := 1) rfl rfl (by decide) rfl (a_dec_at dc_R_feed 60 rfl) ?_
            refine ev_goto (tgt := 24) (a_dec_at dc_R_feed 61 rfl) (by decide) ?_
            exact Ev.drop (L' := [.ref 119, .int v1, .int v2, .int v3, .int v4, .int v5, .int (v6 + 1), .retAddr 0]) (And.intro rfl (And.intro rfl (And.intro rfl (And.intro rfl (And.intro rfl (And.intro rfl (And.intro rfl trivial))))))) H
          · have H := H.2 b5
            refine ev_iload rfl (a_dec_at dc_R_feed 34 rfl) ?_
            refine ev_goto (tgt := 77) (a_dec_at dc_R_feed 35 rfl) (by decide) ?_
            refine ev_istore (by decide) rfl (a_dec_at dc_R_feed 37 rfl) ?_
            refine ev_aload_n (i := 0) rfl rfl (a_dec_at dc_R_feed 38 rfl) ?_
            refine m_getR (y := 122) fl_R_21 rfl sh119 (mr_119_3 _) (by decide) (a_dec_at dc_R_feed 39 rfl) ?_
            refine ev_aload_n (i := 0) rfl rfl (a_dec_at dc_R_feed 40 rfl) ?_
            refine m_getI fl_R_77 rfl sh119 (a_dec_at dc_R_feed 41 rfl) ?_
            refine ev_iload rfl (a_dec_at dc_R_feed 42 rfl) ?_
            refine ev_bipush (v := 24) rfl (a_dec_at dc_R_feed 43 rfl) ?_
            refine ev_bipush (v := 8) rfl (a_dec_at dc_R_feed 44 rfl) ?_
            refine ev_iload rfl (a_dec_at dc_R_feed 45 rfl) ?_
            refine ev_iconst (v := 4) rfl (a_dec_at dc_R_feed 46 rfl) ?_
            refine ev_irem (by decide) (a_dec_at dc_R_feed 47 rfl) ?_
            refine ev_imul (a_dec_at dc_R_feed 48 rfl) ?_
            refine ev_isub (a_dec_at dc_R_feed 49 rfl) ?_
            refine ev_ishr (a_dec_at dc_R_feed 50 rfl) ?_
            refine ev_sipush (v := 255) rfl (a_dec_at dc_R_feed 51 rfl) ?_
            refine ev_iand (a_dec_at dc_R_feed 52 rfl) ?_
            obtain ⟨c7, H⟩ := H
            refine w_iast (k := (mi 119 5).toNatClampNeg) sh122 c7 rfl (a_dec_at dc_R_feed 53 rfl) ?_
            refine ev_aload_n (i := 0) rfl rfl (a_dec_at dc_R_feed 54 rfl) ?_
            refine ev_dup rfl (a_dec_at dc_R_feed 55 rfl) ?_
            refine m_getI fl_R_77 rfl sh119 (a_dec_at dc_R_feed 56 rfl) ?_
            refine ev_iconst (v := 1) rfl (a_dec_at dc_R_feed 57 rfl) ?_
            refine ev_iadd (a_dec_at dc_R_feed 58 rfl) ?_
            refine m_putI fl_R_77 rfl (fun _ _ _ h => by cases h; exact Or.inl rfl) sh119 (a_dec_at dc_R_feed 59 rfl) ?_
            refine ev_iinc (v := 1) rfl rfl (by decide) rfl (a_dec_at dc_R_feed 60 rfl) ?_
            refine ev_goto (tgt := 24) (a_dec_at dc_R_feed 61 rfl) (by decide) ?_
            exact Ev.drop (L' := [.ref 119, .int v1, .int v2, .int v3, .int v4, .int v5, .int (v6 + 1), .retAddr 0]) (And.intro rfl (And.intro rfl (And.intro rfl (And.intro rfl (And.intro rfl (And.intro rfl (And.intro rfl trivial))))))) H
        · have H := H.2 b4
          refine ev_iload_n (i := 3) rfl rfl (a_dec_at dc_R_feed 29 rfl) ?_
          refine ev_goto (tgt := 77) (a_dec_at dc_R_feed 30 rfl) (by decide) ?_
          refine ev_istore (by decide) rfl (a_dec_at dc_R_feed 37 rfl) ?_
          refine ev_aload_n (i := 0) rfl rfl (a_dec_at dc_R_feed 38 rfl) ?_
          refine m_getR (y := 122) fl_R_21 rfl sh119 (mr_119_3 _) (by decide) (a_dec_at dc_R_feed 39 rfl) ?_
          refine ev_aload_n (i := 0) rfl rfl (a_dec_at dc_R_feed 40 rfl) ?_
          refine m_getI fl_R_77 rfl sh119 (a_dec_at dc_R_feed 41 rfl) ?_
          refine ev_iload rfl (a_dec_at dc_R_feed 42 rfl) ?_
          refine ev_bipush (v := 24) rfl (a_dec_at dc_R_feed 43 rfl) ?_
          refine ev_bipush (v := 8) rfl (a_dec_at dc_R_feed 44 rfl) ?_
          refine ev_iload rfl (a_dec_at dc_R_feed 45 rfl) ?_
          refine ev_iconst (v := 4) rfl (a_dec_at dc_R_feed 46 rfl) ?_
          refine ev_irem (by decide) (a_dec_at dc_R_feed 47 rfl) ?_
          refine ev_imul (a_dec_at dc_R_feed 48 rfl) ?_
          refine ev_isub (a_dec_at dc_R_feed 49 rfl) ?_
          refine ev_ishr (a_dec_at dc_R_feed 50 rfl) ?_
          refine ev_sipush (v := 255) rfl (a_dec_at dc_R_feed 51 rfl) ?_
          refine ev_iand (a_dec_at dc_R_feed 52 rfl) ?_
          obtain ⟨c8, H⟩ := H
          refine w_iast (k := (mi 119 5).toNatClampNeg) sh122 c8 rfl (a_dec_at dc_R_feed 53 rfl) ?_
          refine ev_aload_n (i := 0) rfl rfl (a_dec_at dc_R_feed 54 rfl) ?_
          refine ev_dup rfl (a_dec_at dc_R_feed 55 rfl) ?_
          refine m_getI fl_R_77 rfl sh119 (a_dec_at dc_R_feed 56 rfl) ?_
          refine ev_iconst (v := 1) rfl (a_dec_at dc_R_feed 57 rfl) ?_
          refine ev_iadd (a_dec_at dc_R_feed 58 rfl) ?_
          refine m_putI fl_R_77 rfl (fun _ _ _ h => by cases h; exact Or.inl rfl) sh119 (a_dec_at dc_R_feed 59 rfl) ?_
          refine ev_iinc (v := 1) rfl rfl (by decide) rfl (a_dec_at dc_R_feed 60 rfl) ?_
          refine ev_goto (tgt := 24) (a_dec_at dc_R_feed 61 rfl) (by decide) ?_
          exact Ev.drop (L' := [.ref 119, .int v1, .int v2, .int v3, .int v4, .int v5, .int (v6 + 1), .retAddr 0]) (And.intro rfl (And.intro rfl (And.intro rfl (And.intro rfl (And.intro rfl (And.intro rfl (And.intro rfl trivial))))))) H
      · have H := H.2 b3
        refine ev_iload_n (i := 2) rfl rfl (a_dec_at dc_R_feed 24 rfl) ?_
        refine ev_goto (tgt := 77) (a_dec_at dc_R_feed 25 rfl) (by decide) ?_
        refine ev_istore (by decide) rfl (a_dec_at dc_R_feed 37 rfl) ?_
        refine ev_aload_n (i := 0) rfl rfl (a_dec_at dc_R_feed 38 rfl) ?_
        refine m_getR (y := 122) fl_R_21 rfl sh119 (mr_119_3 _) (by decide) (a_dec_at dc_R_feed 39 rfl) ?_
        refine ev_aload_n (i := 0) rfl rfl (a_dec_at dc_R_feed 40 rfl) ?_
        refine m_getI fl_R_77 rfl sh119 (a_dec_at dc_R_feed 41 rfl) ?_
        refine ev_iload rfl (a_dec_at dc_R_feed 42 rfl) ?_
        refine ev_bipush (v := 24) rfl (a_dec_at dc_R_feed 43 rfl) ?_
        refine ev_bipush (v := 8) rfl (a_dec_at dc_R_feed 44 rfl) ?_
        refine ev_iload rfl (a_dec_at dc_R_feed 45 rfl) ?_
        refine ev_iconst (v := 4) rfl (a_dec_at dc_R_feed 46 rfl) ?_
        refine ev_irem (by decide) (a_dec_at dc_R_feed 47 rfl) ?_
        refine ev_imul (a_dec_at dc_R_feed 48 rfl) ?_
        refine ev_isub (a_dec_at dc_R_feed 49 rfl) ?_
        refine ev_ishr (a_dec_at dc_R_feed 50 rfl) ?_
        refine ev_sipush (v := 255) rfl (a_dec_at dc_R_feed 51 rfl) ?_
        refine ev_iand (a_dec_at dc_R_feed 52 rfl) ?_
        obtain ⟨c9, H⟩ := H
        refine w_iast (k := (mi 119 5).toNatClampNeg) sh122 c9 rfl (a_dec_at dc_R_feed 53 rfl) ?_
        refine ev_aload_n (i := 0) rfl rfl (a_dec_at dc_R_feed 54 rfl) ?_
        refine ev_dup rfl (a_dec_at dc_R_feed 55 rfl) ?_
        refine m_getI fl_R_77 rfl sh119 (a_dec_at dc_R_feed 56 rfl) ?_
        refine ev_iconst (v := 1) rfl (a_dec_at dc_R_feed 57 rfl) ?_
        refine ev_iadd (a_dec_at dc_R_feed 58 rfl) ?_
        refine m_putI fl_R_77 rfl (fun _ _ _ h => by cases h; exact Or.inl rfl) sh119 (a_dec_at dc_R_feed 59 rfl) ?_
        refine ev_iinc (v := 1) rfl rfl (by decide) rfl (a_dec_at dc_R_feed 60 rfl) ?_
        refine ev_goto (tgt := 24) (a_dec_at dc_R_feed 61 rfl) (by decide) ?_
        exact Ev.drop (L' := [.ref 119, .int v1, .int v2, .int v3, .int v4, .int v5, .int (v6 + 1), .retAddr 0]) (And.intro rfl (And.intro rfl (And.intro rfl (And.intro rfl (And.intro rfl (And.intro rfl (And.intro rfl trivial))))))) H
    · have H := H.2 b2
      refine ev_iload_n (i := 1) rfl rfl (a_dec_at dc_R_feed 19 rfl) ?_
      refine ev_goto (tgt := 77) (a_dec_at dc_R_feed 20 rfl) (by decide) ?_
      refine ev_istore (by decide) rfl (a_dec_at dc_R_feed 37 rfl) ?_
      refine ev_aload_n (i := 0) rfl rfl (a_dec_at dc_R_feed 38 rfl) ?_
      refine m_getR (y := 122) fl_R_21 rfl sh119 (mr_119_3 _) (by decide) (a_dec_at dc_R_feed 39 rfl) ?_
      refine ev_aload_n (i := 0) rfl rfl (a_dec_at dc_R_feed 40 rfl) ?_
      refine m_getI fl_R_77 rfl sh119 (a_dec_at dc_R_feed 41 rfl) ?_
      refine ev_iload rfl (a_dec_at dc_R_feed 42 rfl) ?_
      refine ev_bipush (v := 24) rfl (a_dec_at dc_R_feed 43 rfl) ?_
      refine ev_bipush (v := 8) rfl (a_dec_at dc_R_feed 44 rfl) ?_
      refine ev_iload rfl (a_dec_at dc_R_feed 45 rfl) ?_
      refine ev_iconst (v := 4) rfl (a_dec_at dc_R_feed 46 rfl) ?_
      refine ev_irem (by decide) (a_dec_at dc_R_feed 47 rfl) ?_
      refine ev_imul (a_dec_at dc_R_feed 48 rfl) ?_
      refine ev_isub (a_dec_at dc_R_feed 49 rfl) ?_
      refine ev_ishr (a_dec_at dc_R_feed 50 rfl) ?_
      refine ev_sipush (v := 255) rfl (a_dec_at dc_R_feed 51 rfl) ?_
      refine ev_iand (a_dec_at dc_R_feed 52 rfl) ?_
      obtain ⟨c10, H⟩ := H
      refine w_iast (k := (mi 119 5).toNatClampNeg) sh122 c10 rfl (a_dec_at dc_R_feed 53 rfl) ?_
      refine ev_aload_n (i := 0) rfl rfl (a_dec_at dc_R_feed 54 rfl) ?_
      refine ev_dup rfl (a_dec_at dc_R_feed 55 rfl) ?_
      refine m_getI fl_R_77 rfl sh119 (a_dec_at dc_R_feed 56 rfl) ?_
      refine ev_iconst (v := 1) rfl (a_dec_at dc_R_feed 57 rfl) ?_
      refine ev_iadd (a_dec_at dc_R_feed 58 rfl) ?_
      refine m_putI fl_R_77 rfl (fun _ _ _ h => by cases h; exact Or.inl rfl) sh119 (a_dec_at dc_R_feed 59 rfl) ?_
      refine ev_iinc (v := 1) rfl rfl (by decide) rfl (a_dec_at dc_R_feed 60 rfl) ?_
      refine ev_goto (tgt := 24) (a_dec_at dc_R_feed 61 rfl) (by decide) ?_
      exact Ev.drop (L' := [.ref 119, .int v1, .int v2, .int v3, .int v4, .int v5, .int (v6 + 1), .retAddr 0]) (And.intro rfl (And.intro rfl (And.intro rfl (And.intro rfl (And.intro rfl (And.intro rfl (And.intro rfl trivial))))))) H
set_option maxRecDepth 20000 in
theorem t_R_land {l : Launch} {h : Nat} (mi : TMi) (ml : TMl) (z : Nat) (a1 : Int32) {Q : Int32 → TMi → TMl → Nat → Prop} (H : CI l h m_R_within [.long a1.toInt64, .long 0, .long (((up mi 119 0 0) 119 5).toInt64)] (up mi 119 0 0) ml z (fun x1 mi1 ml1 z1 => ((¬ x1 = 0 → CV l h m_R_plain [.ref 123] (up (up (up (up mi1 119 8 a1) 119 5 0) 119 7 0) 119 11 0) ml1 z1 (fun mi3 ml3 z3 => CV l h m_R_next [.ref 119] mi3 ml3 z3 (fun mi4 ml4 z4 => CI l h m_R_eats [.ref 119, .int 0] mi4 ml4 z4 (fun x5 mi5 ml5 z5 => ((¬ x5 = 0 → CV l h m_R_ends [.ref 119] mi5 ml5 z5 (fun mi7 ml7 z7 => Ev l (h + 1) m_R_land 70 ([.ref 119, .retAddr 0, .retAddr 0], [], st mi7 ml7 z7) (qI Q))) ∧ (x5 = 0 → CV l h m_R_fails [.ref 119, .int 2] mi5 ml5 z5 (fun mi8 ml8 z8 => CV l h m_R_ends [.ref 119] mi8 ml8 z8 (fun mi9 ml9 z9 => Ev l (h + 1) m_R_land 70 ([.ref 119, .retAddr 0, .retAddr 0], [], st mi9 ml9 z9) (qI Q))))))))) ∧ (x1 = 0 → Q (-3) mi1 ml1 z1)))) : CI l (h + 1) m_R_land [.ref 119, .int a1] mi ml z Q := by
  show Ev l (h + 1) m_R_land 0 ([.ref 119, .int a1, .retAddr 0], [], st mi ml z) (qI Q)
  refine ev_aload_n (i := 0) rfl rfl (a_dec_at dc_R_land 0 rfl) ?_
  refine ev_iconst (v := 0) rfl (a_dec_at dc_R_land 1 rfl) ?_
  refine m_putI fl_R_1 rfl (fun _ _ _ h => by cases h; exact Or.inl rfl) sh119 (a_dec_at dc_R_land 2 rfl) ?_
  refine ev_iload_n (i := 1) rfl rfl (a_dec_at dc_R_land 3 rfl) ?_
  refine ev_i2l (a_dec_at dc_R_land 4 rfl) ?_
  refine ev_lconst (v := 0) rfl (a_dec_at dc_R_land 5 rfl) ?_
  refine ev_aload_n (i := 0) rfl rfl (a_dec_at dc_R_land 6 rfl) ?_
  refine m_getI fl_R_77 rfl sh119 (a_dec_at dc_R_land 7 rfl) ?_
  refine ev_i2l (a_dec_at dc_R_land 8 rfl) ?_
  refine cS3I cs_R_139 rfl (Nat.le_of_ble_eq_true rfl) (Nat.le_of_ble_eq_true rfl) (a_dec_at dc_R_land 9 rfl) ?_
  refine CI.mono (fun x1 mi1 ml1 z1 H => ?_) H
  refine ev_if_ne (tgt := 22) (a_dec_at dc_R_land 10 rfl) (by decide) (fun b2 => ?_) (fun b2 => ?_)
  · have H := H.1 b2
    refine ev_aload_n (i := 0) rfl rfl (a_dec_at dc_R_land 13 rfl) ?_
    refine ev_iload_n (i := 1) rfl rfl (a_dec_at dc_R_land 14 rfl) ?_
    refine m_putI fl_R_80 rfl (fun _ _ _ h => by cases h; exact Or.inl rfl) sh119 (a_dec_at dc_R_land 15 rfl) ?_
    refine ev_aload_n (i := 0) rfl rfl (a_dec_at dc_R_land 16 rfl) ?_
    refine ev_iconst (v := 0) rfl (a_dec_at dc_R_land 17 rfl) ?_
    refine m_putI fl_R_77 rfl (fun _ _ _ h => by cases h; exact Or.inl rfl) sh119 (a_dec_at dc_R_land 18 rfl) ?_
    refine ev_aload_n (i := 0) rfl rfl (a_dec_at dc_R_land 19 rfl) ?_
    refine ev_iconst (v := 0) rfl (a_dec_at dc_R_land 20 rfl) ?_
    refine m_putI fl_R_98 rfl (fun _ _ _ h => by cases h; exact Or.inl rfl) sh119 (a_dec_at dc_R_land 21 rfl) ?_
    refine ev_aload_n (i := 0) rfl rfl (a_dec_at dc_R_land 22 rfl) ?_
    refine ev_iconst (v := 0) rfl (a_dec_at dc_R_land 23 rfl) ?_
    refine m_putI fl_R_123 rfl (fun _ _ _ h => by cases h; exact Or.inl rfl) sh119 (a_dec_at dc_R_land 24 rfl) ?_
    refine ev_aload_n (i := 0) rfl rfl (a_dec_at dc_R_land 25 rfl) ?_
    refine m_getR (y := 123) fl_R_24 rfl sh119 (mr_119_4 _) (by decide) (a_dec_at dc_R_land 26 rfl) ?_
    refine cS1V cs_R_73 rfl (Nat.le_of_ble_eq_true rfl) (Nat.le_of_ble_eq_true rfl) (a_dec_at dc_R_land 27 rfl) ?_
    refine CV.mono (fun mi3 ml3 z3 H => ?_) H
    refine ev_aload_n (i := 0) rfl rfl (a_dec_at dc_R_land 28 rfl) ?_
    refine cV0V cs_R_132 sh119 rfl (Nat.le_of_ble_eq_true rfl) (Nat.le_of_ble_eq_true rfl) (a_dec_at dc_R_land 29 rfl) ?_
    refine CV.mono (fun mi4 ml4 z4 H => ?_) H
    refine ev_aload_n (i := 0) rfl rfl (a_dec_at dc_R_land 30 rfl) ?_
    refine ev_iconst (v := 0) rfl (a_dec_at dc_R_land 31 rfl) ?_
    refine cV1I cs_R_155 sh119 rfl (Nat.le_of_ble_eq_true rfl) (Nat.le_of_ble_eq_true rfl) (a_dec_at dc_R_land 32 rfl) ?_
    refine CI.mono (fun x5 mi5 ml5 z5 H => ?_) H
    refine ev_if_ne (tgt := 66) (a_dec_at dc_R_land 33 rfl) (by decide) (fun b6 => ?_) (fun b6 => ?_)
    · have H := H.1 b6
      refine ev_aload_n (i := 0) rfl rfl (a_dec_at dc_R_land 37 rfl) ?_
      refine cV0V cs_R_198 sh119 rfl (Nat.le_of_ble_eq_true rfl) (Nat.le_of_ble_eq_true rfl) (a_dec_at dc_R_land 38 rfl) ?_
      refine CV.mono (fun mi7 ml7 z7 H => ?_) H
      exact Ev.drop (L' := [.ref 119, .retAddr 0, .retAddr 0]) (And.intro rfl trivial) H
    · have H := H.2 b6
      refine ev_aload_n (i := 0) rfl rfl (a_dec_at dc_R_land 34 rfl) ?_
      refine ev_iconst (v := 2) rfl (a_dec_at dc_R_land 35 rfl) ?_
      refine cV1V cs_R_135 sh119 rfl (Nat.le_of_ble_eq_true rfl) (Nat.le_of_ble_eq_true rfl) (a_dec_at dc_R_land 36 rfl) ?_
      refine CV.mono (fun mi8 ml8 z8 H => ?_) H
      refine ev_aload_n (i := 0) rfl rfl (a_dec_at dc_R_land 37 rfl) ?_
      refine cV0V cs_R_198 sh119 rfl (Nat.le_of_ble_eq_true rfl) (Nat.le_of_ble_eq_true rfl) (a_dec_at dc_R_land 38 rfl) ?_
      refine CV.mono (fun mi9 ml9 z9 H => ?_) H
      exact Ev.drop (L' := [.ref 119, .retAddr 0, .retAddr 0]) (And.intro rfl trivial) H
  · have H := H.2 b2
    refine ev_bipush (v := (-3)) rfl (a_dec_at dc_R_land 11 rfl) ?_
    exact m_retI (a_dec_at dc_R_land 12 rfl) rfl rfl H
set_option maxRecDepth 20000 in
theorem t_R_land_70 {l : Launch} {h : Nat} (mi : TMi) (ml : TMl) (z : Nat) {Q : Int32 → TMi → TMl → Nat → Prop} (H : ((¬ (mi 119 11) = 0 → ((¬ ((up mi 119 13 (mi 119 11)) 119 11) = 0 → ((((up (up mi 119 13 (mi 119 11)) 119 14 ((up mi 119 13 (mi 119 11)) 119 12)) 119 11) = 0 → Ev l (h + 1) m_R_land 141 ([.ref 119, .retAddr 0, .int 0], [], st (up (up mi 119 13 (mi 119 11)) 119 14 ((up mi 119 13 (mi 119 11)) 119 12)) ml z) (qI Q)) ∧ (¬ ((up (up mi 119 13 (mi 119 11)) 119 14 ((up mi 119 13 (mi 119 11)) 119 12)) 119 11) = 0 → Q ((-30) - ((up (up mi 119 13 (mi 119 11)) 119 14 ((up mi 119 13 (mi 119 11)) 119 12)) 119 11)) (up (up mi 119 13 (mi 119 11)) 119 14 ((up mi 119 13 (mi 119 11)) 119 12)) ml z))) ∧ (((up mi 119 13 (mi 119 11)) 119 11) = 0 → ((((up (up mi 119 13 (mi 119 11)) 119 14 (-1)) 119 11) = 0 → Ev l (h + 1) m_R_land 141 ([.ref 119, .retAddr 0, .int 0], [], st (up (up mi 119 13 (mi 119 11)) 119 14 (-1)) ml z) (qI Q)) ∧ (¬ ((up (up mi 119 13 (mi 119 11)) 119 14 (-1)) 119 11) = 0 → Q ((-30) - ((up (up mi 119 13 (mi 119 11)) 119 14 (-1)) 119 11)) (up (up mi 119 13 (mi 119 11)) 119 14 (-1)) ml z))))) ∧ ((mi 119 11) = 0 → (((mi 119 9) = 24 → ((¬ ((up mi 119 13 (mi 119 11)) 119 11) = 0 → ((((up (up mi 119 13 (mi 119 11)) 119 14 ((up mi 119 13 (mi 119 11)) 119 12)) 119 11) = 0 → Ev l (h + 1) m_R_land 141 ([.ref 119, .retAddr 0, .int 0], [], st (up (up mi 119 13 (mi 119 11)) 119 14 ((up mi 119 13 (mi 119 11)) 119 12)) ml z) (qI Q)) ∧ (¬ ((up (up mi 119 13 (mi 119 11)) 119 14 ((up mi 119 13 (mi 119 11)) 119 12)) 119 11) = 0 → Q ((-30) - ((up (up mi 119 13 (mi 119 11)) 119 14 ((up mi 119 13 (mi 119 11)) 119 12)) 119 11)) (up (up mi 119 13 (mi 119 11)) 119 14 ((up mi 119 13 (mi 119 11)) 119 12)) ml z))) ∧ (((up mi 119 13 (mi 119 11)) 119 11) = 0 → ((((up (up mi 119 13 (mi 119 11)) 119 14 (-1)) 119 11) = 0 → Ev l (h + 1) m_R_land 141 ([.ref 119, .retAddr 0, .int 0], [], st (up (up mi 119 13 (mi 119 11)) 119 14 (-1)) ml z) (qI Q)) ∧ (¬ ((up (up mi 119 13 (mi 119 11)) 119 14 (-1)) 119 11) = 0 → Q ((-30) - ((up (up mi 119 13 (mi 119 11)) 119 14 (-1)) 119 11)) (up (up mi 119 13 (mi 119 11)) 119 14 (-1)) ml z))))) ∧ (¬ (mi 119 9) = 24 → CV l h m_R_readLine [.ref 119] mi ml z (fun mi9 ml9 z9 => CV l h m_R_ends [.ref 119] mi9 ml9 z9 (fun mi10 ml10 z10 => Ev l (h + 1) m_R_land 70 ([.ref 119, .retAddr 0, .retAddr 0], [], st mi10 ml10 z10) (qI Q)))))))) : Ev l (h + 1) m_R_land 70 ([.ref 119, .retAddr 0, .retAddr 0], [], st mi ml z) (qI Q) := by
  refine ev_aload_n (i := 0) rfl rfl (a_dec_at dc_R_land 39 rfl) ?_
  refine m_getI fl_R_123 rfl sh119 (a_dec_at dc_R_land 40 rfl) ?_
  refine ev_if_ne (tgt := 97) (a_dec_at dc_R_land 41 rfl) (by decide) (fun b1 => ?_) (fun b1 => ?_)
  · have H := H.1 b1
    refine ev_aload_n (i := 0) rfl rfl (a_dec_at dc_R_land 51 rfl) ?_
    refine ev_aload_n (i := 0) rfl rfl (a_dec_at dc_R_land 52 rfl) ?_
    refine m_getI fl_R_123 rfl sh119 (a_dec_at dc_R_land 53 rfl) ?_
    refine m_putI fl_R_204 rfl (fun _ _ _ h => by cases h; exact Or.inl rfl) sh119 (a_dec_at dc_R_land 54 rfl) ?_
    refine ev_aload_n (i := 0) rfl rfl (a_dec_at dc_R_land 55 rfl) ?_
    refine ev_aload_n (i := 0) rfl rfl (a_dec_at dc_R_land 56 rfl) ?_
    refine m_getI fl_R_123 rfl sh119 (a_dec_at dc_R_land 57 rfl) ?_
    refine ev_if_ne (tgt := 117) (a_dec_at dc_R_land 58 rfl) (by decide) (fun b2 => ?_) (fun b2 => ?_)
    · have H := H.1 b2
      refine ev_aload_n (i := 0) rfl rfl (a_dec_at dc_R_land 61 rfl) ?_
      refine m_getI fl_R_126 rfl sh119 (a_dec_at dc_R_land 62 rfl) ?_
      refine m_putI fl_R_27 rfl (fun _ _ _ h => by cases h; exact Or.inl rfl) sh119 (a_dec_at dc_R_land 63 rfl) ?_
      refine ev_aload_n (i := 0) rfl rfl (a_dec_at dc_R_land 64 rfl) ?_
      refine m_getI fl_R_123 rfl sh119 (a_dec_at dc_R_land 65 rfl) ?_
      refine ev_if_eq (tgt := 139) (a_dec_at dc_R_land 66 rfl) (by decide) (fun b3 => ?_) (fun b3 => ?_)
      · have H := H.1 b3
        refine ev_iconst (v := 0) rfl (a_dec_at dc_R_land 72 rfl) ?_
        refine ev_istore_n (i := 2) rfl (by decide) rfl (a_dec_at dc_R_land 73 rfl) ?_
        exact Ev.drop (L' := [.ref 119, .retAddr 0, .int 0]) (And.intro rfl (And.intro rfl trivial)) H
      · have H := H.2 b3
        refine ev_bipush (v := (-30)) rfl (a_dec_at dc_R_land 67 rfl) ?_
        refine ev_aload_n (i := 0) rfl rfl (a_dec_at dc_R_land 68 rfl) ?_
        refine m_getI fl_R_123 rfl sh119 (a_dec_at dc_R_land 69 rfl) ?_
        refine ev_isub (a_dec_at dc_R_land 70 rfl) ?_
        exact m_retI (a_dec_at dc_R_land 71 rfl) rfl rfl H
    · have H := H.2 b2
      refine ev_iconst (v := (-1)) rfl (a_dec_at dc_R_land 59 rfl) ?_
      refine ev_goto (tgt := 121) (a_dec_at dc_R_land 60 rfl) (by decide) ?_
      refine m_putI fl_R_27 rfl (fun _ _ _ h => by cases h; exact Or.inl rfl) sh119 (a_dec_at dc_R_land 63 rfl) ?_
      refine ev_aload_n (i := 0) rfl rfl (a_dec_at dc_R_land 64 rfl) ?_
      refine m_getI fl_R_123 rfl sh119 (a_dec_at dc_R_land 65 rfl) ?_
      refine ev_if_eq (tgt := 139) (a_dec_at dc_R_land 66 rfl) (by decide) (fun b4 => ?_) (fun b4 => ?_)
      · have H := H.1 b4
        refine ev_iconst (v := 0) rfl (a_dec_at dc_R_land 72 rfl) ?_
        refine ev_istore_n (i := 2) rfl (by decide) rfl (a_dec_at dc_R_land 73 rfl) ?_
        exact Ev.drop (L' := [.ref 119, .retAddr 0, .int 0]) (And.intro rfl (And.intro rfl trivial)) H
      · have H := H.2 b4
        refine ev_bipush (v := (-30)) rfl (a_dec_at dc_R_land 67 rfl) ?_
        refine ev_aload_n (i := 0) rfl rfl (a_dec_at dc_R_land 68 rfl) ?_
        refine m_getI fl_R_123 rfl sh119 (a_dec_at dc_R_land 69 rfl) ?_
        refine ev_isub (a_dec_at dc_R_land 70 rfl) ?_
        exact m_retI (a_dec_at dc_R_land 71 rfl) rfl rfl H
  · have H := H.2 b1
    refine ev_aload_n (i := 0) rfl rfl (a_dec_at dc_R_land 42 rfl) ?_
    refine m_getI fl_R_105 rfl sh119 (a_dec_at dc_R_land 43 rfl) ?_
    refine ev_bipush (v := 24) rfl (a_dec_at dc_R_land 44 rfl) ?_
    refine ev_icmp_eq (tgt := 97) (a_dec_at dc_R_land 45 rfl) (by decide) (fun b5 => ?_) (fun b5 => ?_)
    · have H := H.1 b5
      refine ev_aload_n (i := 0) rfl rfl (a_dec_at dc_R_land 51 rfl) ?_
      refine ev_aload_n (i := 0) rfl rfl (a_dec_at dc_R_land 52 rfl) ?_
      refine m_getI fl_R_123 rfl sh119 (a_dec_at dc_R_land 53 rfl) ?_
      refine m_putI fl_R_204 rfl (fun _ _ _ h => by cases h; exact Or.inl rfl) sh119 (a_dec_at dc_R_land 54 rfl) ?_
      refine ev_aload_n (i := 0) rfl rfl (a_dec_at dc_R_land 55 rfl) ?_
      refine ev_aload_n (i := 0) rfl rfl (a_dec_at dc_R_land 56 rfl) ?_
      refine m_getI fl_R_123 rfl sh119 (a_dec_at dc_R_land 57 rfl) ?_
      refine ev_if_ne (tgt := 117) (a_dec_at dc_R_land 58 rfl) (by decide) (fun b6 => ?_) (fun b6 => ?_)
      · have H := H.1 b6
        refine ev_aload_n (i := 0) rfl rfl (a_dec_at dc_R_land 61 rfl) ?_
        refine m_getI fl_R_126 rfl sh119 (a_dec_at dc_R_land 62 rfl) ?_
        refine m_putI fl_R_27 rfl (fun _ _ _ h => by cases h; exact Or.inl rfl) sh119 (a_dec_at dc_R_land 63 rfl) ?_
        refine ev_aload_n (i := 0) rfl rfl (a_dec_at dc_R_land 64 rfl) ?_
        refine m_getI fl_R_123 rfl sh119 (a_dec_at dc_R_land 65 rfl) ?_
        refine ev_if_eq (tgt := 139) (a_dec_at dc_R_land 66 rfl) (by decide) (fun b7 => ?_) (fun b7 => ?_)
        · have H := H.1 b7
          refine ev_iconst (v := 0) rfl (a_dec_at dc_R_land 72 rfl) ?_
          refine ev_istore_n (i := 2) rfl (by decide) rfl (a_dec_at dc_R_land 73 rfl) ?_
          exact Ev.drop (L' := [.ref 119, .retAddr 0, .int 0]) (And.intro rfl (And.intro rfl trivial)) H
        · have H := H.2 b7
          refine ev_bipush (v := (-30)) rfl (a_dec_at dc_R_land 67 rfl) ?_
          refine ev_aload_n (i := 0) rfl rfl (a_dec_at dc_R_land 68 rfl) ?_
          refine m_getI fl_R_123 rfl sh119 (a_dec_at dc_R_land 69 rfl) ?_
          refine ev_isub (a_dec_at dc_R_land 70 rfl) ?_
          exact m_retI (a_dec_at dc_R_land 71 rfl) rfl rfl H
      · have H := H.2 b6
        refine ev_iconst (v := (-1)) rfl (a_dec_at dc_R_land 59 rfl) ?_
        refine ev_goto (tgt := 121) (a_dec_at dc_R_land 60 rfl) (by decide) ?_
        refine m_putI fl_R_27 rfl (fun _ _ _ h => by cases h; exact Or.inl rfl) sh119 (a_dec_at dc_R_land 63 rfl) ?_
        refine ev_aload_n (i := 0) rfl rfl (a_dec_at dc_R_land 64 rfl) ?_
        refine m_getI fl_R_123 rfl sh119 (a_dec_at dc_R_land 65 rfl) ?_
        refine ev_if_eq (tgt := 139) (a_dec_at dc_R_land 66 rfl) (by decide) (fun b8 => ?_) (fun b8 => ?_)
        · have H := H.1 b8
          refine ev_iconst (v := 0) rfl (a_dec_at dc_R_land 72 rfl) ?_
          refine ev_istore_n (i := 2) rfl (by decide) rfl (a_dec_at dc_R_land 73 rfl) ?_
          exact Ev.drop (L' := [.ref 119, .retAddr 0, .int 0]) (And.intro rfl (And.intro rfl trivial)) H
        · have H := H.2 b8
          refine ev_bipush (v := (-30)) rfl (a_dec_at dc_R_land 67 rfl) ?_
          refine ev_aload_n (i := 0) rfl rfl (a_dec_at dc_R_land 68 rfl) ?_
          refine m_getI fl_R_123 rfl sh119 (a_dec_at dc_R_land 69 rfl) ?_
          refine ev_isub (a_dec_at dc_R_land 70 rfl) ?_
          exact m_retI (a_dec_at dc_R_land 71 rfl) rfl rfl H
    · have H := H.2 b5
      refine ev_aload_n (i := 0) rfl rfl (a_dec_at dc_R_land 46 rfl) ?_
      refine cV0V cs_R_201 sh119 rfl (Nat.le_of_ble_eq_true rfl) (Nat.le_of_ble_eq_true rfl) (a_dec_at dc_R_land 47 rfl) ?_
      refine CV.mono (fun mi9 ml9 z9 H => ?_) H
      refine ev_aload_n (i := 0) rfl rfl (a_dec_at dc_R_land 48 rfl) ?_
      refine cV0V cs_R_198 sh119 rfl (Nat.le_of_ble_eq_true rfl) (Nat.le_of_ble_eq_true rfl) (a_dec_at dc_R_land 49 rfl) ?_
      refine CV.mono (fun mi10 ml10 z10 H => ?_) H
      refine ev_goto (tgt := 70) (a_dec_at dc_R_land 50 rfl) (by decide) ?_
      exact Ev.drop (L' := [.ref 119, .retAddr 0, .retAddr 0]) (And.intro rfl trivial) H
set_option maxRecDepth 20000 in
theorem t_R_land_141 {l : Launch} {h : Nat} (mi : TMi) (ml : TMl) (z : Nat) (v2 : Int32) {Q : Int32 → TMi → TMl → Nat → Prop} (H : ((1371 ≤ v2 → Q (mi 120 0) mi ml z) ∧ (¬ 1371 ≤ v2 → (vp_in v2 1371) ∧ (vp_in v2 4113) ∧ Ev l (h + 1) m_R_land 141 ([.ref 119, .retAddr 0, .int (v2 + 1)], [], st (up mi 120 v2.toNatClampNeg (mi 123 v2.toNatClampNeg)) ml z) (qI Q)))) : Ev l (h + 1) m_R_land 141 ([.ref 119, .retAddr 0, .int v2], [], st mi ml z) (qI Q) := by
  refine ev_iload_n (i := 2) rfl rfl (a_dec_at dc_R_land 74 rfl) ?_
  refine ev_sipush (v := 1371) rfl (a_dec_at dc_R_land 75 rfl) ?_
  refine ev_icmp_ge (tgt := 166) (a_dec_at dc_R_land 76 rfl) (by decide) (fun b1 => ?_) (fun b1 => ?_)
  · have H := H.1 b1
    refine ev_aload_n (i := 0) rfl rfl (a_dec_at dc_R_land 87 rfl) ?_
    refine m_getR (y := 120) fl_R_13 rfl sh119 (mr_119_1 _) (by decide) (a_dec_at dc_R_land 88 rfl) ?_
    refine ev_iconst (v := 0) rfl (a_dec_at dc_R_land 89 rfl) ?_
    refine w_iald (k := 0) sh120 (by unfold vp_in; decide) (by decide) (a_dec_at dc_R_land 90 rfl) ?_
    exact m_retI (a_dec_at dc_R_land 91 rfl) rfl rfl H
  · have H := H.2 b1
    refine ev_aload_n (i := 0) rfl rfl (a_dec_at dc_R_land 77 rfl) ?_
    refine m_getR (y := 120) fl_R_13 rfl sh119 (mr_119_1 _) (by decide) (a_dec_at dc_R_land 78 rfl) ?_
    refine ev_iload_n (i := 2) rfl rfl (a_dec_at dc_R_land 79 rfl) ?_
    refine ev_aload_n (i := 0) rfl rfl (a_dec_at dc_R_land 80 rfl) ?_
    refine m_getR (y := 123) fl_R_24 rfl sh119 (mr_119_4 _) (by decide) (a_dec_at dc_R_land 81 rfl) ?_
    refine ev_iload_n (i := 2) rfl rfl (a_dec_at dc_R_land 82 rfl) ?_
    obtain ⟨c2, H⟩ := H
    refine w_iald (k := v2.toNatClampNeg) sh123 c2 rfl (a_dec_at dc_R_land 83 rfl) ?_
    obtain ⟨c3, H⟩ := H
    refine w_iast (k := v2.toNatClampNeg) sh120 c3 rfl (a_dec_at dc_R_land 84 rfl) ?_
    refine ev_iinc (v := 1) rfl rfl (by decide) rfl (a_dec_at dc_R_land 85 rfl) ?_
    refine ev_goto (tgt := 141) (a_dec_at dc_R_land 86 rfl) (by decide) ?_
    exact Ev.drop (L' := [.ref 119, .retAddr 0, .int (v2 + 1)]) (And.intro rfl (And.intro rfl trivial)) H
set_option maxRecDepth 20000 in
theorem t_R_within {l : Launch} {h : Nat} (mi : TMi) (ml : TMl) (z : Nat) (a1 : Int64) (a2 : Int64) (a3 : Int64) {Q : Int32 → TMi → TMl → Nat → Prop} (H : (((lg_cmp a1 a2) < 0 → Q 0 mi ml z) ∧ (¬ (lg_cmp a1 a2) < 0 → ((0 < (lg_cmp a1 a3) → Q 0 mi ml z) ∧ (¬ 0 < (lg_cmp a1 a3) → Q 1 mi ml z))))) : CI l (h + 1) m_R_within [.long a1, .long a2, .long a3] mi ml z Q := by
  show Ev l (h + 1) m_R_within 0 ([.long a1, .retAddr 0, .long a2, .retAddr 0, .long a3, .retAddr 0], [], st mi ml z) (qI Q)
  refine ev_lload_n (i := 0) rfl rfl (a_dec_at dc_R_within 0 rfl) ?_
  refine ev_lload_n (i := 2) rfl rfl (a_dec_at dc_R_within 1 rfl) ?_
  refine ev_lcmp (a_dec_at dc_R_within 2 rfl) ?_
  refine ev_if_lt (tgt := 17) (a_dec_at dc_R_within 3 rfl) (by decide) (fun b1 => ?_) (fun b1 => ?_)
  · have H := H.1 b1
    refine ev_iconst (v := 0) rfl (a_dec_at dc_R_within 10 rfl) ?_
    exact m_retI (a_dec_at dc_R_within 11 rfl) rfl rfl H
  · have H := H.2 b1
    refine ev_lload_n (i := 0) rfl rfl (a_dec_at dc_R_within 4 rfl) ?_
    refine ev_lload rfl (a_dec_at dc_R_within 5 rfl) ?_
    refine ev_lcmp (a_dec_at dc_R_within 6 rfl) ?_
    refine ev_if_gt (tgt := 17) (a_dec_at dc_R_within 7 rfl) (by decide) (fun b2 => ?_) (fun b2 => ?_)
    · have H := H.1 b2
      refine ev_iconst (v := 0) rfl (a_dec_at dc_R_within 10 rfl) ?_
      exact m_retI (a_dec_at dc_R_within 11 rfl) rfl rfl H
    · have H := H.2 b2
      refine ev_iconst (v := 1) rfl (a_dec_at dc_R_within 8 rfl) ?_
      refine ev_goto (tgt := 18) (a_dec_at dc_R_within 9 rfl) (by decide) ?_
      exact m_retI (a_dec_at dc_R_within 11 rfl) rfl rfl H
set_option maxRecDepth 20000 in
theorem t_R_next {l : Launch} {h : Nat} (mi : TMi) (ml : TMl) (z : Nat) {Q : TMi → TMl → Nat → Prop} (H : Ev l (h + 1) m_R_next 8 ([.ref 119, .retAddr 0], [], st (up mi 119 6 (mi 119 7)) ml z) (qV Q)) : CV l (h + 1) m_R_next [.ref 119] mi ml z Q := by
  show Ev l (h + 1) m_R_next 0 ([.ref 119, .retAddr 0], [], st mi ml z) (qV Q)
  refine ev_aload_n (i := 0) rfl rfl (a_dec_at dc_R_next 0 rfl) ?_
  refine ev_aload_n (i := 0) rfl rfl (a_dec_at dc_R_next 1 rfl) ?_
  refine m_getI fl_R_98 rfl sh119 (a_dec_at dc_R_next 2 rfl) ?_
  refine m_putI fl_R_95 rfl (fun _ _ _ h => by cases h; exact Or.inl rfl) sh119 (a_dec_at dc_R_next 3 rfl) ?_
  exact Ev.drop (L' := [.ref 119, .retAddr 0]) (And.intro rfl trivial) H
set_option maxRecDepth 20000 in
theorem t_R_next_8 {l : Launch} {h : Nat} (mi : TMi) (ml : TMl) (z : Nat) {Q : TMi → TMl → Nat → Prop} (H : CI l h m_R_see [.ref 119, .int (mi 119 6)] mi ml z (fun x1 mi1 ml1 z1 => ((x1 = 10 → Ev l (h + 1) m_R_next 8 ([.ref 119, .retAddr 0], [], st (up mi1 119 6 ((mi1 119 6) + 1)) ml1 z1) (qV Q)) ∧ (¬ x1 = 10 → CI l h m_R_see [.ref 119, .int (mi1 119 6)] mi1 ml1 z1 (fun x3 mi3 ml3 z3 => ((¬ x3 = 32 → ((((up mi3 119 7 (mi3 119 6)) 119 6) < ((up mi3 119 7 (mi3 119 6)) 119 8) → CI l h m_R_see [.ref 119, .int ((up mi3 119 7 (mi3 119 6)) 119 6)] (up mi3 119 7 (mi3 119 6)) ml3 z3 (fun x6 mi6 ml6 z6 => CI l h m_R_isSmall [.int x6] mi6 ml6 z6 (fun x7 mi7 ml7 z7 => ((x7 = 0 → CI l h m_R_see [.ref 119, .int (mi7 119 6)] mi7 ml7 z7 (fun x9 mi9 ml9 z9 => CI l h m_R_isDigit [.int x9] mi9 ml9 z9 (fun x10 mi10 ml10 z10 => ((x10 = 0 → Ev l (h + 1) m_R_next 254 ([.ref 119, .int 0], [], st (up (up mi10 119 7 ((mi10 119 7) + 1)) 119 9 25) ml10 z10) (qV Q)) ∧ (¬ x10 = 0 → Ev l (h + 1) m_R_next 146 ([.ref 119, .retAddr 0], [], st (up mi10 119 10 0) ml10 z10) (qV Q)))))) ∧ (¬ x7 = 0 → Ev l (h + 1) m_R_next 89 ([.ref 119, .retAddr 0], [], st mi7 ml7 z7) (qV Q)))))) ∧ (¬ ((up mi3 119 7 (mi3 119 6)) 119 6) < ((up mi3 119 7 (mi3 119 6)) 119 8) → Q (up (up mi3 119 7 (mi3 119 6)) 119 9 24) ml3 z3))) ∧ (x3 = 32 → Ev l (h + 1) m_R_next 8 ([.ref 119, .retAddr 0], [], st (up mi3 119 6 ((mi3 119 6) + 1)) ml3 z3) (qV Q)))))))) : Ev l (h + 1) m_R_next 8 ([.ref 119, .retAddr 0], [], st mi ml z) (qV Q) := by
  refine ev_aload_n (i := 0) rfl rfl (a_dec_at dc_R_next 4 rfl) ?_
  refine ev_aload_n (i := 0) rfl rfl (a_dec_at dc_R_next 5 rfl) ?_
  refine m_getI fl_R_95 rfl sh119 (a_dec_at dc_R_next 6 rfl) ?_
  refine cV1I cs_R_101 sh119 rfl (Nat.le_of_ble_eq_true rfl) (Nat.le_of_ble_eq_true rfl) (a_dec_at dc_R_next 7 rfl) ?_
  refine CI.mono (fun x1 mi1 ml1 z1 H => ?_) H
  refine ev_bipush (v := 10) rfl (a_dec_at dc_R_next 8 rfl) ?_
  refine ev_icmp_eq (tgt := 34) (a_dec_at dc_R_next 9 rfl) (by decide) (fun b2 => ?_) (fun b2 => ?_)
  · have H := H.1 b2
    refine ev_aload_n (i := 0) rfl rfl (a_dec_at dc_R_next 16 rfl) ?_
    refine ev_dup rfl (a_dec_at dc_R_next 17 rfl) ?_
    refine m_getI fl_R_95 rfl sh119 (a_dec_at dc_R_next 18 rfl) ?_
    refine ev_iconst (v := 1) rfl (a_dec_at dc_R_next 19 rfl) ?_
    refine ev_iadd (a_dec_at dc_R_next 20 rfl) ?_
    refine m_putI fl_R_95 rfl (fun _ _ _ h => by cases h; exact Or.inl rfl) sh119 (a_dec_at dc_R_next 21 rfl) ?_
    refine ev_goto (tgt := 8) (a_dec_at dc_R_next 22 rfl) (by decide) ?_
    exact Ev.drop (L' := [.ref 119, .retAddr 0]) (And.intro rfl trivial) H
  · have H := H.2 b2
    refine ev_aload_n (i := 0) rfl rfl (a_dec_at dc_R_next 10 rfl) ?_
    refine ev_aload_n (i := 0) rfl rfl (a_dec_at dc_R_next 11 rfl) ?_
    refine m_getI fl_R_95 rfl sh119 (a_dec_at dc_R_next 12 rfl) ?_
    refine cV1I cs_R_101 sh119 rfl (Nat.le_of_ble_eq_true rfl) (Nat.le_of_ble_eq_true rfl) (a_dec_at dc_R_next 13 rfl) ?_
    refine CI.mono (fun x3 mi3 ml3 z3 H => ?_) H
    refine ev_bipush (v := 32) rfl (a_dec_at dc_R_next 14 rfl) ?_
    refine ev_icmp_ne (tgt := 47) (a_dec_at dc_R_next 15 rfl) (by decide) (fun b4 => ?_) (fun b4 => ?_)
    · have H := H.1 b4
      refine ev_aload_n (i := 0) rfl rfl (a_dec_at dc_R_next 23 rfl) ?_
      refine ev_aload_n (i := 0) rfl rfl (a_dec_at dc_R_next 24 rfl) ?_
      refine m_getI fl_R_95 rfl sh119 (a_dec_at dc_R_next 25 rfl) ?_
      refine m_putI fl_R_98 rfl (fun _ _ _ h => by cases h; exact Or.inl rfl) sh119 (a_dec_at dc_R_next 26 rfl) ?_
      refine ev_aload_n (i := 0) rfl rfl (a_dec_at dc_R_next 27 rfl) ?_
      refine m_getI fl_R_95 rfl sh119 (a_dec_at dc_R_next 28 rfl) ?_
      refine ev_aload_n (i := 0) rfl rfl (a_dec_at dc_R_next 29 rfl) ?_
      refine m_getI fl_R_80 rfl sh119 (a_dec_at dc_R_next 30 rfl) ?_
      refine ev_icmp_lt (tgt := 75) (a_dec_at dc_R_next 31 rfl) (by decide) (fun b5 => ?_) (fun b5 => ?_)
      · have H := H.1 b5
        refine ev_aload_n (i := 0) rfl rfl (a_dec_at dc_R_next 36 rfl) ?_
        refine ev_aload_n (i := 0) rfl rfl (a_dec_at dc_R_next 37 rfl) ?_
        refine m_getI fl_R_95 rfl sh119 (a_dec_at dc_R_next 38 rfl) ?_
        refine cV1I cs_R_101 sh119 rfl (Nat.le_of_ble_eq_true rfl) (Nat.le_of_ble_eq_true rfl) (a_dec_at dc_R_next 39 rfl) ?_
        refine CI.mono (fun x6 mi6 ml6 z6 H => ?_) H
        refine cS1I cs_R_108 rfl (Nat.le_of_ble_eq_true rfl) (Nat.le_of_ble_eq_true rfl) (a_dec_at dc_R_next 40 rfl) ?_
        refine CI.mono (fun x7 mi7 ml7 z7 H => ?_) H
        refine ev_if_eq (tgt := 127) (a_dec_at dc_R_next 41 rfl) (by decide) (fun b8 => ?_) (fun b8 => ?_)
        · have H := H.1 b8
          refine ev_aload_n (i := 0) rfl rfl (a_dec_at dc_R_next 60 rfl) ?_
          refine ev_aload_n (i := 0) rfl rfl (a_dec_at dc_R_next 61 rfl) ?_
          refine m_getI fl_R_95 rfl sh119 (a_dec_at dc_R_next 62 rfl) ?_
          refine cV1I cs_R_101 sh119 rfl (Nat.le_of_ble_eq_true rfl) (Nat.le_of_ble_eq_true rfl) (a_dec_at dc_R_next 63 rfl) ?_
          refine CI.mono (fun x9 mi9 ml9 z9 H => ?_) H
          refine cS1I cs_R_115 rfl (Nat.le_of_ble_eq_true rfl) (Nat.le_of_ble_eq_true rfl) (a_dec_at dc_R_next 64 rfl) ?_
          refine CI.mono (fun x10 mi10 ml10 z10 H => ?_) H
          refine ev_if_eq (tgt := 236) (a_dec_at dc_R_next 65 rfl) (by decide) (fun b11 => ?_) (fun b11 => ?_)
          · have H := H.1 b11
            refine ev_aload_n (i := 0) rfl rfl (a_dec_at dc_R_next 115 rfl) ?_
            refine ev_dup rfl (a_dec_at dc_R_next 116 rfl) ?_
            refine m_getI fl_R_98 rfl sh119 (a_dec_at dc_R_next 117 rfl) ?_
            refine ev_iconst (v := 1) rfl (a_dec_at dc_R_next 118 rfl) ?_
            refine ev_iadd (a_dec_at dc_R_next 119 rfl) ?_
            refine m_putI fl_R_98 rfl (fun _ _ _ h => by cases h; exact Or.inl rfl) sh119 (a_dec_at dc_R_next 120 rfl) ?_
            refine ev_aload_n (i := 0) rfl rfl (a_dec_at dc_R_next 121 rfl) ?_
            refine ev_bipush (v := 25) rfl (a_dec_at dc_R_next 122 rfl) ?_
            refine m_putI fl_R_105 rfl (fun _ _ _ h => by cases h; exact Or.inl rfl) sh119 (a_dec_at dc_R_next 123 rfl) ?_
            refine ev_iconst (v := 0) rfl (a_dec_at dc_R_next 124 rfl) ?_
            refine ev_istore_n (i := 1) rfl (by decide) rfl (a_dec_at dc_R_next 125 rfl) ?_
            exact Ev.drop (L' := [.ref 119, .int 0]) (And.intro rfl (And.intro rfl trivial)) H
          · have H := H.2 b11
            refine ev_aload_n (i := 0) rfl rfl (a_dec_at dc_R_next 66 rfl) ?_
            refine ev_iconst (v := 0) rfl (a_dec_at dc_R_next 67 rfl) ?_
            refine m_putI fl_R_118 rfl (fun _ _ _ h => by cases h; exact Or.inl rfl) sh119 (a_dec_at dc_R_next 68 rfl) ?_
            exact Ev.drop (L' := [.ref 119, .retAddr 0]) (And.intro rfl trivial) H
        · have H := H.2 b8
          exact Ev.drop (L' := [.ref 119, .retAddr 0]) (And.intro rfl trivial) H
      · have H := H.2 b5
        refine ev_aload_n (i := 0) rfl rfl (a_dec_at dc_R_next 32 rfl) ?_
        refine ev_bipush (v := 24) rfl (a_dec_at dc_R_next 33 rfl) ?_
        refine m_putI fl_R_105 rfl (fun _ _ _ h => by cases h; exact Or.inl rfl) sh119 (a_dec_at dc_R_next 34 rfl) ?_
        refine ev_goto (tgt := 294) (a_dec_at dc_R_next 35 rfl) (by decide) ?_
        exact m_retV (a_dec_at dc_R_next 145 rfl) rfl H
    · have H := H.2 b4
      refine ev_aload_n (i := 0) rfl rfl (a_dec_at dc_R_next 16 rfl) ?_
      refine ev_dup rfl (a_dec_at dc_R_next 17 rfl) ?_
      refine m_getI fl_R_95 rfl sh119 (a_dec_at dc_R_next 18 rfl) ?_
      refine ev_iconst (v := 1) rfl (a_dec_at dc_R_next 19 rfl) ?_
      refine ev_iadd (a_dec_at dc_R_next 20 rfl) ?_
      refine m_putI fl_R_95 rfl (fun _ _ _ h => by cases h; exact Or.inl rfl) sh119 (a_dec_at dc_R_next 21 rfl) ?_
      refine ev_goto (tgt := 8) (a_dec_at dc_R_next 22 rfl) (by decide) ?_
      exact Ev.drop (L' := [.ref 119, .retAddr 0]) (And.intro rfl trivial) H
set_option maxRecDepth 20000 in
theorem t_R_next_254 {l : Launch} {h : Nat} (mi : TMi) (ml : TMl) (z : Nat) (v1 : Int32) {Q : TMi → TMl → Nat → Prop} (H : CI l h m_JS_length [.ref (1000000 + 1)] mi ml z (fun x1 mi1 ml1 z1 => ((x1 ≤ v1 → Q mi1 ml1 z1) ∧ (¬ x1 ≤ v1 → CI l h m_R_see [.ref 119, .int (mi1 119 6)] mi1 ml1 z1 (fun x3 mi3 ml3 z3 => CI l h m_JS_charAt [.ref (1000000 + 1), .int v1] mi3 ml3 z3 (fun x4 mi4 ml4 z4 => ((¬ x3 = x4 → Ev l (h + 1) m_R_next 254 ([.ref 119, .int (v1 + 1)], [], st mi4 ml4 z4) (qV Q)) ∧ (x3 = x4 → Ev l (h + 1) m_R_next 254 ([.ref 119, .int (v1 + 1)], [], st (up mi4 119 9 (30 + v1)) ml4 z4) (qV Q))))))))) : Ev l (h + 1) m_R_next 254 ([.ref 119, .int v1], [], st mi ml z) (qV Q) := by
  refine ev_iload_n (i := 1) rfl rfl (a_dec_at dc_R_next 126 rfl) ?_
  refine ev_ldcS (tx := ";:+-*()[]=<>") (j := 1) (by decide +kernel) (by decide) (a_dec_at dc_R_next 127 rfl) ?_
  refine cT0I cs_R_85 (by decide) rfl (Nat.le_of_ble_eq_true rfl) (Nat.le_of_ble_eq_true rfl) (a_dec_at dc_R_next 128 rfl) ?_
  refine CI.mono (fun x1 mi1 ml1 z1 H => ?_) H
  refine ev_icmp_ge (tgt := 294) (a_dec_at dc_R_next 129 rfl) (by decide) (fun b2 => ?_) (fun b2 => ?_)
  · have H := H.1 b2
    exact m_retV (a_dec_at dc_R_next 145 rfl) rfl H
  · have H := H.2 b2
    refine ev_aload_n (i := 0) rfl rfl (a_dec_at dc_R_next 130 rfl) ?_
    refine ev_aload_n (i := 0) rfl rfl (a_dec_at dc_R_next 131 rfl) ?_
    refine m_getI fl_R_95 rfl sh119 (a_dec_at dc_R_next 132 rfl) ?_
    refine cV1I cs_R_101 sh119 rfl (Nat.le_of_ble_eq_true rfl) (Nat.le_of_ble_eq_true rfl) (a_dec_at dc_R_next 133 rfl) ?_
    refine CI.mono (fun x3 mi3 ml3 z3 H => ?_) H
    refine ev_ldcS (tx := ";:+-*()[]=<>") (j := 1) (by decide +kernel) (by decide) (a_dec_at dc_R_next 134 rfl) ?_
    refine ev_iload_n (i := 1) rfl rfl (a_dec_at dc_R_next 135 rfl) ?_
    refine cT1I cs_R_91 (by decide) rfl (Nat.le_of_ble_eq_true rfl) (Nat.le_of_ble_eq_true rfl) (a_dec_at dc_R_next 136 rfl) ?_
    refine CI.mono (fun x4 mi4 ml4 z4 H => ?_) H
    refine ev_icmp_ne (tgt := 288) (a_dec_at dc_R_next 137 rfl) (by decide) (fun b5 => ?_) (fun b5 => ?_)
    · have H := H.1 b5
      refine ev_iinc (v := 1) rfl rfl (by decide) rfl (a_dec_at dc_R_next 143 rfl) ?_
      refine ev_goto (tgt := 254) (a_dec_at dc_R_next 144 rfl) (by decide) ?_
      exact Ev.drop (L' := [.ref 119, .int (v1 + 1)]) (And.intro rfl (And.intro rfl trivial)) H
    · have H := H.2 b5
      refine ev_aload_n (i := 0) rfl rfl (a_dec_at dc_R_next 138 rfl) ?_
      refine ev_bipush (v := 30) rfl (a_dec_at dc_R_next 139 rfl) ?_
      refine ev_iload_n (i := 1) rfl rfl (a_dec_at dc_R_next 140 rfl) ?_
      refine ev_iadd (a_dec_at dc_R_next 141 rfl) ?_
      refine m_putI fl_R_105 rfl (fun _ _ _ h => by cases h; exact Or.inl rfl) sh119 (a_dec_at dc_R_next 142 rfl) ?_
      refine ev_iinc (v := 1) rfl rfl (by decide) rfl (a_dec_at dc_R_next 143 rfl) ?_
      refine ev_goto (tgt := 254) (a_dec_at dc_R_next 144 rfl) (by decide) ?_
      exact Ev.drop (L' := [.ref 119, .int (v1 + 1)]) (And.intro rfl (And.intro rfl trivial)) H
set_option maxRecDepth 20000 in
theorem t_R_next_146 {l : Launch} {h : Nat} (mi : TMi) (ml : TMl) (z : Nat) {Q : TMi → TMl → Nat → Prop} (H : CI l h m_R_see [.ref 119, .int (mi 119 7)] mi ml z (fun x1 mi1 ml1 z1 => CI l h m_R_isDigit [.int x1] mi1 ml1 z1 (fun x2 mi2 ml2 z2 => ((x2 = 0 → ((((mi2 119 7) - (mi2 119 6)) ≤ 3 → Q (up mi2 119 9 23) ml2 z2) ∧ (¬ ((mi2 119 7) - (mi2 119 6)) ≤ 3 → Q (up mi2 119 9 25) ml2 z2))) ∧ (¬ x2 = 0 → ((3 ≤ ((mi2 119 7) - (mi2 119 6)) → Ev l (h + 1) m_R_next 146 ([.ref 119, .retAddr 0], [], st (up mi2 119 7 ((mi2 119 7) + 1)) ml2 z2) (qV Q)) ∧ (¬ 3 ≤ ((mi2 119 7) - (mi2 119 6)) → CI l h m_R_see [.ref 119, .int (mi2 119 7)] mi2 ml2 z2 (fun x6 mi6 ml6 z6 => Ev l (h + 1) m_R_next 146 ([.ref 119, .retAddr 0], [], st (up (up mi6 119 10 (((10 * (mi2 119 10)) + x6) - 48)) 119 7 (((up mi6 119 10 (((10 * (mi2 119 10)) + x6) - 48)) 119 7) + 1)) ml6 z6) (qV Q))))))))) : Ev l (h + 1) m_R_next 146 ([.ref 119, .retAddr 0], [], st mi ml z) (qV Q) := by
  refine ev_aload_n (i := 0) rfl rfl (a_dec_at dc_R_next 69 rfl) ?_
  refine ev_aload_n (i := 0) rfl rfl (a_dec_at dc_R_next 70 rfl) ?_
  refine m_getI fl_R_98 rfl sh119 (a_dec_at dc_R_next 71 rfl) ?_
  refine cV1I cs_R_101 sh119 rfl (Nat.le_of_ble_eq_true rfl) (Nat.le_of_ble_eq_true rfl) (a_dec_at dc_R_next 72 rfl) ?_
  refine CI.mono (fun x1 mi1 ml1 z1 H => ?_) H
  refine cS1I cs_R_115 rfl (Nat.le_of_ble_eq_true rfl) (Nat.le_of_ble_eq_true rfl) (a_dec_at dc_R_next 73 rfl) ?_
  refine CI.mono (fun x2 mi2 ml2 z2 H => ?_) H
  refine ev_if_eq (tgt := 209) (a_dec_at dc_R_next 74 rfl) (by decide) (fun b3 => ?_) (fun b3 => ?_)
  · have H := H.1 b3
    refine ev_aload_n (i := 0) rfl rfl (a_dec_at dc_R_next 102 rfl) ?_
    refine ev_aload_n (i := 0) rfl rfl (a_dec_at dc_R_next 103 rfl) ?_
    refine m_getI fl_R_98 rfl sh119 (a_dec_at dc_R_next 104 rfl) ?_
    refine ev_aload_n (i := 0) rfl rfl (a_dec_at dc_R_next 105 rfl) ?_
    refine m_getI fl_R_95 rfl sh119 (a_dec_at dc_R_next 106 rfl) ?_
    refine ev_isub (a_dec_at dc_R_next 107 rfl) ?_
    refine ev_iconst (v := 3) rfl (a_dec_at dc_R_next 108 rfl) ?_
    refine ev_icmp_le (tgt := 228) (a_dec_at dc_R_next 109 rfl) (by decide) (fun b4 => ?_) (fun b4 => ?_)
    · have H := H.1 b4
      refine ev_bipush (v := 23) rfl (a_dec_at dc_R_next 112 rfl) ?_
      refine m_putI fl_R_105 rfl (fun _ _ _ h => by cases h; exact Or.inl rfl) sh119 (a_dec_at dc_R_next 113 rfl) ?_
      refine ev_goto (tgt := 294) (a_dec_at dc_R_next 114 rfl) (by decide) ?_
      exact m_retV (a_dec_at dc_R_next 145 rfl) rfl H
    · have H := H.2 b4
      refine ev_bipush (v := 25) rfl (a_dec_at dc_R_next 110 rfl) ?_
      refine ev_goto (tgt := 230) (a_dec_at dc_R_next 111 rfl) (by decide) ?_
      refine m_putI fl_R_105 rfl (fun _ _ _ h => by cases h; exact Or.inl rfl) sh119 (a_dec_at dc_R_next 113 rfl) ?_
      refine ev_goto (tgt := 294) (a_dec_at dc_R_next 114 rfl) (by decide) ?_
      exact m_retV (a_dec_at dc_R_next 145 rfl) rfl H
  · have H := H.2 b3
    refine ev_aload_n (i := 0) rfl rfl (a_dec_at dc_R_next 75 rfl) ?_
    refine m_getI fl_R_98 rfl sh119 (a_dec_at dc_R_next 76 rfl) ?_
    refine ev_aload_n (i := 0) rfl rfl (a_dec_at dc_R_next 77 rfl) ?_
    refine m_getI fl_R_95 rfl sh119 (a_dec_at dc_R_next 78 rfl) ?_
    refine ev_isub (a_dec_at dc_R_next 79 rfl) ?_
    refine ev_iconst (v := 3) rfl (a_dec_at dc_R_next 80 rfl) ?_
    refine ev_icmp_ge (tgt := 196) (a_dec_at dc_R_next 81 rfl) (by decide) (fun b5 => ?_) (fun b5 => ?_)
    · have H := H.1 b5
      refine ev_aload_n (i := 0) rfl rfl (a_dec_at dc_R_next 95 rfl) ?_
      refine ev_dup rfl (a_dec_at dc_R_next 96 rfl) ?_
      refine m_getI fl_R_98 rfl sh119 (a_dec_at dc_R_next 97 rfl) ?_
      refine ev_iconst (v := 1) rfl (a_dec_at dc_R_next 98 rfl) ?_
      refine ev_iadd (a_dec_at dc_R_next 99 rfl) ?_
      refine m_putI fl_R_98 rfl (fun _ _ _ h => by cases h; exact Or.inl rfl) sh119 (a_dec_at dc_R_next 100 rfl) ?_
      refine ev_goto (tgt := 146) (a_dec_at dc_R_next 101 rfl) (by decide) ?_
      exact Ev.drop (L' := [.ref 119, .retAddr 0]) (And.intro rfl trivial) H
    · have H := H.2 b5
      refine ev_aload_n (i := 0) rfl rfl (a_dec_at dc_R_next 82 rfl) ?_
      refine ev_bipush (v := 10) rfl (a_dec_at dc_R_next 83 rfl) ?_
      refine ev_aload_n (i := 0) rfl rfl (a_dec_at dc_R_next 84 rfl) ?_
      refine m_getI fl_R_118 rfl sh119 (a_dec_at dc_R_next 85 rfl) ?_
      refine ev_imul (a_dec_at dc_R_next 86 rfl) ?_
      refine ev_aload_n (i := 0) rfl rfl (a_dec_at dc_R_next 87 rfl) ?_
      refine ev_aload_n (i := 0) rfl rfl (a_dec_at dc_R_next 88 rfl) ?_
      refine m_getI fl_R_98 rfl sh119 (a_dec_at dc_R_next 89 rfl) ?_
      refine cV1I cs_R_101 sh119 rfl (Nat.le_of_ble_eq_true rfl) (Nat.le_of_ble_eq_true rfl) (a_dec_at dc_R_next 90 rfl) ?_
      refine CI.mono (fun x6 mi6 ml6 z6 H => ?_) H
      refine ev_iadd (a_dec_at dc_R_next 91 rfl) ?_
      refine ev_bipush (v := 48) rfl (a_dec_at dc_R_next 92 rfl) ?_
      refine ev_isub (a_dec_at dc_R_next 93 rfl) ?_
      refine m_putI fl_R_118 rfl (fun _ _ _ h => by cases h; exact Or.inl rfl) sh119 (a_dec_at dc_R_next 94 rfl) ?_
      refine ev_aload_n (i := 0) rfl rfl (a_dec_at dc_R_next 95 rfl) ?_
      refine ev_dup rfl (a_dec_at dc_R_next 96 rfl) ?_
      refine m_getI fl_R_98 rfl sh119 (a_dec_at dc_R_next 97 rfl) ?_
      refine ev_iconst (v := 1) rfl (a_dec_at dc_R_next 98 rfl) ?_
      refine ev_iadd (a_dec_at dc_R_next 99 rfl) ?_
      refine m_putI fl_R_98 rfl (fun _ _ _ h => by cases h; exact Or.inl rfl) sh119 (a_dec_at dc_R_next 100 rfl) ?_
      refine ev_goto (tgt := 146) (a_dec_at dc_R_next 101 rfl) (by decide) ?_
      exact Ev.drop (L' := [.ref 119, .retAddr 0]) (And.intro rfl trivial) H
set_option maxRecDepth 20000 in
theorem t_R_next_89 {l : Launch} {h : Nat} (mi : TMi) (ml : TMl) (z : Nat) {Q : TMi → TMl → Nat → Prop} (H : CI l h m_R_see [.ref 119, .int (mi 119 7)] mi ml z (fun x1 mi1 ml1 z1 => CI l h m_R_isSmall [.int x1] mi1 ml1 z1 (fun x2 mi2 ml2 z2 => ((x2 = 0 → CI l h m_R_keyAt [.ref 119] mi2 ml2 z2 (fun x4 mi4 ml4 z4 => Q (up mi4 119 9 x4) ml4 z4)) ∧ (¬ x2 = 0 → Ev l (h + 1) m_R_next 89 ([.ref 119, .retAddr 0], [], st (up mi2 119 7 ((mi2 119 7) + 1)) ml2 z2) (qV Q)))))) : Ev l (h + 1) m_R_next 89 ([.ref 119, .retAddr 0], [], st mi ml z) (qV Q) := by
  refine ev_aload_n (i := 0) rfl rfl (a_dec_at dc_R_next 42 rfl) ?_
  refine ev_aload_n (i := 0) rfl rfl (a_dec_at dc_R_next 43 rfl) ?_
  refine m_getI fl_R_98 rfl sh119 (a_dec_at dc_R_next 44 rfl) ?_
  refine cV1I cs_R_101 sh119 rfl (Nat.le_of_ble_eq_true rfl) (Nat.le_of_ble_eq_true rfl) (a_dec_at dc_R_next 45 rfl) ?_
  refine CI.mono (fun x1 mi1 ml1 z1 H => ?_) H
  refine cS1I cs_R_108 rfl (Nat.le_of_ble_eq_true rfl) (Nat.le_of_ble_eq_true rfl) (a_dec_at dc_R_next 46 rfl) ?_
  refine CI.mono (fun x2 mi2 ml2 z2 H => ?_) H
  refine ev_if_eq (tgt := 116) (a_dec_at dc_R_next 47 rfl) (by decide) (fun b3 => ?_) (fun b3 => ?_)
  · have H := H.1 b3
    refine ev_aload_n (i := 0) rfl rfl (a_dec_at dc_R_next 55 rfl) ?_
    refine ev_aload_n (i := 0) rfl rfl (a_dec_at dc_R_next 56 rfl) ?_
    refine cV0I cs_R_112 sh119 rfl (Nat.le_of_ble_eq_true rfl) (Nat.le_of_ble_eq_true rfl) (a_dec_at dc_R_next 57 rfl) ?_
    refine CI.mono (fun x4 mi4 ml4 z4 H => ?_) H
    refine m_putI fl_R_105 rfl (fun _ _ _ h => by cases h; exact Or.inl rfl) sh119 (a_dec_at dc_R_next 58 rfl) ?_
    refine ev_goto (tgt := 294) (a_dec_at dc_R_next 59 rfl) (by decide) ?_
    exact m_retV (a_dec_at dc_R_next 145 rfl) rfl H
  · have H := H.2 b3
    refine ev_aload_n (i := 0) rfl rfl (a_dec_at dc_R_next 48 rfl) ?_
    refine ev_dup rfl (a_dec_at dc_R_next 49 rfl) ?_
    refine m_getI fl_R_98 rfl sh119 (a_dec_at dc_R_next 50 rfl) ?_
    refine ev_iconst (v := 1) rfl (a_dec_at dc_R_next 51 rfl) ?_
    refine ev_iadd (a_dec_at dc_R_next 52 rfl) ?_
    refine m_putI fl_R_98 rfl (fun _ _ _ h => by cases h; exact Or.inl rfl) sh119 (a_dec_at dc_R_next 53 rfl) ?_
    refine ev_goto (tgt := 89) (a_dec_at dc_R_next 54 rfl) (by decide) ?_
    exact Ev.drop (L' := [.ref 119, .retAddr 0]) (And.intro rfl trivial) H
set_option maxRecDepth 20000 in
theorem t_R_see {l : Launch} {h : Nat} (mi : TMi) (ml : TMl) (z : Nat) (a1 : Int32) {Q : Int32 → TMi → TMl → Nat → Prop} (H : (((mi 119 8) ≤ a1 → Q (-1) mi ml z) ∧ (¬ (mi 119 8) ≤ a1 → (vp_in a1 900) ∧ Q (mi 122 a1.toNatClampNeg) mi ml z))) : CI l (h + 1) m_R_see [.ref 119, .int a1] mi ml z Q := by
  show Ev l (h + 1) m_R_see 0 ([.ref 119, .int a1], [], st mi ml z) (qI Q)
  refine ev_iload_n (i := 1) rfl rfl (a_dec_at dc_R_see 0 rfl) ?_
  refine ev_aload_n (i := 0) rfl rfl (a_dec_at dc_R_see 1 rfl) ?_
  refine m_getI fl_R_80 rfl sh119 (a_dec_at dc_R_see 2 rfl) ?_
  refine ev_icmp_ge (tgt := 17) (a_dec_at dc_R_see 3 rfl) (by decide) (fun b1 => ?_) (fun b1 => ?_)
  · have H := H.1 b1
    refine ev_iconst (v := (-1)) rfl (a_dec_at dc_R_see 9 rfl) ?_
    exact m_retI (a_dec_at dc_R_see 10 rfl) rfl rfl H
  · have H := H.2 b1
    refine ev_aload_n (i := 0) rfl rfl (a_dec_at dc_R_see 4 rfl) ?_
    refine m_getR (y := 122) fl_R_21 rfl sh119 (mr_119_3 _) (by decide) (a_dec_at dc_R_see 5 rfl) ?_
    refine ev_iload_n (i := 1) rfl rfl (a_dec_at dc_R_see 6 rfl) ?_
    obtain ⟨c2, H⟩ := H
    refine w_iald (k := a1.toNatClampNeg) sh122 c2 rfl (a_dec_at dc_R_see 7 rfl) ?_
    refine ev_goto (tgt := 18) (a_dec_at dc_R_see 8 rfl) (by decide) ?_
    exact m_retI (a_dec_at dc_R_see 10 rfl) rfl rfl H
set_option maxRecDepth 20000 in
theorem t_R_isSmall {l : Launch} {h : Nat} (mi : TMi) (ml : TMl) (z : Nat) (a1 : Int32) {Q : Int32 → TMi → TMl → Nat → Prop} (H : ((a1 < 97 → Q 0 mi ml z) ∧ (¬ a1 < 97 → ((122 < a1 → Q 0 mi ml z) ∧ (¬ 122 < a1 → Q 1 mi ml z))))) : CI l (h + 1) m_R_isSmall [.int a1] mi ml z Q := by
  show Ev l (h + 1) m_R_isSmall 0 ([.int a1], [], st mi ml z) (qI Q)
  refine ev_iload_n (i := 0) rfl rfl (a_dec_at dc_R_isSmall 0 rfl) ?_
  refine ev_bipush (v := 97) rfl (a_dec_at dc_R_isSmall 1 rfl) ?_
  refine ev_icmp_lt (tgt := 16) (a_dec_at dc_R_isSmall 2 rfl) (by decide) (fun b1 => ?_) (fun b1 => ?_)
  · have H := H.1 b1
    refine ev_iconst (v := 0) rfl (a_dec_at dc_R_isSmall 8 rfl) ?_
    exact m_retI (a_dec_at dc_R_isSmall 9 rfl) rfl rfl H
  · have H := H.2 b1
    refine ev_iload_n (i := 0) rfl rfl (a_dec_at dc_R_isSmall 3 rfl) ?_
    refine ev_bipush (v := 122) rfl (a_dec_at dc_R_isSmall 4 rfl) ?_
    refine ev_icmp_gt (tgt := 16) (a_dec_at dc_R_isSmall 5 rfl) (by decide) (fun b2 => ?_) (fun b2 => ?_)
    · have H := H.1 b2
      refine ev_iconst (v := 0) rfl (a_dec_at dc_R_isSmall 8 rfl) ?_
      exact m_retI (a_dec_at dc_R_isSmall 9 rfl) rfl rfl H
    · have H := H.2 b2
      refine ev_iconst (v := 1) rfl (a_dec_at dc_R_isSmall 6 rfl) ?_
      refine ev_goto (tgt := 17) (a_dec_at dc_R_isSmall 7 rfl) (by decide) ?_
      exact m_retI (a_dec_at dc_R_isSmall 9 rfl) rfl rfl H
set_option maxRecDepth 20000 in
theorem t_R_keyAt {l : Launch} {h : Nat} (mi : TMi) (ml : TMl) (z : Nat) {Q : Int32 → TMi → TMl → Nat → Prop} (H : Ev l (h + 1) m_R_keyAt 4 ([.ref 119, .int 0, .int 1, .retAddr 0], [], st mi ml z) (qI Q)) : CI l (h + 1) m_R_keyAt [.ref 119] mi ml z Q := by
  show Ev l (h + 1) m_R_keyAt 0 ([.ref 119, .retAddr 0, .retAddr 0, .retAddr 0], [], st mi ml z) (qI Q)
  refine ev_iconst (v := 0) rfl (a_dec_at dc_R_keyAt 0 rfl) ?_
  refine ev_istore_n (i := 1) rfl (by decide) rfl (a_dec_at dc_R_keyAt 1 rfl) ?_
  refine ev_iconst (v := 1) rfl (a_dec_at dc_R_keyAt 2 rfl) ?_
  refine ev_istore_n (i := 2) rfl (by decide) rfl (a_dec_at dc_R_keyAt 3 rfl) ?_
  exact Ev.drop (L' := [.ref 119, .int 0, .int 1, .retAddr 0]) (And.intro rfl (And.intro rfl (And.intro rfl trivial))) H
set_option maxRecDepth 20000 in
theorem t_R_keyAt_4 {l : Launch} {h : Nat} (mi : TMi) (ml : TMl) (z : Nat) (v1 : Int32) (v2 : Int32) {Q : Int32 → TMi → TMl → Nat → Prop} (H : CI l h m_JS_length [.ref (1000000 + 2)] mi ml z (fun x1 mi1 ml1 z1 => ((x1 ≤ v2 → Q 22 mi1 ml1 z1) ∧ (¬ x1 ≤ v2 → Ev l (h + 1) m_R_keyAt 15 ([.ref 119, .int v1, .int v2, .int 0], [], st mi1 ml1 z1) (qI Q))))) : Ev l (h + 1) m_R_keyAt 4 ([.ref 119, .int v1, .int v2, .retAddr 0], [], st mi ml z) (qI Q) := by
  refine ev_iload_n (i := 2) rfl rfl (a_dec_at dc_R_keyAt 4 rfl) ?_
  refine ev_ldcS (tx := " land beck flow mark dry to river room name bears likes takes if then else end gifts and or not ") (j := 2) (by decide +kernel) (by decide) (a_dec_at dc_R_keyAt 5 rfl) ?_
  refine cT0I cs_R_85 (by decide) rfl (Nat.le_of_ble_eq_true rfl) (Nat.le_of_ble_eq_true rfl) (a_dec_at dc_R_keyAt 6 rfl) ?_
  refine CI.mono (fun x1 mi1 ml1 z1 H => ?_) H
  refine ev_icmp_ge (tgt := 123) (a_dec_at dc_R_keyAt 7 rfl) (by decide) (fun b2 => ?_) (fun b2 => ?_)
  · have H := H.1 b2
    refine ev_bipush (v := 22) rfl (a_dec_at dc_R_keyAt 65 rfl) ?_
    exact m_retI (a_dec_at dc_R_keyAt 66 rfl) rfl rfl H
  · have H := H.2 b2
    refine ev_iconst (v := 0) rfl (a_dec_at dc_R_keyAt 8 rfl) ?_
    refine ev_istore_n (i := 3) rfl (by decide) rfl (a_dec_at dc_R_keyAt 9 rfl) ?_
    exact Ev.drop (L' := [.ref 119, .int v1, .int v2, .int 0]) (And.intro rfl (And.intro rfl (And.intro rfl (And.intro rfl trivial)))) H
set_option maxRecDepth 20000 in
theorem t_R_keyAt_15 {l : Launch} {h : Nat} (mi : TMi) (ml : TMl) (z : Nat) (v1 : Int32) (v2 : Int32) (v3 : Int32) {Q : Int32 → TMi → TMl → Nat → Prop} (H : CI l h m_JS_charAt [.ref (1000000 + 2), .int (v2 + v3)] mi ml z (fun x1 mi1 ml1 z1 => ((x1 = 32 → CI l h m_JS_charAt [.ref (1000000 + 2), .int (v2 + v3)] mi1 ml1 z1 (fun x3 mi3 ml3 z3 => ((¬ x3 = 32 → Ev l (h + 1) m_R_keyAt 97 ([.ref 119, .int v1, .int v2, .retAddr 0], [], st mi3 ml3 z3) (qI Q)) ∧ (x3 = 32 → ((¬ ((mi3 119 6) + v3) = (mi3 119 7) → Ev l (h + 1) m_R_keyAt 97 ([.ref 119, .int v1, .int v2, .retAddr 0], [], st mi3 ml3 z3) (qI Q)) ∧ (((mi3 119 6) + v3) = (mi3 119 7) → Q v1 mi3 ml3 z3)))))) ∧ (¬ x1 = 32 → (((mi1 119 7) ≤ ((mi1 119 6) + v3) → CI l h m_JS_charAt [.ref (1000000 + 2), .int (v2 + v3)] mi1 ml1 z1 (fun x7 mi7 ml7 z7 => ((¬ x7 = 32 → Ev l (h + 1) m_R_keyAt 97 ([.ref 119, .int v1, .int v2, .retAddr 0], [], st mi7 ml7 z7) (qI Q)) ∧ (x7 = 32 → ((¬ ((mi7 119 6) + v3) = (mi7 119 7) → Ev l (h + 1) m_R_keyAt 97 ([.ref 119, .int v1, .int v2, .retAddr 0], [], st mi7 ml7 z7) (qI Q)) ∧ (((mi7 119 6) + v3) = (mi7 119 7) → Q v1 mi7 ml7 z7)))))) ∧ (¬ (mi1 119 7) ≤ ((mi1 119 6) + v3) → (vp_in ((mi1 119 6) + v3) 900) ∧ CI l h m_JS_charAt [.ref (1000000 + 2), .int (v2 + v3)] mi1 ml1 z1 (fun x11 mi11 ml11 z11 => ((¬ (mi1 122 (((mi1 119 6) + v3).toNatClampNeg)) = x11 → CI l h m_JS_charAt [.ref (1000000 + 2), .int (v2 + v3)] mi11 ml11 z11 (fun x13 mi13 ml13 z13 => ((¬ x13 = 32 → Ev l (h + 1) m_R_keyAt 97 ([.ref 119, .int v1, .int v2, .retAddr 0], [], st mi13 ml13 z13) (qI Q)) ∧ (x13 = 32 → ((¬ ((mi13 119 6) + v3) = (mi13 119 7) → Ev l (h + 1) m_R_keyAt 97 ([.ref 119, .int v1, .int v2, .retAddr 0], [], st mi13 ml13 z13) (qI Q)) ∧ (((mi13 119 6) + v3) = (mi13 119 7) → Q v1 mi13 ml13 z13)))))) ∧ ((mi1 122 (((mi1 119 6) + v3).toNatClampNeg)) = x11 → Ev l (h + 1) m_R_keyAt 15 ([.ref 119, .int v1, .int v2, .int (v3 + 1)], [], st mi11 ml11 z11) (qI Q)))))))))) : Ev l (h + 1) m_R_keyAt 15 ([.ref 119, .int v1, .int v2, .int v3], [], st mi ml z) (qI Q) := by
  refine ev_ldcS (tx := " land beck flow mark dry to river room name bears likes takes if then else end gifts and or not ") (j := 2) (by decide +kernel) (by decide) (a_dec_at dc_R_keyAt 10 rfl) ?_
  refine ev_iload_n (i := 2) rfl rfl (a_dec_at dc_R_keyAt 11 rfl) ?_
  refine ev_iload_n (i := 3) rfl rfl (a_dec_at dc_R_keyAt 12 rfl) ?_
  refine ev_iadd (a_dec_at dc_R_keyAt 13 rfl) ?_
  refine cT1I cs_R_91 (by decide) rfl (Nat.le_of_ble_eq_true rfl) (Nat.le_of_ble_eq_true rfl) (a_dec_at dc_R_keyAt 14 rfl) ?_
  refine CI.mono (fun x1 mi1 ml1 z1 H => ?_) H
  refine ev_bipush (v := 32) rfl (a_dec_at dc_R_keyAt 15 rfl) ?_
  refine ev_icmp_eq (tgt := 69) (a_dec_at dc_R_keyAt 16 rfl) (by decide) (fun b2 => ?_) (fun b2 => ?_)
  · have H := H.1 b2
    refine ev_ldcS (tx := " land beck flow mark dry to river room name bears likes takes if then else end gifts and or not ") (j := 2) (by decide +kernel) (by decide) (a_dec_at dc_R_keyAt 39 rfl) ?_
    refine ev_iload_n (i := 2) rfl rfl (a_dec_at dc_R_keyAt 40 rfl) ?_
    refine ev_iload_n (i := 3) rfl rfl (a_dec_at dc_R_keyAt 41 rfl) ?_
    refine ev_iadd (a_dec_at dc_R_keyAt 42 rfl) ?_
    refine cT1I cs_R_91 (by decide) rfl (Nat.le_of_ble_eq_true rfl) (Nat.le_of_ble_eq_true rfl) (a_dec_at dc_R_keyAt 43 rfl) ?_
    refine CI.mono (fun x3 mi3 ml3 z3 H => ?_) H
    refine ev_bipush (v := 32) rfl (a_dec_at dc_R_keyAt 44 rfl) ?_
    refine ev_icmp_ne (tgt := 97) (a_dec_at dc_R_keyAt 45 rfl) (by decide) (fun b4 => ?_) (fun b4 => ?_)
    · have H := H.1 b4
      exact Ev.drop (L' := [.ref 119, .int v1, .int v2, .retAddr 0]) (And.intro rfl (And.intro rfl (And.intro rfl trivial))) H
    · have H := H.2 b4
      refine ev_aload_n (i := 0) rfl rfl (a_dec_at dc_R_keyAt 46 rfl) ?_
      refine m_getI fl_R_95 rfl sh119 (a_dec_at dc_R_keyAt 47 rfl) ?_
      refine ev_iload_n (i := 3) rfl rfl (a_dec_at dc_R_keyAt 48 rfl) ?_
      refine ev_iadd (a_dec_at dc_R_keyAt 49 rfl) ?_
      refine ev_aload_n (i := 0) rfl rfl (a_dec_at dc_R_keyAt 50 rfl) ?_
      refine m_getI fl_R_98 rfl sh119 (a_dec_at dc_R_keyAt 51 rfl) ?_
      refine ev_icmp_ne (tgt := 97) (a_dec_at dc_R_keyAt 52 rfl) (by decide) (fun b5 => ?_) (fun b5 => ?_)
      · have H := H.1 b5
        exact Ev.drop (L' := [.ref 119, .int v1, .int v2, .retAddr 0]) (And.intro rfl (And.intro rfl (And.intro rfl trivial))) H
      · have H := H.2 b5
        refine ev_iload_n (i := 1) rfl rfl (a_dec_at dc_R_keyAt 53 rfl) ?_
        exact m_retI (a_dec_at dc_R_keyAt 54 rfl) rfl rfl H
  · have H := H.2 b2
    refine ev_aload_n (i := 0) rfl rfl (a_dec_at dc_R_keyAt 17 rfl) ?_
    refine m_getI fl_R_95 rfl sh119 (a_dec_at dc_R_keyAt 18 rfl) ?_
    refine ev_iload_n (i := 3) rfl rfl (a_dec_at dc_R_keyAt 19 rfl) ?_
    refine ev_iadd (a_dec_at dc_R_keyAt 20 rfl) ?_
    refine ev_aload_n (i := 0) rfl rfl (a_dec_at dc_R_keyAt 21 rfl) ?_
    refine m_getI fl_R_98 rfl sh119 (a_dec_at dc_R_keyAt 22 rfl) ?_
    refine ev_icmp_ge (tgt := 69) (a_dec_at dc_R_keyAt 23 rfl) (by decide) (fun b6 => ?_) (fun b6 => ?_)
    · have H := H.1 b6
      refine ev_ldcS (tx := " land beck flow mark dry to river room name bears likes takes if then else end gifts and or not ") (j := 2) (by decide +kernel) (by decide) (a_dec_at dc_R_keyAt 39 rfl) ?_
      refine ev_iload_n (i := 2) rfl rfl (a_dec_at dc_R_keyAt 40 rfl) ?_
      refine ev_iload_n (i := 3) rfl rfl (a_dec_at dc_R_keyAt 41 rfl) ?_
      refine ev_iadd (a_dec_at dc_R_keyAt 42 rfl) ?_
      refine cT1I cs_R_91 (by decide) rfl (Nat.le_of_ble_eq_true rfl) (Nat.le_of_ble_eq_true rfl) (a_dec_at dc_R_keyAt 43 rfl) ?_
      refine CI.mono (fun x7 mi7 ml7 z7 H => ?_) H
      refine ev_bipush (v := 32) rfl (a_dec_at dc_R_keyAt 44 rfl) ?_
      refine ev_icmp_ne (tgt := 97) (a_dec_at dc_R_keyAt 45 rfl) (by decide) (fun b8 => ?_) (fun b8 => ?_)
      · have H := H.1 b8
        exact Ev.drop (L' := [.ref 119, .int v1, .int v2, .retAddr 0]) (And.intro rfl (And.intro rfl (And.intro rfl trivial))) H
      · have H := H.2 b8
        refine ev_aload_n (i := 0) rfl rfl (a_dec_at dc_R_keyAt 46 rfl) ?_
        refine m_getI fl_R_95 rfl sh119 (a_dec_at dc_R_keyAt 47 rfl) ?_
        refine ev_iload_n (i := 3) rfl rfl (a_dec_at dc_R_keyAt 48 rfl) ?_
        refine ev_iadd (a_dec_at dc_R_keyAt 49 rfl) ?_
        refine ev_aload_n (i := 0) rfl rfl (a_dec_at dc_R_keyAt 50 rfl) ?_
        refine m_getI fl_R_98 rfl sh119 (a_dec_at dc_R_keyAt 51 rfl) ?_
        refine ev_icmp_ne (tgt := 97) (a_dec_at dc_R_keyAt 52 rfl) (by decide) (fun b9 => ?_) (fun b9 => ?_)
        · have H := H.1 b9
          exact Ev.drop (L' := [.ref 119, .int v1, .int v2, .retAddr 0]) (And.intro rfl (And.intro rfl (And.intro rfl trivial))) H
        · have H := H.2 b9
          refine ev_iload_n (i := 1) rfl rfl (a_dec_at dc_R_keyAt 53 rfl) ?_
          exact m_retI (a_dec_at dc_R_keyAt 54 rfl) rfl rfl H
    · have H := H.2 b6
      refine ev_aload_n (i := 0) rfl rfl (a_dec_at dc_R_keyAt 24 rfl) ?_
      refine m_getR (y := 122) fl_R_21 rfl sh119 (mr_119_3 _) (by decide) (a_dec_at dc_R_keyAt 25 rfl) ?_
      refine ev_aload_n (i := 0) rfl rfl (a_dec_at dc_R_keyAt 26 rfl) ?_
      refine m_getI fl_R_95 rfl sh119 (a_dec_at dc_R_keyAt 27 rfl) ?_
      refine ev_iload_n (i := 3) rfl rfl (a_dec_at dc_R_keyAt 28 rfl) ?_
      refine ev_iadd (a_dec_at dc_R_keyAt 29 rfl) ?_
      obtain ⟨c10, H⟩ := H
      refine w_iald (k := ((mi1 119 6) + v3).toNatClampNeg) sh122 c10 rfl (a_dec_at dc_R_keyAt 30 rfl) ?_
      refine ev_ldcS (tx := " land beck flow mark dry to river room name bears likes takes if then else end gifts and or not ") (j := 2) (by decide +kernel) (by decide) (a_dec_at dc_R_keyAt 31 rfl) ?_
      refine ev_iload_n (i := 2) rfl rfl (a_dec_at dc_R_keyAt 32 rfl) ?_
      refine ev_iload_n (i := 3) rfl rfl (a_dec_at dc_R_keyAt 33 rfl) ?_
      refine ev_iadd (a_dec_at dc_R_keyAt 34 rfl) ?_
      refine cT1I cs_R_91 (by decide) rfl (Nat.le_of_ble_eq_true rfl) (Nat.le_of_ble_eq_true rfl) (a_dec_at dc_R_keyAt 35 rfl) ?_
      refine CI.mono (fun x11 mi11 ml11 z11 H => ?_) H
      refine ev_icmp_ne (tgt := 69) (a_dec_at dc_R_keyAt 36 rfl) (by decide) (fun b12 => ?_) (fun b12 => ?_)
      · have H := H.1 b12
        refine ev_ldcS (tx := " land beck flow mark dry to river room name bears likes takes if then else end gifts and or not ") (j := 2) (by decide +kernel) (by decide) (a_dec_at dc_R_keyAt 39 rfl) ?_
        refine ev_iload_n (i := 2) rfl rfl (a_dec_at dc_R_keyAt 40 rfl) ?_
        refine ev_iload_n (i := 3) rfl rfl (a_dec_at dc_R_keyAt 41 rfl) ?_
        refine ev_iadd (a_dec_at dc_R_keyAt 42 rfl) ?_
        refine cT1I cs_R_91 (by decide) rfl (Nat.le_of_ble_eq_true rfl) (Nat.le_of_ble_eq_true rfl) (a_dec_at dc_R_keyAt 43 rfl) ?_
        refine CI.mono (fun x13 mi13 ml13 z13 H => ?_) H
        refine ev_bipush (v := 32) rfl (a_dec_at dc_R_keyAt 44 rfl) ?_
        refine ev_icmp_ne (tgt := 97) (a_dec_at dc_R_keyAt 45 rfl) (by decide) (fun b14 => ?_) (fun b14 => ?_)
        · have H := H.1 b14
          exact Ev.drop (L' := [.ref 119, .int v1, .int v2, .retAddr 0]) (And.intro rfl (And.intro rfl (And.intro rfl trivial))) H
        · have H := H.2 b14
          refine ev_aload_n (i := 0) rfl rfl (a_dec_at dc_R_keyAt 46 rfl) ?_
          refine m_getI fl_R_95 rfl sh119 (a_dec_at dc_R_keyAt 47 rfl) ?_
          refine ev_iload_n (i := 3) rfl rfl (a_dec_at dc_R_keyAt 48 rfl) ?_
          refine ev_iadd (a_dec_at dc_R_keyAt 49 rfl) ?_
          refine ev_aload_n (i := 0) rfl rfl (a_dec_at dc_R_keyAt 50 rfl) ?_
          refine m_getI fl_R_98 rfl sh119 (a_dec_at dc_R_keyAt 51 rfl) ?_
          refine ev_icmp_ne (tgt := 97) (a_dec_at dc_R_keyAt 52 rfl) (by decide) (fun b15 => ?_) (fun b15 => ?_)
          · have H := H.1 b15
            exact Ev.drop (L' := [.ref 119, .int v1, .int v2, .retAddr 0]) (And.intro rfl (And.intro rfl (And.intro rfl trivial))) H
          · have H := H.2 b15
            refine ev_iload_n (i := 1) rfl rfl (a_dec_at dc_R_keyAt 53 rfl) ?_
            exact m_retI (a_dec_at dc_R_keyAt 54 rfl) rfl rfl H
      · have H := H.2 b12
        refine ev_iinc (v := 1) rfl rfl (by decide) rfl (a_dec_at dc_R_keyAt 37 rfl) ?_
        refine ev_goto (tgt := 15) (a_dec_at dc_R_keyAt 38 rfl) (by decide) ?_
        exact Ev.drop (L' := [.ref 119, .int v1, .int v2, .int (v3 + 1)]) (And.intro rfl (And.intro rfl (And.intro rfl (And.intro rfl trivial)))) H
set_option maxRecDepth 20000 in
theorem t_R_keyAt_97 {l : Launch} {h : Nat} (mi : TMi) (ml : TMl) (z : Nat) (v1 : Int32) (v2 : Int32) {Q : Int32 → TMi → TMl → Nat → Prop} (H : CI l h m_JS_charAt [.ref (1000000 + 2), .int v2] mi ml z (fun x1 mi1 ml1 z1 => ((x1 = 32 → Ev l (h + 1) m_R_keyAt 4 ([.ref 119, .int (v1 + 1), .int (v2 + 1), .retAddr 0], [], st mi1 ml1 z1) (qI Q)) ∧ (¬ x1 = 32 → Ev l (h + 1) m_R_keyAt 97 ([.ref 119, .int v1, .int (v2 + 1), .retAddr 0], [], st mi1 ml1 z1) (qI Q))))) : Ev l (h + 1) m_R_keyAt 97 ([.ref 119, .int v1, .int v2, .retAddr 0], [], st mi ml z) (qI Q) := by
  refine ev_ldcS (tx := " land beck flow mark dry to river room name bears likes takes if then else end gifts and or not ") (j := 2) (by decide +kernel) (by decide) (a_dec_at dc_R_keyAt 55 rfl) ?_
  refine ev_iload_n (i := 2) rfl rfl (a_dec_at dc_R_keyAt 56 rfl) ?_
  refine cT1I cs_R_91 (by decide) rfl (Nat.le_of_ble_eq_true rfl) (Nat.le_of_ble_eq_true rfl) (a_dec_at dc_R_keyAt 57 rfl) ?_
  refine CI.mono (fun x1 mi1 ml1 z1 H => ?_) H
  refine ev_bipush (v := 32) rfl (a_dec_at dc_R_keyAt 58 rfl) ?_
  refine ev_icmp_eq (tgt := 114) (a_dec_at dc_R_keyAt 59 rfl) (by decide) (fun b2 => ?_) (fun b2 => ?_)
  · have H := H.1 b2
    refine ev_iinc (v := 1) rfl rfl (by decide) rfl (a_dec_at dc_R_keyAt 62 rfl) ?_
    refine ev_iinc (v := 1) rfl rfl (by decide) rfl (a_dec_at dc_R_keyAt 63 rfl) ?_
    refine ev_goto (tgt := 4) (a_dec_at dc_R_keyAt 64 rfl) (by decide) ?_
    exact Ev.drop (L' := [.ref 119, .int (v1 + 1), .int (v2 + 1), .retAddr 0]) (And.intro rfl (And.intro rfl (And.intro rfl trivial))) H
  · have H := H.2 b2
    refine ev_iinc (v := 1) rfl rfl (by decide) rfl (a_dec_at dc_R_keyAt 60 rfl) ?_
    refine ev_goto (tgt := 97) (a_dec_at dc_R_keyAt 61 rfl) (by decide) ?_
    exact Ev.drop (L' := [.ref 119, .int v1, .int (v2 + 1), .retAddr 0]) (And.intro rfl (And.intro rfl (And.intro rfl trivial))) H
set_option maxRecDepth 20000 in
theorem t_R_isDigit {l : Launch} {h : Nat} (mi : TMi) (ml : TMl) (z : Nat) (a1 : Int32) {Q : Int32 → TMi → TMl → Nat → Prop} (H : ((a1 < 48 → Q 0 mi ml z) ∧ (¬ a1 < 48 → ((57 < a1 → Q 0 mi ml z) ∧ (¬ 57 < a1 → Q 1 mi ml z))))) : CI l (h + 1) m_R_isDigit [.int a1] mi ml z Q := by
  show Ev l (h + 1) m_R_isDigit 0 ([.int a1], [], st mi ml z) (qI Q)
  refine ev_iload_n (i := 0) rfl rfl (a_dec_at dc_R_isDigit 0 rfl) ?_
  refine ev_bipush (v := 48) rfl (a_dec_at dc_R_isDigit 1 rfl) ?_
  refine ev_icmp_lt (tgt := 16) (a_dec_at dc_R_isDigit 2 rfl) (by decide) (fun b1 => ?_) (fun b1 => ?_)
  · have H := H.1 b1
    refine ev_iconst (v := 0) rfl (a_dec_at dc_R_isDigit 8 rfl) ?_
    exact m_retI (a_dec_at dc_R_isDigit 9 rfl) rfl rfl H
  · have H := H.2 b1
    refine ev_iload_n (i := 0) rfl rfl (a_dec_at dc_R_isDigit 3 rfl) ?_
    refine ev_bipush (v := 57) rfl (a_dec_at dc_R_isDigit 4 rfl) ?_
    refine ev_icmp_gt (tgt := 16) (a_dec_at dc_R_isDigit 5 rfl) (by decide) (fun b2 => ?_) (fun b2 => ?_)
    · have H := H.1 b2
      refine ev_iconst (v := 0) rfl (a_dec_at dc_R_isDigit 8 rfl) ?_
      exact m_retI (a_dec_at dc_R_isDigit 9 rfl) rfl rfl H
    · have H := H.2 b2
      refine ev_iconst (v := 1) rfl (a_dec_at dc_R_isDigit 6 rfl) ?_
      refine ev_goto (tgt := 17) (a_dec_at dc_R_isDigit 7 rfl) (by decide) ?_
      exact m_retI (a_dec_at dc_R_isDigit 9 rfl) rfl rfl H
set_option maxRecDepth 20000 in
theorem t_R_eats {l : Launch} {h : Nat} (mi : TMi) (ml : TMl) (z : Nat) (a1 : Int32) {Q : Int32 → TMi → TMl → Nat → Prop} (H : CI l h m_R_is [.ref 119, .int a1] mi ml z (fun x1 mi1 ml1 z1 => ((¬ x1 = 0 → CV l h m_R_next [.ref 119] mi1 ml1 z1 (fun mi3 ml3 z3 => Q 1 mi3 ml3 z3)) ∧ (x1 = 0 → Q 0 mi1 ml1 z1)))) : CI l (h + 1) m_R_eats [.ref 119, .int a1] mi ml z Q := by
  show Ev l (h + 1) m_R_eats 0 ([.ref 119, .int a1], [], st mi ml z) (qI Q)
  refine ev_aload_n (i := 0) rfl rfl (a_dec_at dc_R_eats 0 rfl) ?_
  refine ev_iload_n (i := 1) rfl rfl (a_dec_at dc_R_eats 1 rfl) ?_
  refine cV1I cs_R_129 sh119 rfl (Nat.le_of_ble_eq_true rfl) (Nat.le_of_ble_eq_true rfl) (a_dec_at dc_R_eats 2 rfl) ?_
  refine CI.mono (fun x1 mi1 ml1 z1 H => ?_) H
  refine ev_if_ne (tgt := 10) (a_dec_at dc_R_eats 3 rfl) (by decide) (fun b2 => ?_) (fun b2 => ?_)
  · have H := H.1 b2
    refine ev_aload_n (i := 0) rfl rfl (a_dec_at dc_R_eats 6 rfl) ?_
    refine cV0V cs_R_132 sh119 rfl (Nat.le_of_ble_eq_true rfl) (Nat.le_of_ble_eq_true rfl) (a_dec_at dc_R_eats 7 rfl) ?_
    refine CV.mono (fun mi3 ml3 z3 H => ?_) H
    refine ev_iconst (v := 1) rfl (a_dec_at dc_R_eats 8 rfl) ?_
    exact m_retI (a_dec_at dc_R_eats 9 rfl) rfl rfl H
  · have H := H.2 b2
    refine ev_iconst (v := 0) rfl (a_dec_at dc_R_eats 4 rfl) ?_
    exact m_retI (a_dec_at dc_R_eats 5 rfl) rfl rfl H
set_option maxRecDepth 20000 in
theorem t_R_is {l : Launch} {h : Nat} (mi : TMi) (ml : TMl) (z : Nat) (a1 : Int32) {Q : Int32 → TMi → TMl → Nat → Prop} (H : ((¬ (mi 119 11) = 0 → Q 0 mi ml z) ∧ ((mi 119 11) = 0 → ((¬ (mi 119 9) = a1 → Q 0 mi ml z) ∧ ((mi 119 9) = a1 → Q 1 mi ml z))))) : CI l (h + 1) m_R_is [.ref 119, .int a1] mi ml z Q := by
  show Ev l (h + 1) m_R_is 0 ([.ref 119, .int a1], [], st mi ml z) (qI Q)
  refine ev_aload_n (i := 0) rfl rfl (a_dec_at dc_R_is 0 rfl) ?_
  refine m_getI fl_R_123 rfl sh119 (a_dec_at dc_R_is 1 rfl) ?_
  refine ev_if_ne (tgt := 19) (a_dec_at dc_R_is 2 rfl) (by decide) (fun b1 => ?_) (fun b1 => ?_)
  · have H := H.1 b1
    refine ev_iconst (v := 0) rfl (a_dec_at dc_R_is 9 rfl) ?_
    exact m_retI (a_dec_at dc_R_is 10 rfl) rfl rfl H
  · have H := H.2 b1
    refine ev_aload_n (i := 0) rfl rfl (a_dec_at dc_R_is 3 rfl) ?_
    refine m_getI fl_R_105 rfl sh119 (a_dec_at dc_R_is 4 rfl) ?_
    refine ev_iload_n (i := 1) rfl rfl (a_dec_at dc_R_is 5 rfl) ?_
    refine ev_icmp_ne (tgt := 19) (a_dec_at dc_R_is 6 rfl) (by decide) (fun b2 => ?_) (fun b2 => ?_)
    · have H := H.1 b2
      refine ev_iconst (v := 0) rfl (a_dec_at dc_R_is 9 rfl) ?_
      exact m_retI (a_dec_at dc_R_is 10 rfl) rfl rfl H
    · have H := H.2 b2
      refine ev_iconst (v := 1) rfl (a_dec_at dc_R_is 7 rfl) ?_
      refine ev_goto (tgt := 20) (a_dec_at dc_R_is 8 rfl) (by decide) ?_
      exact m_retI (a_dec_at dc_R_is 10 rfl) rfl rfl H
set_option maxRecDepth 20000 in
theorem t_R_fails {l : Launch} {h : Nat} (mi : TMi) (ml : TMl) (z : Nat) (a1 : Int32) {Q : TMi → TMl → Nat → Prop} (H : (((mi 119 11) = 0 → ((¬ (mi 119 9) = 25 → Q (up (up mi 119 11 a1) 119 12 ((up mi 119 11 a1) 119 6)) ml z) ∧ ((mi 119 9) = 25 → Q (up (up mi 119 11 1) 119 12 ((up mi 119 11 1) 119 6)) ml z))) ∧ (¬ (mi 119 11) = 0 → Q mi ml z))) : CV l (h + 1) m_R_fails [.ref 119, .int a1] mi ml z Q := by
  show Ev l (h + 1) m_R_fails 0 ([.ref 119, .int a1], [], st mi ml z) (qV Q)
  refine ev_aload_n (i := 0) rfl rfl (a_dec_at dc_R_fails 0 rfl) ?_
  refine m_getI fl_R_123 rfl sh119 (a_dec_at dc_R_fails 1 rfl) ?_
  refine ev_if_eq (tgt := 8) (a_dec_at dc_R_fails 2 rfl) (by decide) (fun b1 => ?_) (fun b1 => ?_)
  · have H := H.1 b1
    refine ev_aload_n (i := 0) rfl rfl (a_dec_at dc_R_fails 4 rfl) ?_
    refine ev_aload_n (i := 0) rfl rfl (a_dec_at dc_R_fails 5 rfl) ?_
    refine m_getI fl_R_105 rfl sh119 (a_dec_at dc_R_fails 6 rfl) ?_
    refine ev_bipush (v := 25) rfl (a_dec_at dc_R_fails 7 rfl) ?_
    refine ev_icmp_ne (tgt := 22) (a_dec_at dc_R_fails 8 rfl) (by decide) (fun b2 => ?_) (fun b2 => ?_)
    · have H := H.1 b2
      refine ev_iload_n (i := 1) rfl rfl (a_dec_at dc_R_fails 11 rfl) ?_
      refine m_putI fl_R_123 rfl (fun _ _ _ h => by cases h; exact Or.inl rfl) sh119 (a_dec_at dc_R_fails 12 rfl) ?_
      refine ev_aload_n (i := 0) rfl rfl (a_dec_at dc_R_fails 13 rfl) ?_
      refine ev_aload_n (i := 0) rfl rfl (a_dec_at dc_R_fails 14 rfl) ?_
      refine m_getI fl_R_95 rfl sh119 (a_dec_at dc_R_fails 15 rfl) ?_
      refine m_putI fl_R_126 rfl (fun _ _ _ h => by cases h; exact Or.inl rfl) sh119 (a_dec_at dc_R_fails 16 rfl) ?_
      exact m_retV (a_dec_at dc_R_fails 17 rfl) rfl H
    · have H := H.2 b2
      refine ev_iconst (v := 1) rfl (a_dec_at dc_R_fails 9 rfl) ?_
      refine ev_goto (tgt := 23) (a_dec_at dc_R_fails 10 rfl) (by decide) ?_
      refine m_putI fl_R_123 rfl (fun _ _ _ h => by cases h; exact Or.inl rfl) sh119 (a_dec_at dc_R_fails 12 rfl) ?_
      refine ev_aload_n (i := 0) rfl rfl (a_dec_at dc_R_fails 13 rfl) ?_
      refine ev_aload_n (i := 0) rfl rfl (a_dec_at dc_R_fails 14 rfl) ?_
      refine m_getI fl_R_95 rfl sh119 (a_dec_at dc_R_fails 15 rfl) ?_
      refine m_putI fl_R_126 rfl (fun _ _ _ h => by cases h; exact Or.inl rfl) sh119 (a_dec_at dc_R_fails 16 rfl) ?_
      exact m_retV (a_dec_at dc_R_fails 17 rfl) rfl H
  · have H := H.2 b1
    exact m_retV (a_dec_at dc_R_fails 3 rfl) rfl H
set_option maxRecDepth 20000 in
theorem t_R_ends {l : Launch} {h : Nat} (mi : TMi) (ml : TMl) (z : Nat) {Q : TMi → TMl → Nat → Prop} (H : CI l h m_R_eats [.ref 119, .int 30] mi ml z (fun x1 mi1 ml1 z1 => ((¬ x1 = 0 → Q (up mi1 123 0 ((mi1 123 0) + 1)) ml1 z1) ∧ (x1 = 0 → CV l h m_R_fails [.ref 119, .int 2] mi1 ml1 z1 (fun mi3 ml3 z3 => Q (up mi3 123 0 ((mi3 123 0) + 1)) ml3 z3))))) : CV l (h + 1) m_R_ends [.ref 119] mi ml z Q := by
  show Ev l (h + 1) m_R_ends 0 ([.ref 119], [], st mi ml z) (qV Q)
  refine ev_aload_n (i := 0) rfl rfl (a_dec_at dc_R_ends 0 rfl) ?_
  refine ev_bipush (v := 30) rfl (a_dec_at dc_R_ends 1 rfl) ?_
  refine cV1I cs_R_155 sh119 rfl (Nat.le_of_ble_eq_true rfl) (Nat.le_of_ble_eq_true rfl) (a_dec_at dc_R_ends 2 rfl) ?_
  refine CI.mono (fun x1 mi1 ml1 z1 H => ?_) H
  refine ev_if_ne (tgt := 14) (a_dec_at dc_R_ends 3 rfl) (by decide) (fun b2 => ?_) (fun b2 => ?_)
  · have H := H.1 b2
    refine ev_aload_n (i := 0) rfl rfl (a_dec_at dc_R_ends 7 rfl) ?_
    refine m_getR (y := 123) fl_R_24 rfl sh119 (mr_119_4 _) (by decide) (a_dec_at dc_R_ends 8 rfl) ?_
    refine ev_iconst (v := 0) rfl (a_dec_at dc_R_ends 9 rfl) ?_
    refine ev_dup2 rfl rfl (a_dec_at dc_R_ends 10 rfl) ?_
    refine w_iald (k := 0) sh123 (by unfold vp_in; decide) (by decide) (a_dec_at dc_R_ends 11 rfl) ?_
    refine ev_iconst (v := 1) rfl (a_dec_at dc_R_ends 12 rfl) ?_
    refine ev_iadd (a_dec_at dc_R_ends 13 rfl) ?_
    refine w_iast (k := 0) sh123 (by unfold vp_in; decide) (by decide) (a_dec_at dc_R_ends 14 rfl) ?_
    exact m_retV (a_dec_at dc_R_ends 15 rfl) rfl H
  · have H := H.2 b2
    refine ev_aload_n (i := 0) rfl rfl (a_dec_at dc_R_ends 4 rfl) ?_
    refine ev_iconst (v := 2) rfl (a_dec_at dc_R_ends 5 rfl) ?_
    refine cV1V cs_R_135 sh119 rfl (Nat.le_of_ble_eq_true rfl) (Nat.le_of_ble_eq_true rfl) (a_dec_at dc_R_ends 6 rfl) ?_
    refine CV.mono (fun mi3 ml3 z3 H => ?_) H
    refine ev_aload_n (i := 0) rfl rfl (a_dec_at dc_R_ends 7 rfl) ?_
    refine m_getR (y := 123) fl_R_24 rfl sh119 (mr_119_4 _) (by decide) (a_dec_at dc_R_ends 8 rfl) ?_
    refine ev_iconst (v := 0) rfl (a_dec_at dc_R_ends 9 rfl) ?_
    refine ev_dup2 rfl rfl (a_dec_at dc_R_ends 10 rfl) ?_
    refine w_iald (k := 0) sh123 (by unfold vp_in; decide) (by decide) (a_dec_at dc_R_ends 11 rfl) ?_
    refine ev_iconst (v := 1) rfl (a_dec_at dc_R_ends 12 rfl) ?_
    refine ev_iadd (a_dec_at dc_R_ends 13 rfl) ?_
    refine w_iast (k := 0) sh123 (by unfold vp_in; decide) (by decide) (a_dec_at dc_R_ends 14 rfl) ?_
    exact m_retV (a_dec_at dc_R_ends 15 rfl) rfl H
set_option maxRecDepth 20000 in
theorem t_R_readLine {l : Launch} {h : Nat} (mi : TMi) (ml : TMl) (z : Nat) {Q : TMi → TMl → Nat → Prop} (H : (((mi 119 11) = 0 → CI l h m_R_is [.ref 119, .int 1] mi ml z (fun x2 mi2 ml2 z2 => ((x2 = 0 → CI l h m_R_is [.ref 119, .int 6] mi2 ml2 z2 (fun x4 mi4 ml4 z4 => ((x4 = 0 → CI l h m_R_is [.ref 119, .int 10] mi4 ml4 z4 (fun x6 mi6 ml6 z6 => ((¬ x6 = 0 → CV l h m_R_readLaw [.ref 119, .int ((mi6 119 9) - 10)] mi6 ml6 z6 (fun mi8 ml8 z8 => Q mi8 ml8 z8)) ∧ (x6 = 0 → CI l h m_R_is [.ref 119, .int 11] mi6 ml6 z6 (fun x9 mi9 ml9 z9 => ((x9 = 0 → CV l h m_R_fails [.ref 119, .int 2] mi9 ml9 z9 (fun mi11 ml11 z11 => Q mi11 ml11 z11)) ∧ (¬ x9 = 0 → CV l h m_R_readLaw [.ref 119, .int ((mi9 119 9) - 10)] mi9 ml9 z9 (fun mi12 ml12 z12 => Q mi12 ml12 z12)))))))) ∧ (¬ x4 = 0 → CV l h m_R_readRiver [.ref 119] mi4 ml4 z4 (fun mi13 ml13 z13 => Q mi13 ml13 z13))))) ∧ (¬ x2 = 0 → CV l h m_R_readBeck [.ref 119] mi2 ml2 z2 (fun mi14 ml14 z14 => Q mi14 ml14 z14))))) ∧ (¬ (mi 119 11) = 0 → Q mi ml z))) : CV l (h + 1) m_R_readLine [.ref 119] mi ml z Q := by
  show Ev l (h + 1) m_R_readLine 0 ([.ref 119], [], st mi ml z) (qV Q)
  refine ev_aload_n (i := 0) rfl rfl (a_dec_at dc_R_readLine 0 rfl) ?_
  refine m_getI fl_R_123 rfl sh119 (a_dec_at dc_R_readLine 1 rfl) ?_
  refine ev_if_eq (tgt := 8) (a_dec_at dc_R_readLine 2 rfl) (by decide) (fun b1 => ?_) (fun b1 => ?_)
  · have H := H.1 b1
    refine ev_aload_n (i := 0) rfl rfl (a_dec_at dc_R_readLine 4 rfl) ?_
    refine ev_iconst (v := 1) rfl (a_dec_at dc_R_readLine 5 rfl) ?_
    refine cV1I cs_R_129 sh119 rfl (Nat.le_of_ble_eq_true rfl) (Nat.le_of_ble_eq_true rfl) (a_dec_at dc_R_readLine 6 rfl) ?_
    refine CI.mono (fun x2 mi2 ml2 z2 H => ?_) H
    refine ev_if_eq (tgt := 23) (a_dec_at dc_R_readLine 7 rfl) (by decide) (fun b3 => ?_) (fun b3 => ?_)
    · have H := H.1 b3
      refine ev_aload_n (i := 0) rfl rfl (a_dec_at dc_R_readLine 11 rfl) ?_
      refine ev_bipush (v := 6) rfl (a_dec_at dc_R_readLine 12 rfl) ?_
      refine cV1I cs_R_129 sh119 rfl (Nat.le_of_ble_eq_true rfl) (Nat.le_of_ble_eq_true rfl) (a_dec_at dc_R_readLine 13 rfl) ?_
      refine CI.mono (fun x4 mi4 ml4 z4 H => ?_) H
      refine ev_if_eq (tgt := 39) (a_dec_at dc_R_readLine 14 rfl) (by decide) (fun b5 => ?_) (fun b5 => ?_)
      · have H := H.1 b5
        refine ev_aload_n (i := 0) rfl rfl (a_dec_at dc_R_readLine 18 rfl) ?_
        refine ev_bipush (v := 10) rfl (a_dec_at dc_R_readLine 19 rfl) ?_
        refine cV1I cs_R_129 sh119 rfl (Nat.le_of_ble_eq_true rfl) (Nat.le_of_ble_eq_true rfl) (a_dec_at dc_R_readLine 20 rfl) ?_
        refine CI.mono (fun x6 mi6 ml6 z6 H => ?_) H
        refine ev_if_ne (tgt := 57) (a_dec_at dc_R_readLine 21 rfl) (by decide) (fun b7 => ?_) (fun b7 => ?_)
        · have H := H.1 b7
          refine ev_aload_n (i := 0) rfl rfl (a_dec_at dc_R_readLine 26 rfl) ?_
          refine ev_aload_n (i := 0) rfl rfl (a_dec_at dc_R_readLine 27 rfl) ?_
          refine m_getI fl_R_105 rfl sh119 (a_dec_at dc_R_readLine 28 rfl) ?_
          refine ev_bipush (v := 10) rfl (a_dec_at dc_R_readLine 29 rfl) ?_
          refine ev_isub (a_dec_at dc_R_readLine 30 rfl) ?_
          refine cV1V cs_R_195 sh119 rfl (Nat.le_of_ble_eq_true rfl) (Nat.le_of_ble_eq_true rfl) (a_dec_at dc_R_readLine 31 rfl) ?_
          refine CV.mono (fun mi8 ml8 z8 H => ?_) H
          refine ev_goto (tgt := 76) (a_dec_at dc_R_readLine 32 rfl) (by decide) ?_
          exact m_retV (a_dec_at dc_R_readLine 36 rfl) rfl H
        · have H := H.2 b7
          refine ev_aload_n (i := 0) rfl rfl (a_dec_at dc_R_readLine 22 rfl) ?_
          refine ev_bipush (v := 11) rfl (a_dec_at dc_R_readLine 23 rfl) ?_
          refine cV1I cs_R_129 sh119 rfl (Nat.le_of_ble_eq_true rfl) (Nat.le_of_ble_eq_true rfl) (a_dec_at dc_R_readLine 24 rfl) ?_
          refine CI.mono (fun x9 mi9 ml9 z9 H => ?_) H
          refine ev_if_eq (tgt := 71) (a_dec_at dc_R_readLine 25 rfl) (by decide) (fun b10 => ?_) (fun b10 => ?_)
          · have H := H.1 b10
            refine ev_aload_n (i := 0) rfl rfl (a_dec_at dc_R_readLine 33 rfl) ?_
            refine ev_iconst (v := 2) rfl (a_dec_at dc_R_readLine 34 rfl) ?_
            refine cV1V cs_R_135 sh119 rfl (Nat.le_of_ble_eq_true rfl) (Nat.le_of_ble_eq_true rfl) (a_dec_at dc_R_readLine 35 rfl) ?_
            refine CV.mono (fun mi11 ml11 z11 H => ?_) H
            exact m_retV (a_dec_at dc_R_readLine 36 rfl) rfl H
          · have H := H.2 b10
            refine ev_aload_n (i := 0) rfl rfl (a_dec_at dc_R_readLine 26 rfl) ?_
            refine ev_aload_n (i := 0) rfl rfl (a_dec_at dc_R_readLine 27 rfl) ?_
            refine m_getI fl_R_105 rfl sh119 (a_dec_at dc_R_readLine 28 rfl) ?_
            refine ev_bipush (v := 10) rfl (a_dec_at dc_R_readLine 29 rfl) ?_
            refine ev_isub (a_dec_at dc_R_readLine 30 rfl) ?_
            refine cV1V cs_R_195 sh119 rfl (Nat.le_of_ble_eq_true rfl) (Nat.le_of_ble_eq_true rfl) (a_dec_at dc_R_readLine 31 rfl) ?_
            refine CV.mono (fun mi12 ml12 z12 H => ?_) H
            refine ev_goto (tgt := 76) (a_dec_at dc_R_readLine 32 rfl) (by decide) ?_
            exact m_retV (a_dec_at dc_R_readLine 36 rfl) rfl H
      · have H := H.2 b5
        refine ev_aload_n (i := 0) rfl rfl (a_dec_at dc_R_readLine 15 rfl) ?_
        refine cV0V cs_R_192 sh119 rfl (Nat.le_of_ble_eq_true rfl) (Nat.le_of_ble_eq_true rfl) (a_dec_at dc_R_readLine 16 rfl) ?_
        refine CV.mono (fun mi13 ml13 z13 H => ?_) H
        refine ev_goto (tgt := 76) (a_dec_at dc_R_readLine 17 rfl) (by decide) ?_
        exact m_retV (a_dec_at dc_R_readLine 36 rfl) rfl H
    · have H := H.2 b3
      refine ev_aload_n (i := 0) rfl rfl (a_dec_at dc_R_readLine 8 rfl) ?_
      refine cV0V cs_R_189 sh119 rfl (Nat.le_of_ble_eq_true rfl) (Nat.le_of_ble_eq_true rfl) (a_dec_at dc_R_readLine 9 rfl) ?_
      refine CV.mono (fun mi14 ml14 z14 H => ?_) H
      refine ev_goto (tgt := 76) (a_dec_at dc_R_readLine 10 rfl) (by decide) ?_
      exact m_retV (a_dec_at dc_R_readLine 36 rfl) rfl H
  · have H := H.2 b1
    exact m_retV (a_dec_at dc_R_readLine 3 rfl) rfl H
set_option maxRecDepth 20000 in
theorem t_R_readBeck {l : Launch} {h : Nat} (mi : TMi) (ml : TMl) (z : Nat) {Q : TMi → TMl → Nat → Prop} (H : ((¬ (mi 123 1) = 6 → (((mi 119 11) = 0 → CV l h m_R_next [.ref 119] mi ml z (fun mi3 ml3 z3 => CI l h m_R_eats [.ref 119, .int 2] mi3 ml3 z3 (fun x4 mi4 ml4 z4 => ((¬ x4 = 0 → CI l h m_R_takesN [.ref 119, .int 0, .int 9] mi4 ml4 z4 (fun x6 mi6 ml6 z6 => (vp_in (35 + (mi 123 1)) 1371) ∧ Ev l (h + 1) m_R_readBeck 59 ([.ref 119, .int (mi 123 1)], [], st (up mi6 123 ((35 + (mi 123 1)).toNatClampNeg) x6) ml6 z6) (qV Q))) ∧ (x4 = 0 → CV l h m_R_fails [.ref 119, .int 2] mi4 ml4 z4 (fun mi8 ml8 z8 => CI l h m_R_takesN [.ref 119, .int 0, .int 9] mi8 ml8 z8 (fun x9 mi9 ml9 z9 => (vp_in (35 + (mi 123 1)) 1371) ∧ Ev l (h + 1) m_R_readBeck 59 ([.ref 119, .int (mi 123 1)], [], st (up mi9 123 ((35 + (mi 123 1)).toNatClampNeg) x9) ml9 z9) (qV Q)))))))) ∧ (¬ (mi 119 11) = 0 → Q mi ml z))) ∧ ((mi 123 1) = 6 → CV l h m_R_fails [.ref 119, .int 4] mi ml z (fun mi11 ml11 z11 => (((mi11 119 11) = 0 → CV l h m_R_next [.ref 119] mi11 ml11 z11 (fun mi13 ml13 z13 => CI l h m_R_eats [.ref 119, .int 2] mi13 ml13 z13 (fun x14 mi14 ml14 z14 => ((¬ x14 = 0 → CI l h m_R_takesN [.ref 119, .int 0, .int 9] mi14 ml14 z14 (fun x16 mi16 ml16 z16 => (vp_in (35 + (mi 123 1)) 1371) ∧ Ev l (h + 1) m_R_readBeck 59 ([.ref 119, .int (mi 123 1)], [], st (up mi16 123 ((35 + (mi 123 1)).toNatClampNeg) x16) ml16 z16) (qV Q))) ∧ (x14 = 0 → CV l h m_R_fails [.ref 119, .int 2] mi14 ml14 z14 (fun mi18 ml18 z18 => CI l h m_R_takesN [.ref 119, .int 0, .int 9] mi18 ml18 z18 (fun x19 mi19 ml19 z19 => (vp_in (35 + (mi 123 1)) 1371) ∧ Ev l (h + 1) m_R_readBeck 59 ([.ref 119, .int (mi 123 1)], [], st (up mi19 123 ((35 + (mi 123 1)).toNatClampNeg) x19) ml19 z19) (qV Q)))))))) ∧ (¬ (mi11 119 11) = 0 → Q mi11 ml11 z11)))))) : CV l (h + 1) m_R_readBeck [.ref 119] mi ml z Q := by
  show Ev l (h + 1) m_R_readBeck 0 ([.ref 119, .retAddr 0], [], st mi ml z) (qV Q)
  refine ev_aload_n (i := 0) rfl rfl (a_dec_at dc_R_readBeck 0 rfl) ?_
  refine m_getR (y := 123) fl_R_24 rfl sh119 (mr_119_4 _) (by decide) (a_dec_at dc_R_readBeck 1 rfl) ?_
  refine ev_iconst (v := 1) rfl (a_dec_at dc_R_readBeck 2 rfl) ?_
  refine w_iald (k := 1) sh123 (by unfold vp_in; decide) (by decide) (a_dec_at dc_R_readBeck 3 rfl) ?_
  refine ev_istore_n (i := 1) rfl (by decide) rfl (a_dec_at dc_R_readBeck 4 rfl) ?_
  refine ev_iload_n (i := 1) rfl rfl (a_dec_at dc_R_readBeck 5 rfl) ?_
  refine ev_bipush (v := 6) rfl (a_dec_at dc_R_readBeck 6 rfl) ?_
  refine ev_icmp_ne (tgt := 18) (a_dec_at dc_R_readBeck 7 rfl) (by decide) (fun b1 => ?_) (fun b1 => ?_)
  · have H := H.1 b1
    refine ev_aload_n (i := 0) rfl rfl (a_dec_at dc_R_readBeck 11 rfl) ?_
    refine m_getI fl_R_123 rfl sh119 (a_dec_at dc_R_readBeck 12 rfl) ?_
    refine ev_if_eq (tgt := 26) (a_dec_at dc_R_readBeck 13 rfl) (by decide) (fun b2 => ?_) (fun b2 => ?_)
    · have H := H.1 b2
      refine ev_aload_n (i := 0) rfl rfl (a_dec_at dc_R_readBeck 15 rfl) ?_
      refine cV0V cs_R_132 sh119 rfl (Nat.le_of_ble_eq_true rfl) (Nat.le_of_ble_eq_true rfl) (a_dec_at dc_R_readBeck 16 rfl) ?_
      refine CV.mono (fun mi3 ml3 z3 H => ?_) H
      refine ev_aload_n (i := 0) rfl rfl (a_dec_at dc_R_readBeck 17 rfl) ?_
      refine ev_iconst (v := 2) rfl (a_dec_at dc_R_readBeck 18 rfl) ?_
      refine cV1I cs_R_155 sh119 rfl (Nat.le_of_ble_eq_true rfl) (Nat.le_of_ble_eq_true rfl) (a_dec_at dc_R_readBeck 19 rfl) ?_
      refine CI.mono (fun x4 mi4 ml4 z4 H => ?_) H
      refine ev_if_ne (tgt := 43) (a_dec_at dc_R_readBeck 20 rfl) (by decide) (fun b5 => ?_) (fun b5 => ?_)
      · have H := H.1 b5
        refine ev_aload_n (i := 0) rfl rfl (a_dec_at dc_R_readBeck 24 rfl) ?_
        refine m_getR (y := 123) fl_R_24 rfl sh119 (mr_119_4 _) (by decide) (a_dec_at dc_R_readBeck 25 rfl) ?_
        refine ev_bipush (v := 35) rfl (a_dec_at dc_R_readBeck 26 rfl) ?_
        refine ev_iload_n (i := 1) rfl rfl (a_dec_at dc_R_readBeck 27 rfl) ?_
        refine ev_iadd (a_dec_at dc_R_readBeck 28 rfl) ?_
        refine ev_aload_n (i := 0) rfl rfl (a_dec_at dc_R_readBeck 29 rfl) ?_
        refine ev_iconst (v := 0) rfl (a_dec_at dc_R_readBeck 30 rfl) ?_
        refine ev_bipush (v := 9) rfl (a_dec_at dc_R_readBeck 31 rfl) ?_
        refine cV2I cs_R_179 sh119 rfl (Nat.le_of_ble_eq_true rfl) (Nat.le_of_ble_eq_true rfl) (a_dec_at dc_R_readBeck 32 rfl) ?_
        refine CI.mono (fun x6 mi6 ml6 z6 H => ?_) H
        obtain ⟨c7, H⟩ := H
        refine w_iast (k := (35 + (mi 123 1)).toNatClampNeg) sh123 c7 rfl (a_dec_at dc_R_readBeck 33 rfl) ?_
        exact Ev.drop (L' := [.ref 119, .int (mi 123 1)]) (And.intro rfl (And.intro rfl trivial)) H
      · have H := H.2 b5
        refine ev_aload_n (i := 0) rfl rfl (a_dec_at dc_R_readBeck 21 rfl) ?_
        refine ev_iconst (v := 2) rfl (a_dec_at dc_R_readBeck 22 rfl) ?_
        refine cV1V cs_R_135 sh119 rfl (Nat.le_of_ble_eq_true rfl) (Nat.le_of_ble_eq_true rfl) (a_dec_at dc_R_readBeck 23 rfl) ?_
        refine CV.mono (fun mi8 ml8 z8 H => ?_) H
        refine ev_aload_n (i := 0) rfl rfl (a_dec_at dc_R_readBeck 24 rfl) ?_
        refine m_getR (y := 123) fl_R_24 rfl sh119 (mr_119_4 _) (by decide) (a_dec_at dc_R_readBeck 25 rfl) ?_
        refine ev_bipush (v := 35) rfl (a_dec_at dc_R_readBeck 26 rfl) ?_
        refine ev_iload_n (i := 1) rfl rfl (a_dec_at dc_R_readBeck 27 rfl) ?_
        refine ev_iadd (a_dec_at dc_R_readBeck 28 rfl) ?_
        refine ev_aload_n (i := 0) rfl rfl (a_dec_at dc_R_readBeck 29 rfl) ?_
        refine ev_iconst (v := 0) rfl (a_dec_at dc_R_readBeck 30 rfl) ?_
        refine ev_bipush (v := 9) rfl (a_dec_at dc_R_readBeck 31 rfl) ?_
        refine cV2I cs_R_179 sh119 rfl (Nat.le_of_ble_eq_true rfl) (Nat.le_of_ble_eq_true rfl) (a_dec_at dc_R_readBeck 32 rfl) ?_
        refine CI.mono (fun x9 mi9 ml9 z9 H => ?_) H
        obtain ⟨c10, H⟩ := H
        refine w_iast (k := (35 + (mi 123 1)).toNatClampNeg) sh123 c10 rfl (a_dec_at dc_R_readBeck 33 rfl) ?_
        exact Ev.drop (L' := [.ref 119, .int (mi 123 1)]) (And.intro rfl (And.intro rfl trivial)) H
    · have H := H.2 b2
      exact m_retV (a_dec_at dc_R_readBeck 14 rfl) rfl H
  · have H := H.2 b1
    refine ev_aload_n (i := 0) rfl rfl (a_dec_at dc_R_readBeck 8 rfl) ?_
    refine ev_iconst (v := 4) rfl (a_dec_at dc_R_readBeck 9 rfl) ?_
    refine cV1V cs_R_135 sh119 rfl (Nat.le_of_ble_eq_true rfl) (Nat.le_of_ble_eq_true rfl) (a_dec_at dc_R_readBeck 10 rfl) ?_
    refine CV.mono (fun mi11 ml11 z11 H => ?_) H
    refine ev_aload_n (i := 0) rfl rfl (a_dec_at dc_R_readBeck 11 rfl) ?_
    refine m_getI fl_R_123 rfl sh119 (a_dec_at dc_R_readBeck 12 rfl) ?_
    refine ev_if_eq (tgt := 26) (a_dec_at dc_R_readBeck 13 rfl) (by decide) (fun b12 => ?_) (fun b12 => ?_)
    · have H := H.1 b12
      refine ev_aload_n (i := 0) rfl rfl (a_dec_at dc_R_readBeck 15 rfl) ?_
      refine cV0V cs_R_132 sh119 rfl (Nat.le_of_ble_eq_true rfl) (Nat.le_of_ble_eq_true rfl) (a_dec_at dc_R_readBeck 16 rfl) ?_
      refine CV.mono (fun mi13 ml13 z13 H => ?_) H
      refine ev_aload_n (i := 0) rfl rfl (a_dec_at dc_R_readBeck 17 rfl) ?_
      refine ev_iconst (v := 2) rfl (a_dec_at dc_R_readBeck 18 rfl) ?_
      refine cV1I cs_R_155 sh119 rfl (Nat.le_of_ble_eq_true rfl) (Nat.le_of_ble_eq_true rfl) (a_dec_at dc_R_readBeck 19 rfl) ?_
      refine CI.mono (fun x14 mi14 ml14 z14 H => ?_) H
      refine ev_if_ne (tgt := 43) (a_dec_at dc_R_readBeck 20 rfl) (by decide) (fun b15 => ?_) (fun b15 => ?_)
      · have H := H.1 b15
        refine ev_aload_n (i := 0) rfl rfl (a_dec_at dc_R_readBeck 24 rfl) ?_
        refine m_getR (y := 123) fl_R_24 rfl sh119 (mr_119_4 _) (by decide) (a_dec_at dc_R_readBeck 25 rfl) ?_
        refine ev_bipush (v := 35) rfl (a_dec_at dc_R_readBeck 26 rfl) ?_
        refine ev_iload_n (i := 1) rfl rfl (a_dec_at dc_R_readBeck 27 rfl) ?_
        refine ev_iadd (a_dec_at dc_R_readBeck 28 rfl) ?_
        refine ev_aload_n (i := 0) rfl rfl (a_dec_at dc_R_readBeck 29 rfl) ?_
        refine ev_iconst (v := 0) rfl (a_dec_at dc_R_readBeck 30 rfl) ?_
        refine ev_bipush (v := 9) rfl (a_dec_at dc_R_readBeck 31 rfl) ?_
        refine cV2I cs_R_179 sh119 rfl (Nat.le_of_ble_eq_true rfl) (Nat.le_of_ble_eq_true rfl) (a_dec_at dc_R_readBeck 32 rfl) ?_
        refine CI.mono (fun x16 mi16 ml16 z16 H => ?_) H
        obtain ⟨c17, H⟩ := H
        refine w_iast (k := (35 + (mi 123 1)).toNatClampNeg) sh123 c17 rfl (a_dec_at dc_R_readBeck 33 rfl) ?_
        exact Ev.drop (L' := [.ref 119, .int (mi 123 1)]) (And.intro rfl (And.intro rfl trivial)) H
      · have H := H.2 b15
        refine ev_aload_n (i := 0) rfl rfl (a_dec_at dc_R_readBeck 21 rfl) ?_
        refine ev_iconst (v := 2) rfl (a_dec_at dc_R_readBeck 22 rfl) ?_
        refine cV1V cs_R_135 sh119 rfl (Nat.le_of_ble_eq_true rfl) (Nat.le_of_ble_eq_true rfl) (a_dec_at dc_R_readBeck 23 rfl) ?_
        refine CV.mono (fun mi18 ml18 z18 H => ?_) H
        refine ev_aload_n (i := 0) rfl rfl (a_dec_at dc_R_readBeck 24 rfl) ?_
        refine m_getR (y := 123) fl_R_24 rfl sh119 (mr_119_4 _) (by decide) (a_dec_at dc_R_readBeck 25 rfl) ?_
        refine ev_bipush (v := 35) rfl (a_dec_at dc_R_readBeck 26 rfl) ?_
        refine ev_iload_n (i := 1) rfl rfl (a_dec_at dc_R_readBeck 27 rfl) ?_
        refine ev_iadd (a_dec_at dc_R_readBeck 28 rfl) ?_
        refine ev_aload_n (i := 0) rfl rfl (a_dec_at dc_R_readBeck 29 rfl) ?_
        refine ev_iconst (v := 0) rfl (a_dec_at dc_R_readBeck 30 rfl) ?_
        refine ev_bipush (v := 9) rfl (a_dec_at dc_R_readBeck 31 rfl) ?_
        refine cV2I cs_R_179 sh119 rfl (Nat.le_of_ble_eq_true rfl) (Nat.le_of_ble_eq_true rfl) (a_dec_at dc_R_readBeck 32 rfl) ?_
        refine CI.mono (fun x19 mi19 ml19 z19 H => ?_) H
        obtain ⟨c20, H⟩ := H
        refine w_iast (k := (35 + (mi 123 1)).toNatClampNeg) sh123 c20 rfl (a_dec_at dc_R_readBeck 33 rfl) ?_
        exact Ev.drop (L' := [.ref 119, .int (mi 123 1)]) (And.intro rfl (And.intro rfl trivial)) H
    · have H := H.2 b12
      exact m_retV (a_dec_at dc_R_readBeck 14 rfl) rfl H
set_option maxRecDepth 20000 in
theorem t_R_readBeck_59 {l : Launch} {h : Nat} (mi : TMi) (ml : TMl) (z : Nat) (v1 : Int32) {Q : TMi → TMl → Nat → Prop} (H : ((¬ (mi 119 11) = 0 → ((¬ (mi 119 11) = 0 → Q mi ml z) ∧ ((mi 119 11) = 0 → Q (up mi 123 1 ((mi 123 1) + 1)) ml z))) ∧ ((mi 119 11) = 0 → CI l h m_R_readFlag [.ref 119, .int v1] mi ml z (fun x3 mi3 ml3 z3 => ((x3 = 0 → ((¬ (mi3 119 11) = 0 → Q mi3 ml3 z3) ∧ ((mi3 119 11) = 0 → Q (up mi3 123 1 ((mi3 123 1) + 1)) ml3 z3))) ∧ (¬ x3 = 0 → Ev l (h + 1) m_R_readBeck 59 ([.ref 119, .int v1], [], st mi3 ml3 z3) (qV Q))))))) : Ev l (h + 1) m_R_readBeck 59 ([.ref 119, .int v1], [], st mi ml z) (qV Q) := by
  refine ev_aload_n (i := 0) rfl rfl (a_dec_at dc_R_readBeck 34 rfl) ?_
  refine m_getI fl_R_123 rfl sh119 (a_dec_at dc_R_readBeck 35 rfl) ?_
  refine ev_if_ne (tgt := 77) (a_dec_at dc_R_readBeck 36 rfl) (by decide) (fun b1 => ?_) (fun b1 => ?_)
  · have H := H.1 b1
    refine ev_aload_n (i := 0) rfl rfl (a_dec_at dc_R_readBeck 42 rfl) ?_
    refine m_getI fl_R_123 rfl sh119 (a_dec_at dc_R_readBeck 43 rfl) ?_
    refine ev_if_ne (tgt := 94) (a_dec_at dc_R_readBeck 44 rfl) (by decide) (fun b2 => ?_) (fun b2 => ?_)
    · have H := H.1 b2
      exact m_retV (a_dec_at dc_R_readBeck 53 rfl) rfl H
    · have H := H.2 b2
      refine ev_aload_n (i := 0) rfl rfl (a_dec_at dc_R_readBeck 45 rfl) ?_
      refine m_getR (y := 123) fl_R_24 rfl sh119 (mr_119_4 _) (by decide) (a_dec_at dc_R_readBeck 46 rfl) ?_
      refine ev_iconst (v := 1) rfl (a_dec_at dc_R_readBeck 47 rfl) ?_
      refine ev_dup2 rfl rfl (a_dec_at dc_R_readBeck 48 rfl) ?_
      refine w_iald (k := 1) sh123 (by unfold vp_in; decide) (by decide) (a_dec_at dc_R_readBeck 49 rfl) ?_
      refine ev_iconst (v := 1) rfl (a_dec_at dc_R_readBeck 50 rfl) ?_
      refine ev_iadd (a_dec_at dc_R_readBeck 51 rfl) ?_
      refine w_iast (k := 1) sh123 (by unfold vp_in; decide) (by decide) (a_dec_at dc_R_readBeck 52 rfl) ?_
      exact m_retV (a_dec_at dc_R_readBeck 53 rfl) rfl H
  · have H := H.2 b1
    refine ev_aload_n (i := 0) rfl rfl (a_dec_at dc_R_readBeck 37 rfl) ?_
    refine ev_iload_n (i := 1) rfl rfl (a_dec_at dc_R_readBeck 38 rfl) ?_
    refine cV1I cs_R_186 sh119 rfl (Nat.le_of_ble_eq_true rfl) (Nat.le_of_ble_eq_true rfl) (a_dec_at dc_R_readBeck 39 rfl) ?_
    refine CI.mono (fun x3 mi3 ml3 z3 H => ?_) H
    refine ev_if_eq (tgt := 77) (a_dec_at dc_R_readBeck 40 rfl) (by decide) (fun b4 => ?_) (fun b4 => ?_)
    · have H := H.1 b4
      refine ev_aload_n (i := 0) rfl rfl (a_dec_at dc_R_readBeck 42 rfl) ?_
      refine m_getI fl_R_123 rfl sh119 (a_dec_at dc_R_readBeck 43 rfl) ?_
      refine ev_if_ne (tgt := 94) (a_dec_at dc_R_readBeck 44 rfl) (by decide) (fun b5 => ?_) (fun b5 => ?_)
      · have H := H.1 b5
        exact m_retV (a_dec_at dc_R_readBeck 53 rfl) rfl H
      · have H := H.2 b5
        refine ev_aload_n (i := 0) rfl rfl (a_dec_at dc_R_readBeck 45 rfl) ?_
        refine m_getR (y := 123) fl_R_24 rfl sh119 (mr_119_4 _) (by decide) (a_dec_at dc_R_readBeck 46 rfl) ?_
        refine ev_iconst (v := 1) rfl (a_dec_at dc_R_readBeck 47 rfl) ?_
        refine ev_dup2 rfl rfl (a_dec_at dc_R_readBeck 48 rfl) ?_
        refine w_iald (k := 1) sh123 (by unfold vp_in; decide) (by decide) (a_dec_at dc_R_readBeck 49 rfl) ?_
        refine ev_iconst (v := 1) rfl (a_dec_at dc_R_readBeck 50 rfl) ?_
        refine ev_iadd (a_dec_at dc_R_readBeck 51 rfl) ?_
        refine w_iast (k := 1) sh123 (by unfold vp_in; decide) (by decide) (a_dec_at dc_R_readBeck 52 rfl) ?_
        exact m_retV (a_dec_at dc_R_readBeck 53 rfl) rfl H
    · have H := H.2 b4
      refine ev_goto (tgt := 59) (a_dec_at dc_R_readBeck 41 rfl) (by decide) ?_
      exact Ev.drop (L' := [.ref 119, .int v1]) (And.intro rfl (And.intro rfl trivial)) H
set_option maxRecDepth 20000 in
theorem t_R_takesN {l : Launch} {h : Nat} (mi : TMi) (ml : TMl) (z : Nat) (a1 : Int32) (a2 : Int32) {Q : Int32 → TMi → TMl → Nat → Prop} (H : CI l h m_R_is [.ref 119, .int 23] mi ml z (fun x1 mi1 ml1 z1 => ((¬ x1 = 0 → CI l h m_R_within [.long ((mi1 119 10).toInt64), .long a1.toInt64, .long a2.toInt64] mi1 ml1 z1 (fun x3 mi3 ml3 z3 => ((¬ x3 = 0 → ((¬ (mi3 119 11) = 0 → Q (mi3 119 10) mi3 ml3 z3) ∧ ((mi3 119 11) = 0 → CV l h m_R_next [.ref 119] mi3 ml3 z3 (fun mi6 ml6 z6 => Q (mi3 119 10) mi6 ml6 z6)))) ∧ (x3 = 0 → CV l h m_R_fails [.ref 119, .int 3] mi3 ml3 z3 (fun mi7 ml7 z7 => ((¬ (mi7 119 11) = 0 → Q (mi7 119 10) mi7 ml7 z7) ∧ ((mi7 119 11) = 0 → CV l h m_R_next [.ref 119] mi7 ml7 z7 (fun mi9 ml9 z9 => Q (mi7 119 10) mi9 ml9 z9)))))))) ∧ (x1 = 0 → CV l h m_R_fails [.ref 119, .int 2] mi1 ml1 z1 (fun mi10 ml10 z10 => ((¬ (mi10 119 11) = 0 → Q (mi10 119 10) mi10 ml10 z10) ∧ ((mi10 119 11) = 0 → CV l h m_R_next [.ref 119] mi10 ml10 z10 (fun mi12 ml12 z12 => Q (mi10 119 10) mi12 ml12 z12)))))))) : CI l (h + 1) m_R_takesN [.ref 119, .int a1, .int a2] mi ml z Q := by
  show Ev l (h + 1) m_R_takesN 0 ([.ref 119, .int a1, .int a2, .retAddr 0], [], st mi ml z) (qI Q)
  refine ev_aload_n (i := 0) rfl rfl (a_dec_at dc_R_takesN 0 rfl) ?_
  refine ev_bipush (v := 23) rfl (a_dec_at dc_R_takesN 1 rfl) ?_
  refine cV1I cs_R_129 sh119 rfl (Nat.le_of_ble_eq_true rfl) (Nat.le_of_ble_eq_true rfl) (a_dec_at dc_R_takesN 2 rfl) ?_
  refine CI.mono (fun x1 mi1 ml1 z1 H => ?_) H
  refine ev_if_ne (tgt := 17) (a_dec_at dc_R_takesN 3 rfl) (by decide) (fun b2 => ?_) (fun b2 => ?_)
  · have H := H.1 b2
    refine ev_aload_n (i := 0) rfl rfl (a_dec_at dc_R_takesN 8 rfl) ?_
    refine m_getI fl_R_118 rfl sh119 (a_dec_at dc_R_takesN 9 rfl) ?_
    refine ev_i2l (a_dec_at dc_R_takesN 10 rfl) ?_
    refine ev_iload_n (i := 1) rfl rfl (a_dec_at dc_R_takesN 11 rfl) ?_
    refine ev_i2l (a_dec_at dc_R_takesN 12 rfl) ?_
    refine ev_iload_n (i := 2) rfl rfl (a_dec_at dc_R_takesN 13 rfl) ?_
    refine ev_i2l (a_dec_at dc_R_takesN 14 rfl) ?_
    refine cS3I cs_R_139 rfl (Nat.le_of_ble_eq_true rfl) (Nat.le_of_ble_eq_true rfl) (a_dec_at dc_R_takesN 15 rfl) ?_
    refine CI.mono (fun x3 mi3 ml3 z3 H => ?_) H
    refine ev_if_ne (tgt := 37) (a_dec_at dc_R_takesN 16 rfl) (by decide) (fun b4 => ?_) (fun b4 => ?_)
    · have H := H.1 b4
      refine ev_aload_n (i := 0) rfl rfl (a_dec_at dc_R_takesN 20 rfl) ?_
      refine m_getI fl_R_118 rfl sh119 (a_dec_at dc_R_takesN 21 rfl) ?_
      refine ev_istore_n (i := 3) rfl (by decide) rfl (a_dec_at dc_R_takesN 22 rfl) ?_
      refine ev_aload_n (i := 0) rfl rfl (a_dec_at dc_R_takesN 23 rfl) ?_
      refine m_getI fl_R_123 rfl sh119 (a_dec_at dc_R_takesN 24 rfl) ?_
      refine ev_if_ne (tgt := 53) (a_dec_at dc_R_takesN 25 rfl) (by decide) (fun b5 => ?_) (fun b5 => ?_)
      · have H := H.1 b5
        refine ev_iload_n (i := 3) rfl rfl (a_dec_at dc_R_takesN 28 rfl) ?_
        exact m_retI (a_dec_at dc_R_takesN 29 rfl) rfl rfl H
      · have H := H.2 b5
        refine ev_aload_n (i := 0) rfl rfl (a_dec_at dc_R_takesN 26 rfl) ?_
        refine cV0V cs_R_132 sh119 rfl (Nat.le_of_ble_eq_true rfl) (Nat.le_of_ble_eq_true rfl) (a_dec_at dc_R_takesN 27 rfl) ?_
        refine CV.mono (fun mi6 ml6 z6 H => ?_) H
        refine ev_iload_n (i := 3) rfl rfl (a_dec_at dc_R_takesN 28 rfl) ?_
        exact m_retI (a_dec_at dc_R_takesN 29 rfl) rfl rfl H
    · have H := H.2 b4
      refine ev_aload_n (i := 0) rfl rfl (a_dec_at dc_R_takesN 17 rfl) ?_
      refine ev_iconst (v := 3) rfl (a_dec_at dc_R_takesN 18 rfl) ?_
      refine cV1V cs_R_135 sh119 rfl (Nat.le_of_ble_eq_true rfl) (Nat.le_of_ble_eq_true rfl) (a_dec_at dc_R_takesN 19 rfl) ?_
      refine CV.mono (fun mi7 ml7 z7 H => ?_) H
      refine ev_aload_n (i := 0) rfl rfl (a_dec_at dc_R_takesN 20 rfl) ?_
      refine m_getI fl_R_118 rfl sh119 (a_dec_at dc_R_takesN 21 rfl) ?_
      refine ev_istore_n (i := 3) rfl (by decide) rfl (a_dec_at dc_R_takesN 22 rfl) ?_
      refine ev_aload_n (i := 0) rfl rfl (a_dec_at dc_R_takesN 23 rfl) ?_
      refine m_getI fl_R_123 rfl sh119 (a_dec_at dc_R_takesN 24 rfl) ?_
      refine ev_if_ne (tgt := 53) (a_dec_at dc_R_takesN 25 rfl) (by decide) (fun b8 => ?_) (fun b8 => ?_)
      · have H := H.1 b8
        refine ev_iload_n (i := 3) rfl rfl (a_dec_at dc_R_takesN 28 rfl) ?_
        exact m_retI (a_dec_at dc_R_takesN 29 rfl) rfl rfl H
      · have H := H.2 b8
        refine ev_aload_n (i := 0) rfl rfl (a_dec_at dc_R_takesN 26 rfl) ?_
        refine cV0V cs_R_132 sh119 rfl (Nat.le_of_ble_eq_true rfl) (Nat.le_of_ble_eq_true rfl) (a_dec_at dc_R_takesN 27 rfl) ?_
        refine CV.mono (fun mi9 ml9 z9 H => ?_) H
        refine ev_iload_n (i := 3) rfl rfl (a_dec_at dc_R_takesN 28 rfl) ?_
        exact m_retI (a_dec_at dc_R_takesN 29 rfl) rfl rfl H
  · have H := H.2 b2
    refine ev_aload_n (i := 0) rfl rfl (a_dec_at dc_R_takesN 4 rfl) ?_
    refine ev_iconst (v := 2) rfl (a_dec_at dc_R_takesN 5 rfl) ?_
    refine cV1V cs_R_135 sh119 rfl (Nat.le_of_ble_eq_true rfl) (Nat.le_of_ble_eq_true rfl) (a_dec_at dc_R_takesN 6 rfl) ?_
    refine CV.mono (fun mi10 ml10 z10 H => ?_) H
    refine ev_goto (tgt := 37) (a_dec_at dc_R_takesN 7 rfl) (by decide) ?_
    refine ev_aload_n (i := 0) rfl rfl (a_dec_at dc_R_takesN 20 rfl) ?_
    refine m_getI fl_R_118 rfl sh119 (a_dec_at dc_R_takesN 21 rfl) ?_
    refine ev_istore_n (i := 3) rfl (by decide) rfl (a_dec_at dc_R_takesN 22 rfl) ?_
    refine ev_aload_n (i := 0) rfl rfl (a_dec_at dc_R_takesN 23 rfl) ?_
    refine m_getI fl_R_123 rfl sh119 (a_dec_at dc_R_takesN 24 rfl) ?_
    refine ev_if_ne (tgt := 53) (a_dec_at dc_R_takesN 25 rfl) (by decide) (fun b11 => ?_) (fun b11 => ?_)
    · have H := H.1 b11
      refine ev_iload_n (i := 3) rfl rfl (a_dec_at dc_R_takesN 28 rfl) ?_
      exact m_retI (a_dec_at dc_R_takesN 29 rfl) rfl rfl H
    · have H := H.2 b11
      refine ev_aload_n (i := 0) rfl rfl (a_dec_at dc_R_takesN 26 rfl) ?_
      refine cV0V cs_R_132 sh119 rfl (Nat.le_of_ble_eq_true rfl) (Nat.le_of_ble_eq_true rfl) (a_dec_at dc_R_takesN 27 rfl) ?_
      refine CV.mono (fun mi12 ml12 z12 H => ?_) H
      refine ev_iload_n (i := 3) rfl rfl (a_dec_at dc_R_takesN 28 rfl) ?_
      exact m_retI (a_dec_at dc_R_takesN 29 rfl) rfl rfl H
set_option maxRecDepth 20000 in
theorem t_R_readFlag {l : Launch} {h : Nat} (mi : TMi) (ml : TMl) (z : Nat) (a1 : Int32) {Q : Int32 → TMi → TMl → Nat → Prop} (H : CI l h m_R_eats [.ref 119, .int 3] mi ml z (fun x1 mi1 ml1 z1 => ((x1 = 0 → CI l h m_R_eats [.ref 119, .int 4] mi1 ml1 z1 (fun x3 mi3 ml3 z3 => ((x3 = 0 → CI l h m_R_eats [.ref 119, .int 5] mi3 ml3 z3 (fun x5 mi5 ml5 z5 => ((x5 = 0 → Q 0 mi5 ml5 z5) ∧ (¬ x5 = 0 → CV l h m_R_readTo [.ref 119, .int a1] mi5 ml5 z5 (fun mi7 ml7 z7 => ((¬ (mi7 119 11) = 0 → Q 0 mi7 ml7 z7) ∧ ((mi7 119 11) = 0 → Q 1 mi7 ml7 z7))))))) ∧ (¬ x3 = 0 → CI l h m_R_takesN [.ref 119, .int 0, .int 10] mi3 ml3 z3 (fun x9 mi9 ml9 z9 => (vp_in (15 + a1) 1371) ∧ ((¬ ((up mi9 123 ((15 + a1).toNatClampNeg) x9) 119 11) = 0 → Q 0 (up mi9 123 ((15 + a1).toNatClampNeg) x9) ml9 z9) ∧ (((up mi9 123 ((15 + a1).toNatClampNeg) x9) 119 11) = 0 → Q 1 (up mi9 123 ((15 + a1).toNatClampNeg) x9) ml9 z9))))))) ∧ (¬ x1 = 0 → CI l h m_R_takesN [.ref 119, .int 0, .int 9] mi1 ml1 z1 (fun x12 mi12 ml12 z12 => (vp_in (9 + a1) 1371) ∧ ((¬ ((up mi12 123 ((9 + a1).toNatClampNeg) x12) 119 11) = 0 → Q 0 (up mi12 123 ((9 + a1).toNatClampNeg) x12) ml12 z12) ∧ (((up mi12 123 ((9 + a1).toNatClampNeg) x12) 119 11) = 0 → Q 1 (up mi12 123 ((9 + a1).toNatClampNeg) x12) ml12 z12))))))) : CI l (h + 1) m_R_readFlag [.ref 119, .int a1] mi ml z Q := by
  show Ev l (h + 1) m_R_readFlag 0 ([.ref 119, .int a1], [], st mi ml z) (qI Q)
  refine ev_aload_n (i := 0) rfl rfl (a_dec_at dc_R_readFlag 0 rfl) ?_
  refine ev_iconst (v := 3) rfl (a_dec_at dc_R_readFlag 1 rfl) ?_
  refine cV1I cs_R_155 sh119 rfl (Nat.le_of_ble_eq_true rfl) (Nat.le_of_ble_eq_true rfl) (a_dec_at dc_R_readFlag 2 rfl) ?_
  refine CI.mono (fun x1 mi1 ml1 z1 H => ?_) H
  refine ev_if_eq (tgt := 27) (a_dec_at dc_R_readFlag 3 rfl) (by decide) (fun b2 => ?_) (fun b2 => ?_)
  · have H := H.1 b2
    refine ev_aload_n (i := 0) rfl rfl (a_dec_at dc_R_readFlag 15 rfl) ?_
    refine ev_iconst (v := 4) rfl (a_dec_at dc_R_readFlag 16 rfl) ?_
    refine cV1I cs_R_155 sh119 rfl (Nat.le_of_ble_eq_true rfl) (Nat.le_of_ble_eq_true rfl) (a_dec_at dc_R_readFlag 17 rfl) ?_
    refine CI.mono (fun x3 mi3 ml3 z3 H => ?_) H
    refine ev_if_eq (tgt := 54) (a_dec_at dc_R_readFlag 18 rfl) (by decide) (fun b4 => ?_) (fun b4 => ?_)
    · have H := H.1 b4
      refine ev_aload_n (i := 0) rfl rfl (a_dec_at dc_R_readFlag 30 rfl) ?_
      refine ev_iconst (v := 5) rfl (a_dec_at dc_R_readFlag 31 rfl) ?_
      refine cV1I cs_R_155 sh119 rfl (Nat.le_of_ble_eq_true rfl) (Nat.le_of_ble_eq_true rfl) (a_dec_at dc_R_readFlag 32 rfl) ?_
      refine CI.mono (fun x5 mi5 ml5 z5 H => ?_) H
      refine ev_if_eq (tgt := 70) (a_dec_at dc_R_readFlag 33 rfl) (by decide) (fun b6 => ?_) (fun b6 => ?_)
      · have H := H.1 b6
        refine ev_iconst (v := 0) rfl (a_dec_at dc_R_readFlag 38 rfl) ?_
        exact m_retI (a_dec_at dc_R_readFlag 39 rfl) rfl rfl H
      · have H := H.2 b6
        refine ev_aload_n (i := 0) rfl rfl (a_dec_at dc_R_readFlag 34 rfl) ?_
        refine ev_iload_n (i := 1) rfl rfl (a_dec_at dc_R_readFlag 35 rfl) ?_
        refine cV1V cs_R_183 sh119 rfl (Nat.le_of_ble_eq_true rfl) (Nat.le_of_ble_eq_true rfl) (a_dec_at dc_R_readFlag 36 rfl) ?_
        refine CV.mono (fun mi7 ml7 z7 H => ?_) H
        refine ev_goto (tgt := 72) (a_dec_at dc_R_readFlag 37 rfl) (by decide) ?_
        refine ev_aload_n (i := 0) rfl rfl (a_dec_at dc_R_readFlag 40 rfl) ?_
        refine m_getI fl_R_123 rfl sh119 (a_dec_at dc_R_readFlag 41 rfl) ?_
        refine ev_if_ne (tgt := 83) (a_dec_at dc_R_readFlag 42 rfl) (by decide) (fun b8 => ?_) (fun b8 => ?_)
        · have H := H.1 b8
          refine ev_iconst (v := 0) rfl (a_dec_at dc_R_readFlag 45 rfl) ?_
          exact m_retI (a_dec_at dc_R_readFlag 46 rfl) rfl rfl H
        · have H := H.2 b8
          refine ev_iconst (v := 1) rfl (a_dec_at dc_R_readFlag 43 rfl) ?_
          refine ev_goto (tgt := 84) (a_dec_at dc_R_readFlag 44 rfl) (by decide) ?_
          exact m_retI (a_dec_at dc_R_readFlag 46 rfl) rfl rfl H
    · have H := H.2 b4
      refine ev_aload_n (i := 0) rfl rfl (a_dec_at dc_R_readFlag 19 rfl) ?_
      refine m_getR (y := 123) fl_R_24 rfl sh119 (mr_119_4 _) (by decide) (a_dec_at dc_R_readFlag 20 rfl) ?_
      refine ev_bipush (v := 15) rfl (a_dec_at dc_R_readFlag 21 rfl) ?_
      refine ev_iload_n (i := 1) rfl rfl (a_dec_at dc_R_readFlag 22 rfl) ?_
      refine ev_iadd (a_dec_at dc_R_readFlag 23 rfl) ?_
      refine ev_aload_n (i := 0) rfl rfl (a_dec_at dc_R_readFlag 24 rfl) ?_
      refine ev_iconst (v := 0) rfl (a_dec_at dc_R_readFlag 25 rfl) ?_
      refine ev_bipush (v := 10) rfl (a_dec_at dc_R_readFlag 26 rfl) ?_
      refine cV2I cs_R_179 sh119 rfl (Nat.le_of_ble_eq_true rfl) (Nat.le_of_ble_eq_true rfl) (a_dec_at dc_R_readFlag 27 rfl) ?_
      refine CI.mono (fun x9 mi9 ml9 z9 H => ?_) H
      obtain ⟨c10, H⟩ := H
      refine w_iast (k := (15 + a1).toNatClampNeg) sh123 c10 rfl (a_dec_at dc_R_readFlag 28 rfl) ?_
      refine ev_goto (tgt := 72) (a_dec_at dc_R_readFlag 29 rfl) (by decide) ?_
      refine ev_aload_n (i := 0) rfl rfl (a_dec_at dc_R_readFlag 40 rfl) ?_
      refine m_getI fl_R_123 rfl sh119 (a_dec_at dc_R_readFlag 41 rfl) ?_
      refine ev_if_ne (tgt := 83) (a_dec_at dc_R_readFlag 42 rfl) (by decide) (fun b11 => ?_) (fun b11 => ?_)
      · have H := H.1 b11
        refine ev_iconst (v := 0) rfl (a_dec_at dc_R_readFlag 45 rfl) ?_
        exact m_retI (a_dec_at dc_R_readFlag 46 rfl) rfl rfl H
      · have H := H.2 b11
        refine ev_iconst (v := 1) rfl (a_dec_at dc_R_readFlag 43 rfl) ?_
        refine ev_goto (tgt := 84) (a_dec_at dc_R_readFlag 44 rfl) (by decide) ?_
        exact m_retI (a_dec_at dc_R_readFlag 46 rfl) rfl rfl H
  · have H := H.2 b2
    refine ev_aload_n (i := 0) rfl rfl (a_dec_at dc_R_readFlag 4 rfl) ?_
    refine m_getR (y := 123) fl_R_24 rfl sh119 (mr_119_4 _) (by decide) (a_dec_at dc_R_readFlag 5 rfl) ?_
    refine ev_bipush (v := 9) rfl (a_dec_at dc_R_readFlag 6 rfl) ?_
    refine ev_iload_n (i := 1) rfl rfl (a_dec_at dc_R_readFlag 7 rfl) ?_
    refine ev_iadd (a_dec_at dc_R_readFlag 8 rfl) ?_
    refine ev_aload_n (i := 0) rfl rfl (a_dec_at dc_R_readFlag 9 rfl) ?_
    refine ev_iconst (v := 0) rfl (a_dec_at dc_R_readFlag 10 rfl) ?_
    refine ev_bipush (v := 9) rfl (a_dec_at dc_R_readFlag 11 rfl) ?_
    refine cV2I cs_R_179 sh119 rfl (Nat.le_of_ble_eq_true rfl) (Nat.le_of_ble_eq_true rfl) (a_dec_at dc_R_readFlag 12 rfl) ?_
    refine CI.mono (fun x12 mi12 ml12 z12 H => ?_) H
    obtain ⟨c13, H⟩ := H
    refine w_iast (k := (9 + a1).toNatClampNeg) sh123 c13 rfl (a_dec_at dc_R_readFlag 13 rfl) ?_
    refine ev_goto (tgt := 72) (a_dec_at dc_R_readFlag 14 rfl) (by decide) ?_
    refine ev_aload_n (i := 0) rfl rfl (a_dec_at dc_R_readFlag 40 rfl) ?_
    refine m_getI fl_R_123 rfl sh119 (a_dec_at dc_R_readFlag 41 rfl) ?_
    refine ev_if_ne (tgt := 83) (a_dec_at dc_R_readFlag 42 rfl) (by decide) (fun b14 => ?_) (fun b14 => ?_)
    · have H := H.1 b14
      refine ev_iconst (v := 0) rfl (a_dec_at dc_R_readFlag 45 rfl) ?_
      exact m_retI (a_dec_at dc_R_readFlag 46 rfl) rfl rfl H
    · have H := H.2 b14
      refine ev_iconst (v := 1) rfl (a_dec_at dc_R_readFlag 43 rfl) ?_
      refine ev_goto (tgt := 84) (a_dec_at dc_R_readFlag 44 rfl) (by decide) ?_
      exact m_retI (a_dec_at dc_R_readFlag 46 rfl) rfl rfl H
set_option maxRecDepth 20000 in
theorem t_R_readTo {l : Launch} {h : Nat} (mi : TMi) (ml : TMl) (z : Nat) (a1 : Int32) {Q : TMi → TMl → Nat → Prop} (H : (vp_in (29 + a1) 1371) ∧ CI l h m_R_is [.ref 119, .int 23] (up mi 123 ((29 + a1).toNatClampNeg) (-1)) ml z (fun x2 mi2 ml2 z2 => ((x2 = 0 → CI l h m_R_takesN [.ref 119, .int 0, .int ((mi2 123 2) - 1)] mi2 ml2 z2 (fun x4 mi4 ml4 z4 => ((¬ (mi4 119 11) = 0 → Q mi4 ml4 z4) ∧ ((mi4 119 11) = 0 → (vp_in (29 + a1) 1371) ∧ Q (up mi4 123 ((29 + a1).toNatClampNeg) x4) ml4 z4)))) ∧ (¬ x2 = 0 → (((mi2 123 2) ≤ (mi2 119 10) → CI l h m_R_takesN [.ref 119, .int 0, .int ((mi2 123 2) - 1)] mi2 ml2 z2 (fun x8 mi8 ml8 z8 => ((¬ (mi8 119 11) = 0 → Q mi8 ml8 z8) ∧ ((mi8 119 11) = 0 → (vp_in (29 + a1) 1371) ∧ Q (up mi8 123 ((29 + a1).toNatClampNeg) x8) ml8 z8)))) ∧ (¬ (mi2 123 2) ≤ (mi2 119 10) → CI l h m_R_inRiver [.ref 119, .int (mi2 119 10)] mi2 ml2 z2 (fun x11 mi11 ml11 z11 => (vp_in (41 + (mi11 119 10)) 1371) ∧ ((¬ x11 = (mi11 123 ((41 + (mi11 119 10)).toNatClampNeg)) → CI l h m_R_takesN [.ref 119, .int 0, .int ((mi11 123 2) - 1)] mi11 ml11 z11 (fun x14 mi14 ml14 z14 => ((¬ (mi14 119 11) = 0 → Q mi14 ml14 z14) ∧ ((mi14 119 11) = 0 → (vp_in (29 + a1) 1371) ∧ Q (up mi14 123 ((29 + a1).toNatClampNeg) x14) ml14 z14)))) ∧ (x11 = (mi11 123 ((41 + (mi11 119 10)).toNatClampNeg)) → CV l h m_R_fails [.ref 119, .int 3] mi11 ml11 z11 (fun mi17 ml17 z17 => CI l h m_R_takesN [.ref 119, .int 0, .int ((mi17 123 2) - 1)] mi17 ml17 z17 (fun x18 mi18 ml18 z18 => ((¬ (mi18 119 11) = 0 → Q mi18 ml18 z18) ∧ ((mi18 119 11) = 0 → (vp_in (29 + a1) 1371) ∧ Q (up mi18 123 ((29 + a1).toNatClampNeg) x18) ml18 z18))))))))))))) : CV l (h + 1) m_R_readTo [.ref 119, .int a1] mi ml z Q := by
  show Ev l (h + 1) m_R_readTo 0 ([.ref 119, .int a1, .retAddr 0], [], st mi ml z) (qV Q)
  refine ev_aload_n (i := 0) rfl rfl (a_dec_at dc_R_readTo 0 rfl) ?_
  refine m_getR (y := 123) fl_R_24 rfl sh119 (mr_119_4 _) (by decide) (a_dec_at dc_R_readTo 1 rfl) ?_
  refine ev_bipush (v := 29) rfl (a_dec_at dc_R_readTo 2 rfl) ?_
  refine ev_iload_n (i := 1) rfl rfl (a_dec_at dc_R_readTo 3 rfl) ?_
  refine ev_iadd (a_dec_at dc_R_readTo 4 rfl) ?_
  refine ev_iconst (v := (-1)) rfl (a_dec_at dc_R_readTo 5 rfl) ?_
  obtain ⟨c1, H⟩ := H
  refine w_iast (k := (29 + a1).toNatClampNeg) sh123 c1 rfl (a_dec_at dc_R_readTo 6 rfl) ?_
  refine ev_aload_n (i := 0) rfl rfl (a_dec_at dc_R_readTo 7 rfl) ?_
  refine ev_bipush (v := 23) rfl (a_dec_at dc_R_readTo 8 rfl) ?_
  refine cV1I cs_R_129 sh119 rfl (Nat.le_of_ble_eq_true rfl) (Nat.le_of_ble_eq_true rfl) (a_dec_at dc_R_readTo 9 rfl) ?_
  refine CI.mono (fun x2 mi2 ml2 z2 H => ?_) H
  refine ev_if_eq (tgt := 60) (a_dec_at dc_R_readTo 10 rfl) (by decide) (fun b3 => ?_) (fun b3 => ?_)
  · have H := H.1 b3
    refine ev_aload_n (i := 0) rfl rfl (a_dec_at dc_R_readTo 33 rfl) ?_
    refine ev_iconst (v := 0) rfl (a_dec_at dc_R_readTo 34 rfl) ?_
    refine ev_aload_n (i := 0) rfl rfl (a_dec_at dc_R_readTo 35 rfl) ?_
    refine m_getR (y := 123) fl_R_24 rfl sh119 (mr_119_4 _) (by decide) (a_dec_at dc_R_readTo 36 rfl) ?_
    refine ev_iconst (v := 2) rfl (a_dec_at dc_R_readTo 37 rfl) ?_
    refine w_iald (k := 2) sh123 (by unfold vp_in; decide) (by decide) (a_dec_at dc_R_readTo 38 rfl) ?_
    refine ev_iconst (v := 1) rfl (a_dec_at dc_R_readTo 39 rfl) ?_
    refine ev_isub (a_dec_at dc_R_readTo 40 rfl) ?_
    refine cV2I cs_R_179 sh119 rfl (Nat.le_of_ble_eq_true rfl) (Nat.le_of_ble_eq_true rfl) (a_dec_at dc_R_readTo 41 rfl) ?_
    refine CI.mono (fun x4 mi4 ml4 z4 H => ?_) H
    refine ev_istore_n (i := 2) rfl (by decide) rfl (a_dec_at dc_R_readTo 42 rfl) ?_
    refine ev_aload_n (i := 0) rfl rfl (a_dec_at dc_R_readTo 43 rfl) ?_
    refine m_getI fl_R_123 rfl sh119 (a_dec_at dc_R_readTo 44 rfl) ?_
    refine ev_if_ne (tgt := 91) (a_dec_at dc_R_readTo 45 rfl) (by decide) (fun b5 => ?_) (fun b5 => ?_)
    · have H := H.1 b5
      exact m_retV (a_dec_at dc_R_readTo 53 rfl) rfl H
    · have H := H.2 b5
      refine ev_aload_n (i := 0) rfl rfl (a_dec_at dc_R_readTo 46 rfl) ?_
      refine m_getR (y := 123) fl_R_24 rfl sh119 (mr_119_4 _) (by decide) (a_dec_at dc_R_readTo 47 rfl) ?_
      refine ev_bipush (v := 29) rfl (a_dec_at dc_R_readTo 48 rfl) ?_
      refine ev_iload_n (i := 1) rfl rfl (a_dec_at dc_R_readTo 49 rfl) ?_
      refine ev_iadd (a_dec_at dc_R_readTo 50 rfl) ?_
      refine ev_iload_n (i := 2) rfl rfl (a_dec_at dc_R_readTo 51 rfl) ?_
      obtain ⟨c6, H⟩ := H
      refine w_iast (k := (29 + a1).toNatClampNeg) sh123 c6 rfl (a_dec_at dc_R_readTo 52 rfl) ?_
      exact m_retV (a_dec_at dc_R_readTo 53 rfl) rfl H
  · have H := H.2 b3
    refine ev_aload_n (i := 0) rfl rfl (a_dec_at dc_R_readTo 11 rfl) ?_
    refine m_getI fl_R_118 rfl sh119 (a_dec_at dc_R_readTo 12 rfl) ?_
    refine ev_aload_n (i := 0) rfl rfl (a_dec_at dc_R_readTo 13 rfl) ?_
    refine m_getR (y := 123) fl_R_24 rfl sh119 (mr_119_4 _) (by decide) (a_dec_at dc_R_readTo 14 rfl) ?_
    refine ev_iconst (v := 2) rfl (a_dec_at dc_R_readTo 15 rfl) ?_
    refine w_iald (k := 2) sh123 (by unfold vp_in; decide) (by decide) (a_dec_at dc_R_readTo 16 rfl) ?_
    refine ev_icmp_ge (tgt := 60) (a_dec_at dc_R_readTo 17 rfl) (by decide) (fun b7 => ?_) (fun b7 => ?_)
    · have H := H.1 b7
      refine ev_aload_n (i := 0) rfl rfl (a_dec_at dc_R_readTo 33 rfl) ?_
      refine ev_iconst (v := 0) rfl (a_dec_at dc_R_readTo 34 rfl) ?_
      refine ev_aload_n (i := 0) rfl rfl (a_dec_at dc_R_readTo 35 rfl) ?_
      refine m_getR (y := 123) fl_R_24 rfl sh119 (mr_119_4 _) (by decide) (a_dec_at dc_R_readTo 36 rfl) ?_
      refine ev_iconst (v := 2) rfl (a_dec_at dc_R_readTo 37 rfl) ?_
      refine w_iald (k := 2) sh123 (by unfold vp_in; decide) (by decide) (a_dec_at dc_R_readTo 38 rfl) ?_
      refine ev_iconst (v := 1) rfl (a_dec_at dc_R_readTo 39 rfl) ?_
      refine ev_isub (a_dec_at dc_R_readTo 40 rfl) ?_
      refine cV2I cs_R_179 sh119 rfl (Nat.le_of_ble_eq_true rfl) (Nat.le_of_ble_eq_true rfl) (a_dec_at dc_R_readTo 41 rfl) ?_
      refine CI.mono (fun x8 mi8 ml8 z8 H => ?_) H
      refine ev_istore_n (i := 2) rfl (by decide) rfl (a_dec_at dc_R_readTo 42 rfl) ?_
      refine ev_aload_n (i := 0) rfl rfl (a_dec_at dc_R_readTo 43 rfl) ?_
      refine m_getI fl_R_123 rfl sh119 (a_dec_at dc_R_readTo 44 rfl) ?_
      refine ev_if_ne (tgt := 91) (a_dec_at dc_R_readTo 45 rfl) (by decide) (fun b9 => ?_) (fun b9 => ?_)
      · have H := H.1 b9
        exact m_retV (a_dec_at dc_R_readTo 53 rfl) rfl H
      · have H := H.2 b9
        refine ev_aload_n (i := 0) rfl rfl (a_dec_at dc_R_readTo 46 rfl) ?_
        refine m_getR (y := 123) fl_R_24 rfl sh119 (mr_119_4 _) (by decide) (a_dec_at dc_R_readTo 47 rfl) ?_
        refine ev_bipush (v := 29) rfl (a_dec_at dc_R_readTo 48 rfl) ?_
        refine ev_iload_n (i := 1) rfl rfl (a_dec_at dc_R_readTo 49 rfl) ?_
        refine ev_iadd (a_dec_at dc_R_readTo 50 rfl) ?_
        refine ev_iload_n (i := 2) rfl rfl (a_dec_at dc_R_readTo 51 rfl) ?_
        obtain ⟨c10, H⟩ := H
        refine w_iast (k := (29 + a1).toNatClampNeg) sh123 c10 rfl (a_dec_at dc_R_readTo 52 rfl) ?_
        exact m_retV (a_dec_at dc_R_readTo 53 rfl) rfl H
    · have H := H.2 b7
      refine ev_aload_n (i := 0) rfl rfl (a_dec_at dc_R_readTo 18 rfl) ?_
      refine ev_aload_n (i := 0) rfl rfl (a_dec_at dc_R_readTo 19 rfl) ?_
      refine m_getI fl_R_118 rfl sh119 (a_dec_at dc_R_readTo 20 rfl) ?_
      refine cV1I cs_R_176 sh119 rfl (Nat.le_of_ble_eq_true rfl) (Nat.le_of_ble_eq_true rfl) (a_dec_at dc_R_readTo 21 rfl) ?_
      refine CI.mono (fun x11 mi11 ml11 z11 H => ?_) H
      refine ev_aload_n (i := 0) rfl rfl (a_dec_at dc_R_readTo 22 rfl) ?_
      refine m_getR (y := 123) fl_R_24 rfl sh119 (mr_119_4 _) (by decide) (a_dec_at dc_R_readTo 23 rfl) ?_
      refine ev_bipush (v := 41) rfl (a_dec_at dc_R_readTo 24 rfl) ?_
      refine ev_aload_n (i := 0) rfl rfl (a_dec_at dc_R_readTo 25 rfl) ?_
      refine m_getI fl_R_118 rfl sh119 (a_dec_at dc_R_readTo 26 rfl) ?_
      refine ev_iadd (a_dec_at dc_R_readTo 27 rfl) ?_
      obtain ⟨c12, H⟩ := H
      refine w_iald (k := (41 + (mi11 119 10)).toNatClampNeg) sh123 c12 rfl (a_dec_at dc_R_readTo 28 rfl) ?_
      refine ev_icmp_ne (tgt := 60) (a_dec_at dc_R_readTo 29 rfl) (by decide) (fun b13 => ?_) (fun b13 => ?_)
      · have H := H.1 b13
        refine ev_aload_n (i := 0) rfl rfl (a_dec_at dc_R_readTo 33 rfl) ?_
        refine ev_iconst (v := 0) rfl (a_dec_at dc_R_readTo 34 rfl) ?_
        refine ev_aload_n (i := 0) rfl rfl (a_dec_at dc_R_readTo 35 rfl) ?_
        refine m_getR (y := 123) fl_R_24 rfl sh119 (mr_119_4 _) (by decide) (a_dec_at dc_R_readTo 36 rfl) ?_
        refine ev_iconst (v := 2) rfl (a_dec_at dc_R_readTo 37 rfl) ?_
        refine w_iald (k := 2) sh123 (by unfold vp_in; decide) (by decide) (a_dec_at dc_R_readTo 38 rfl) ?_
        refine ev_iconst (v := 1) rfl (a_dec_at dc_R_readTo 39 rfl) ?_
        refine ev_isub (a_dec_at dc_R_readTo 40 rfl) ?_
        refine cV2I cs_R_179 sh119 rfl (Nat.le_of_ble_eq_true rfl) (Nat.le_of_ble_eq_true rfl) (a_dec_at dc_R_readTo 41 rfl) ?_
        refine CI.mono (fun x14 mi14 ml14 z14 H => ?_) H
        refine ev_istore_n (i := 2) rfl (by decide) rfl (a_dec_at dc_R_readTo 42 rfl) ?_
        refine ev_aload_n (i := 0) rfl rfl (a_dec_at dc_R_readTo 43 rfl) ?_
        refine m_getI fl_R_123 rfl sh119 (a_dec_at dc_R_readTo 44 rfl) ?_
        refine ev_if_ne (tgt := 91) (a_dec_at dc_R_readTo 45 rfl) (by decide) (fun b15 => ?_) (fun b15 => ?_)
        · have H := H.1 b15
          exact m_retV (a_dec_at dc_R_readTo 53 rfl) rfl H
        · have H := H.2 b15
          refine ev_aload_n (i := 0) rfl rfl (a_dec_at dc_R_readTo 46 rfl) ?_
          refine m_getR (y := 123) fl_R_24 rfl sh119 (mr_119_4 _) (by decide) (a_dec_at dc_R_readTo 47 rfl) ?_
          refine ev_bipush (v := 29) rfl (a_dec_at dc_R_readTo 48 rfl) ?_
          refine ev_iload_n (i := 1) rfl rfl (a_dec_at dc_R_readTo 49 rfl) ?_
          refine ev_iadd (a_dec_at dc_R_readTo 50 rfl) ?_
          refine ev_iload_n (i := 2) rfl rfl (a_dec_at dc_R_readTo 51 rfl) ?_
          obtain ⟨c16, H⟩ := H
          refine w_iast (k := (29 + a1).toNatClampNeg) sh123 c16 rfl (a_dec_at dc_R_readTo 52 rfl) ?_
          exact m_retV (a_dec_at dc_R_readTo 53 rfl) rfl H
      · have H := H.2 b13
        refine ev_aload_n (i := 0) rfl rfl (a_dec_at dc_R_readTo 30 rfl) ?_
        refine ev_iconst (v := 3) rfl (a_dec_at dc_R_readTo 31 rfl) ?_
        refine cV1V cs_R_135 sh119 rfl (Nat.le_of_ble_eq_true rfl) (Nat.le_of_ble_eq_true rfl) (a_dec_at dc_R_readTo 32 rfl) ?_
        refine CV.mono (fun mi17 ml17 z17 H => ?_) H
        refine ev_aload_n (i := 0) rfl rfl (a_dec_at dc_R_readTo 33 rfl) ?_
        refine ev_iconst (v := 0) rfl (a_dec_at dc_R_readTo 34 rfl) ?_
        refine ev_aload_n (i := 0) rfl rfl (a_dec_at dc_R_readTo 35 rfl) ?_
        refine m_getR (y := 123) fl_R_24 rfl sh119 (mr_119_4 _) (by decide) (a_dec_at dc_R_readTo 36 rfl) ?_
        refine ev_iconst (v := 2) rfl (a_dec_at dc_R_readTo 37 rfl) ?_
        refine w_iald (k := 2) sh123 (by unfold vp_in; decide) (by decide) (a_dec_at dc_R_readTo 38 rfl) ?_
        refine ev_iconst (v := 1) rfl (a_dec_at dc_R_readTo 39 rfl) ?_
        refine ev_isub (a_dec_at dc_R_readTo 40 rfl) ?_
        refine cV2I cs_R_179 sh119 rfl (Nat.le_of_ble_eq_true rfl) (Nat.le_of_ble_eq_true rfl) (a_dec_at dc_R_readTo 41 rfl) ?_
        refine CI.mono (fun x18 mi18 ml18 z18 H => ?_) H
        refine ev_istore_n (i := 2) rfl (by decide) rfl (a_dec_at dc_R_readTo 42 rfl) ?_
        refine ev_aload_n (i := 0) rfl rfl (a_dec_at dc_R_readTo 43 rfl) ?_
        refine m_getI fl_R_123 rfl sh119 (a_dec_at dc_R_readTo 44 rfl) ?_
        refine ev_if_ne (tgt := 91) (a_dec_at dc_R_readTo 45 rfl) (by decide) (fun b19 => ?_) (fun b19 => ?_)
        · have H := H.1 b19
          exact m_retV (a_dec_at dc_R_readTo 53 rfl) rfl H
        · have H := H.2 b19
          refine ev_aload_n (i := 0) rfl rfl (a_dec_at dc_R_readTo 46 rfl) ?_
          refine m_getR (y := 123) fl_R_24 rfl sh119 (mr_119_4 _) (by decide) (a_dec_at dc_R_readTo 47 rfl) ?_
          refine ev_bipush (v := 29) rfl (a_dec_at dc_R_readTo 48 rfl) ?_
          refine ev_iload_n (i := 1) rfl rfl (a_dec_at dc_R_readTo 49 rfl) ?_
          refine ev_iadd (a_dec_at dc_R_readTo 50 rfl) ?_
          refine ev_iload_n (i := 2) rfl rfl (a_dec_at dc_R_readTo 51 rfl) ?_
          obtain ⟨c20, H⟩ := H
          refine w_iast (k := (29 + a1).toNatClampNeg) sh123 c20 rfl (a_dec_at dc_R_readTo 52 rfl) ?_
          exact m_retV (a_dec_at dc_R_readTo 53 rfl) rfl H
set_option maxRecDepth 20000 in
theorem t_R_inRiver {l : Launch} {h : Nat} (mi : TMi) (ml : TMl) (z : Nat) (a1 : Int32) {Q : Int32 → TMi → TMl → Nat → Prop} (H : Ev l (h + 1) m_R_inRiver 4 ([.ref 119, .int a1, .int 0, .int 0], [], st mi ml z) (qI Q)) : CI l (h + 1) m_R_inRiver [.ref 119, .int a1] mi ml z Q := by
  show Ev l (h + 1) m_R_inRiver 0 ([.ref 119, .int a1, .retAddr 0, .retAddr 0], [], st mi ml z) (qI Q)
  refine ev_iconst (v := 0) rfl (a_dec_at dc_R_inRiver 0 rfl) ?_
  refine ev_istore_n (i := 2) rfl (by decide) rfl (a_dec_at dc_R_inRiver 1 rfl) ?_
  refine ev_iconst (v := 0) rfl (a_dec_at dc_R_inRiver 2 rfl) ?_
  refine ev_istore_n (i := 3) rfl (by decide) rfl (a_dec_at dc_R_inRiver 3 rfl) ?_
  exact Ev.drop (L' := [.ref 119, .int a1, .int 0, .int 0]) (And.intro rfl (And.intro rfl (And.intro rfl (And.intro rfl trivial)))) H
set_option maxRecDepth 20000 in
theorem t_R_inRiver_4 {l : Launch} {h : Nat} (mi : TMi) (ml : TMl) (z : Nat) (v1 : Int32) (v2 : Int32) (v3 : Int32) {Q : Int32 → TMi → TMl → Nat → Prop} (H : ((6 ≤ v3 → Q v2 mi ml z) ∧ (¬ 6 ≤ v3 → (vp_in (29 + v3) 1371) ∧ ((¬ (mi 123 ((29 + v3).toNatClampNeg)) = v1 → Ev l (h + 1) m_R_inRiver 4 ([.ref 119, .int v1, .int (v2 + 0), .int (v3 + 1)], [], st mi ml z) (qI Q)) ∧ ((mi 123 ((29 + v3).toNatClampNeg)) = v1 → Ev l (h + 1) m_R_inRiver 4 ([.ref 119, .int v1, .int (v2 + 1), .int (v3 + 1)], [], st mi ml z) (qI Q)))))) : Ev l (h + 1) m_R_inRiver 4 ([.ref 119, .int v1, .int v2, .int v3], [], st mi ml z) (qI Q) := by
  refine ev_iload_n (i := 3) rfl rfl (a_dec_at dc_R_inRiver 4 rfl) ?_
  refine ev_bipush (v := 6) rfl (a_dec_at dc_R_inRiver 5 rfl) ?_
  refine ev_icmp_ge (tgt := 37) (a_dec_at dc_R_inRiver 6 rfl) (by decide) (fun b1 => ?_) (fun b1 => ?_)
  · have H := H.1 b1
    refine ev_iload_n (i := 2) rfl rfl (a_dec_at dc_R_inRiver 23 rfl) ?_
    exact m_retI (a_dec_at dc_R_inRiver 24 rfl) rfl rfl H
  · have H := H.2 b1
    refine ev_iload_n (i := 2) rfl rfl (a_dec_at dc_R_inRiver 7 rfl) ?_
    refine ev_aload_n (i := 0) rfl rfl (a_dec_at dc_R_inRiver 8 rfl) ?_
    refine m_getR (y := 123) fl_R_24 rfl sh119 (mr_119_4 _) (by decide) (a_dec_at dc_R_inRiver 9 rfl) ?_
    refine ev_bipush (v := 29) rfl (a_dec_at dc_R_inRiver 10 rfl) ?_
    refine ev_iload_n (i := 3) rfl rfl (a_dec_at dc_R_inRiver 11 rfl) ?_
    refine ev_iadd (a_dec_at dc_R_inRiver 12 rfl) ?_
    obtain ⟨c2, H⟩ := H
    refine w_iald (k := (29 + v3).toNatClampNeg) sh123 c2 rfl (a_dec_at dc_R_inRiver 13 rfl) ?_
    refine ev_iload_n (i := 1) rfl rfl (a_dec_at dc_R_inRiver 14 rfl) ?_
    refine ev_icmp_ne (tgt := 28) (a_dec_at dc_R_inRiver 15 rfl) (by decide) (fun b3 => ?_) (fun b3 => ?_)
    · have H := H.1 b3
      refine ev_iconst (v := 0) rfl (a_dec_at dc_R_inRiver 18 rfl) ?_
      refine ev_iadd (a_dec_at dc_R_inRiver 19 rfl) ?_
      refine ev_istore_n (i := 2) rfl (by decide) rfl (a_dec_at dc_R_inRiver 20 rfl) ?_
      refine ev_iinc (v := 1) rfl rfl (by decide) rfl (a_dec_at dc_R_inRiver 21 rfl) ?_
      refine ev_goto (tgt := 4) (a_dec_at dc_R_inRiver 22 rfl) (by decide) ?_
      exact Ev.drop (L' := [.ref 119, .int v1, .int (v2 + 0), .int (v3 + 1)]) (And.intro rfl (And.intro rfl (And.intro rfl (And.intro rfl trivial)))) H
    · have H := H.2 b3
      refine ev_iconst (v := 1) rfl (a_dec_at dc_R_inRiver 16 rfl) ?_
      refine ev_goto (tgt := 29) (a_dec_at dc_R_inRiver 17 rfl) (by decide) ?_
      refine ev_iadd (a_dec_at dc_R_inRiver 19 rfl) ?_
      refine ev_istore_n (i := 2) rfl (by decide) rfl (a_dec_at dc_R_inRiver 20 rfl) ?_
      refine ev_iinc (v := 1) rfl rfl (by decide) rfl (a_dec_at dc_R_inRiver 21 rfl) ?_
      refine ev_goto (tgt := 4) (a_dec_at dc_R_inRiver 22 rfl) (by decide) ?_
      exact Ev.drop (L' := [.ref 119, .int v1, .int (v2 + 1), .int (v3 + 1)]) (And.intro rfl (And.intro rfl (And.intro rfl (And.intro rfl trivial)))) H
set_option maxRecDepth 20000 in
theorem t_R_readRiver {l : Launch} {h : Nat} (mi : TMi) (ml : TMl) (z : Nat) {Q : TMi → TMl → Nat → Prop} (H : ((¬ (mi 123 2) = 4 → (((mi 119 11) = 0 → CV l h m_R_next [.ref 119] mi ml z (fun mi3 ml3 z3 => CI l h m_R_eats [.ref 119, .int 7] mi3 ml3 z3 (fun x4 mi4 ml4 z4 => ((¬ x4 = 0 → CI l h m_R_takesN [.ref 119, .int 0, .int 6] mi4 ml4 z4 (fun x6 mi6 ml6 z6 => (vp_in (41 + (mi 123 2)) 1371) ∧ (vp_in (25 + (mi 123 2)) 1371) ∧ Ev l (h + 1) m_R_readRiver 70 ([.ref 119, .int (mi 123 2), .retAddr 0], [], st (up (up mi6 123 ((41 + (mi 123 2)).toNatClampNeg) x6) 123 ((25 + (mi 123 2)).toNatClampNeg) 99) ml6 z6) (qV Q))) ∧ (x4 = 0 → CV l h m_R_fails [.ref 119, .int 2] mi4 ml4 z4 (fun mi9 ml9 z9 => CI l h m_R_takesN [.ref 119, .int 0, .int 6] mi9 ml9 z9 (fun x10 mi10 ml10 z10 => (vp_in (41 + (mi 123 2)) 1371) ∧ (vp_in (25 + (mi 123 2)) 1371) ∧ Ev l (h + 1) m_R_readRiver 70 ([.ref 119, .int (mi 123 2), .retAddr 0], [], st (up (up mi10 123 ((41 + (mi 123 2)).toNatClampNeg) x10) 123 ((25 + (mi 123 2)).toNatClampNeg) 99) ml10 z10) (qV Q)))))))) ∧ (¬ (mi 119 11) = 0 → Q mi ml z))) ∧ ((mi 123 2) = 4 → CV l h m_R_fails [.ref 119, .int 4] mi ml z (fun mi13 ml13 z13 => (((mi13 119 11) = 0 → CV l h m_R_next [.ref 119] mi13 ml13 z13 (fun mi15 ml15 z15 => CI l h m_R_eats [.ref 119, .int 7] mi15 ml15 z15 (fun x16 mi16 ml16 z16 => ((¬ x16 = 0 → CI l h m_R_takesN [.ref 119, .int 0, .int 6] mi16 ml16 z16 (fun x18 mi18 ml18 z18 => (vp_in (41 + (mi 123 2)) 1371) ∧ (vp_in (25 + (mi 123 2)) 1371) ∧ Ev l (h + 1) m_R_readRiver 70 ([.ref 119, .int (mi 123 2), .retAddr 0], [], st (up (up mi18 123 ((41 + (mi 123 2)).toNatClampNeg) x18) 123 ((25 + (mi 123 2)).toNatClampNeg) 99) ml18 z18) (qV Q))) ∧ (x16 = 0 → CV l h m_R_fails [.ref 119, .int 2] mi16 ml16 z16 (fun mi21 ml21 z21 => CI l h m_R_takesN [.ref 119, .int 0, .int 6] mi21 ml21 z21 (fun x22 mi22 ml22 z22 => (vp_in (41 + (mi 123 2)) 1371) ∧ (vp_in (25 + (mi 123 2)) 1371) ∧ Ev l (h + 1) m_R_readRiver 70 ([.ref 119, .int (mi 123 2), .retAddr 0], [], st (up (up mi22 123 ((41 + (mi 123 2)).toNatClampNeg) x22) 123 ((25 + (mi 123 2)).toNatClampNeg) 99) ml22 z22) (qV Q)))))))) ∧ (¬ (mi13 119 11) = 0 → Q mi13 ml13 z13)))))) : CV l (h + 1) m_R_readRiver [.ref 119] mi ml z Q := by
  show Ev l (h + 1) m_R_readRiver 0 ([.ref 119, .retAddr 0, .retAddr 0], [], st mi ml z) (qV Q)
  refine ev_aload_n (i := 0) rfl rfl (a_dec_at dc_R_readRiver 0 rfl) ?_
  refine m_getR (y := 123) fl_R_24 rfl sh119 (mr_119_4 _) (by decide) (a_dec_at dc_R_readRiver 1 rfl) ?_
  refine ev_iconst (v := 2) rfl (a_dec_at dc_R_readRiver 2 rfl) ?_
  refine w_iald (k := 2) sh123 (by unfold vp_in; decide) (by decide) (a_dec_at dc_R_readRiver 3 rfl) ?_
  refine ev_istore_n (i := 1) rfl (by decide) rfl (a_dec_at dc_R_readRiver 4 rfl) ?_
  refine ev_iload_n (i := 1) rfl rfl (a_dec_at dc_R_readRiver 5 rfl) ?_
  refine ev_iconst (v := 4) rfl (a_dec_at dc_R_readRiver 6 rfl) ?_
  refine ev_icmp_ne (tgt := 17) (a_dec_at dc_R_readRiver 7 rfl) (by decide) (fun b1 => ?_) (fun b1 => ?_)
  · have H := H.1 b1
    refine ev_aload_n (i := 0) rfl rfl (a_dec_at dc_R_readRiver 11 rfl) ?_
    refine m_getI fl_R_123 rfl sh119 (a_dec_at dc_R_readRiver 12 rfl) ?_
    refine ev_if_eq (tgt := 25) (a_dec_at dc_R_readRiver 13 rfl) (by decide) (fun b2 => ?_) (fun b2 => ?_)
    · have H := H.1 b2
      refine ev_aload_n (i := 0) rfl rfl (a_dec_at dc_R_readRiver 15 rfl) ?_
      refine cV0V cs_R_132 sh119 rfl (Nat.le_of_ble_eq_true rfl) (Nat.le_of_ble_eq_true rfl) (a_dec_at dc_R_readRiver 16 rfl) ?_
      refine CV.mono (fun mi3 ml3 z3 H => ?_) H
      refine ev_aload_n (i := 0) rfl rfl (a_dec_at dc_R_readRiver 17 rfl) ?_
      refine ev_bipush (v := 7) rfl (a_dec_at dc_R_readRiver 18 rfl) ?_
      refine cV1I cs_R_155 sh119 rfl (Nat.le_of_ble_eq_true rfl) (Nat.le_of_ble_eq_true rfl) (a_dec_at dc_R_readRiver 19 rfl) ?_
      refine CI.mono (fun x4 mi4 ml4 z4 H => ?_) H
      refine ev_if_ne (tgt := 43) (a_dec_at dc_R_readRiver 20 rfl) (by decide) (fun b5 => ?_) (fun b5 => ?_)
      · have H := H.1 b5
        refine ev_aload_n (i := 0) rfl rfl (a_dec_at dc_R_readRiver 24 rfl) ?_
        refine m_getR (y := 123) fl_R_24 rfl sh119 (mr_119_4 _) (by decide) (a_dec_at dc_R_readRiver 25 rfl) ?_
        refine ev_bipush (v := 41) rfl (a_dec_at dc_R_readRiver 26 rfl) ?_
        refine ev_iload_n (i := 1) rfl rfl (a_dec_at dc_R_readRiver 27 rfl) ?_
        refine ev_iadd (a_dec_at dc_R_readRiver 28 rfl) ?_
        refine ev_aload_n (i := 0) rfl rfl (a_dec_at dc_R_readRiver 29 rfl) ?_
        refine ev_iconst (v := 0) rfl (a_dec_at dc_R_readRiver 30 rfl) ?_
        refine ev_bipush (v := 6) rfl (a_dec_at dc_R_readRiver 31 rfl) ?_
        refine cV2I cs_R_179 sh119 rfl (Nat.le_of_ble_eq_true rfl) (Nat.le_of_ble_eq_true rfl) (a_dec_at dc_R_readRiver 32 rfl) ?_
        refine CI.mono (fun x6 mi6 ml6 z6 H => ?_) H
        obtain ⟨c7, H⟩ := H
        refine w_iast (k := (41 + (mi 123 2)).toNatClampNeg) sh123 c7 rfl (a_dec_at dc_R_readRiver 33 rfl) ?_
        refine ev_aload_n (i := 0) rfl rfl (a_dec_at dc_R_readRiver 34 rfl) ?_
        refine m_getR (y := 123) fl_R_24 rfl sh119 (mr_119_4 _) (by decide) (a_dec_at dc_R_readRiver 35 rfl) ?_
        refine ev_bipush (v := 25) rfl (a_dec_at dc_R_readRiver 36 rfl) ?_
        refine ev_iload_n (i := 1) rfl rfl (a_dec_at dc_R_readRiver 37 rfl) ?_
        refine ev_iadd (a_dec_at dc_R_readRiver 38 rfl) ?_
        refine ev_bipush (v := 99) rfl (a_dec_at dc_R_readRiver 39 rfl) ?_
        obtain ⟨c8, H⟩ := H
        refine w_iast (k := (25 + (mi 123 2)).toNatClampNeg) sh123 c8 rfl (a_dec_at dc_R_readRiver 40 rfl) ?_
        exact Ev.drop (L' := [.ref 119, .int (mi 123 2), .retAddr 0]) (And.intro rfl (And.intro rfl trivial)) H
      · have H := H.2 b5
        refine ev_aload_n (i := 0) rfl rfl (a_dec_at dc_R_readRiver 21 rfl) ?_
        refine ev_iconst (v := 2) rfl (a_dec_at dc_R_readRiver 22 rfl) ?_
        refine cV1V cs_R_135 sh119 rfl (Nat.le_of_ble_eq_true rfl) (Nat.le_of_ble_eq_true rfl) (a_dec_at dc_R_readRiver 23 rfl) ?_
        refine CV.mono (fun mi9 ml9 z9 H => ?_) H
        refine ev_aload_n (i := 0) rfl rfl (a_dec_at dc_R_readRiver 24 rfl) ?_
        refine m_getR (y := 123) fl_R_24 rfl sh119 (mr_119_4 _) (by decide) (a_dec_at dc_R_readRiver 25 rfl) ?_
        refine ev_bipush (v := 41) rfl (a_dec_at dc_R_readRiver 26 rfl) ?_
        refine ev_iload_n (i := 1) rfl rfl (a_dec_at dc_R_readRiver 27 rfl) ?_
        refine ev_iadd (a_dec_at dc_R_readRiver 28 rfl) ?_
        refine ev_aload_n (i := 0) rfl rfl (a_dec_at dc_R_readRiver 29 rfl) ?_
        refine ev_iconst (v := 0) rfl (a_dec_at dc_R_readRiver 30 rfl) ?_
        refine ev_bipush (v := 6) rfl (a_dec_at dc_R_readRiver 31 rfl) ?_
        refine cV2I cs_R_179 sh119 rfl (Nat.le_of_ble_eq_true rfl) (Nat.le_of_ble_eq_true rfl) (a_dec_at dc_R_readRiver 32 rfl) ?_
        refine CI.mono (fun x10 mi10 ml10 z10 H => ?_) H
        obtain ⟨c11, H⟩ := H
        refine w_iast (k := (41 + (mi 123 2)).toNatClampNeg) sh123 c11 rfl (a_dec_at dc_R_readRiver 33 rfl) ?_
        refine ev_aload_n (i := 0) rfl rfl (a_dec_at dc_R_readRiver 34 rfl) ?_
        refine m_getR (y := 123) fl_R_24 rfl sh119 (mr_119_4 _) (by decide) (a_dec_at dc_R_readRiver 35 rfl) ?_
        refine ev_bipush (v := 25) rfl (a_dec_at dc_R_readRiver 36 rfl) ?_
        refine ev_iload_n (i := 1) rfl rfl (a_dec_at dc_R_readRiver 37 rfl) ?_
        refine ev_iadd (a_dec_at dc_R_readRiver 38 rfl) ?_
        refine ev_bipush (v := 99) rfl (a_dec_at dc_R_readRiver 39 rfl) ?_
        obtain ⟨c12, H⟩ := H
        refine w_iast (k := (25 + (mi 123 2)).toNatClampNeg) sh123 c12 rfl (a_dec_at dc_R_readRiver 40 rfl) ?_
        exact Ev.drop (L' := [.ref 119, .int (mi 123 2), .retAddr 0]) (And.intro rfl (And.intro rfl trivial)) H
    · have H := H.2 b2
      exact m_retV (a_dec_at dc_R_readRiver 14 rfl) rfl H
  · have H := H.2 b1
    refine ev_aload_n (i := 0) rfl rfl (a_dec_at dc_R_readRiver 8 rfl) ?_
    refine ev_iconst (v := 4) rfl (a_dec_at dc_R_readRiver 9 rfl) ?_
    refine cV1V cs_R_135 sh119 rfl (Nat.le_of_ble_eq_true rfl) (Nat.le_of_ble_eq_true rfl) (a_dec_at dc_R_readRiver 10 rfl) ?_
    refine CV.mono (fun mi13 ml13 z13 H => ?_) H
    refine ev_aload_n (i := 0) rfl rfl (a_dec_at dc_R_readRiver 11 rfl) ?_
    refine m_getI fl_R_123 rfl sh119 (a_dec_at dc_R_readRiver 12 rfl) ?_
    refine ev_if_eq (tgt := 25) (a_dec_at dc_R_readRiver 13 rfl) (by decide) (fun b14 => ?_) (fun b14 => ?_)
    · have H := H.1 b14
      refine ev_aload_n (i := 0) rfl rfl (a_dec_at dc_R_readRiver 15 rfl) ?_
      refine cV0V cs_R_132 sh119 rfl (Nat.le_of_ble_eq_true rfl) (Nat.le_of_ble_eq_true rfl) (a_dec_at dc_R_readRiver 16 rfl) ?_
      refine CV.mono (fun mi15 ml15 z15 H => ?_) H
      refine ev_aload_n (i := 0) rfl rfl (a_dec_at dc_R_readRiver 17 rfl) ?_
      refine ev_bipush (v := 7) rfl (a_dec_at dc_R_readRiver 18 rfl) ?_
      refine cV1I cs_R_155 sh119 rfl (Nat.le_of_ble_eq_true rfl) (Nat.le_of_ble_eq_true rfl) (a_dec_at dc_R_readRiver 19 rfl) ?_
      refine CI.mono (fun x16 mi16 ml16 z16 H => ?_) H
      refine ev_if_ne (tgt := 43) (a_dec_at dc_R_readRiver 20 rfl) (by decide) (fun b17 => ?_) (fun b17 => ?_)
      · have H := H.1 b17
        refine ev_aload_n (i := 0) rfl rfl (a_dec_at dc_R_readRiver 24 rfl) ?_
        refine m_getR (y := 123) fl_R_24 rfl sh119 (mr_119_4 _) (by decide) (a_dec_at dc_R_readRiver 25 rfl) ?_
        refine ev_bipush (v := 41) rfl (a_dec_at dc_R_readRiver 26 rfl) ?_
        refine ev_iload_n (i := 1) rfl rfl (a_dec_at dc_R_readRiver 27 rfl) ?_
        refine ev_iadd (a_dec_at dc_R_readRiver 28 rfl) ?_
        refine ev_aload_n (i := 0) rfl rfl (a_dec_at dc_R_readRiver 29 rfl) ?_
        refine ev_iconst (v := 0) rfl (a_dec_at dc_R_readRiver 30 rfl) ?_
        refine ev_bipush (v := 6) rfl (a_dec_at dc_R_readRiver 31 rfl) ?_
        refine cV2I cs_R_179 sh119 rfl (Nat.le_of_ble_eq_true rfl) (Nat.le_of_ble_eq_true rfl) (a_dec_at dc_R_readRiver 32 rfl) ?_
        refine CI.mono (fun x18 mi18 ml18 z18 H => ?_) H
        obtain ⟨c19, H⟩ := H
        refine w_iast (k := (41 + (mi 123 2)).toNatClampNeg) sh123 c19 rfl (a_dec_at dc_R_readRiver 33 rfl) ?_
        refine ev_aload_n (i := 0) rfl rfl (a_dec_at dc_R_readRiver 34 rfl) ?_
        refine m_getR (y := 123) fl_R_24 rfl sh119 (mr_119_4 _) (by decide) (a_dec_at dc_R_readRiver 35 rfl) ?_
        refine ev_bipush (v := 25) rfl (a_dec_at dc_R_readRiver 36 rfl) ?_
        refine ev_iload_n (i := 1) rfl rfl (a_dec_at dc_R_readRiver 37 rfl) ?_
        refine ev_iadd (a_dec_at dc_R_readRiver 38 rfl) ?_
        refine ev_bipush (v := 99) rfl (a_dec_at dc_R_readRiver 39 rfl) ?_
        obtain ⟨c20, H⟩ := H
        refine w_iast (k := (25 + (mi 123 2)).toNatClampNeg) sh123 c20 rfl (a_dec_at dc_R_readRiver 40 rfl) ?_
        exact Ev.drop (L' := [.ref 119, .int (mi 123 2), .retAddr 0]) (And.intro rfl (And.intro rfl trivial)) H
      · have H := H.2 b17
        refine ev_aload_n (i := 0) rfl rfl (a_dec_at dc_R_readRiver 21 rfl) ?_
        refine ev_iconst (v := 2) rfl (a_dec_at dc_R_readRiver 22 rfl) ?_
        refine cV1V cs_R_135 sh119 rfl (Nat.le_of_ble_eq_true rfl) (Nat.le_of_ble_eq_true rfl) (a_dec_at dc_R_readRiver 23 rfl) ?_
        refine CV.mono (fun mi21 ml21 z21 H => ?_) H
        refine ev_aload_n (i := 0) rfl rfl (a_dec_at dc_R_readRiver 24 rfl) ?_
        refine m_getR (y := 123) fl_R_24 rfl sh119 (mr_119_4 _) (by decide) (a_dec_at dc_R_readRiver 25 rfl) ?_
        refine ev_bipush (v := 41) rfl (a_dec_at dc_R_readRiver 26 rfl) ?_
        refine ev_iload_n (i := 1) rfl rfl (a_dec_at dc_R_readRiver 27 rfl) ?_
        refine ev_iadd (a_dec_at dc_R_readRiver 28 rfl) ?_
        refine ev_aload_n (i := 0) rfl rfl (a_dec_at dc_R_readRiver 29 rfl) ?_
        refine ev_iconst (v := 0) rfl (a_dec_at dc_R_readRiver 30 rfl) ?_
        refine ev_bipush (v := 6) rfl (a_dec_at dc_R_readRiver 31 rfl) ?_
        refine cV2I cs_R_179 sh119 rfl (Nat.le_of_ble_eq_true rfl) (Nat.le_of_ble_eq_true rfl) (a_dec_at dc_R_readRiver 32 rfl) ?_
        refine CI.mono (fun x22 mi22 ml22 z22 H => ?_) H
        obtain ⟨c23, H⟩ := H
        refine w_iast (k := (41 + (mi 123 2)).toNatClampNeg) sh123 c23 rfl (a_dec_at dc_R_readRiver 33 rfl) ?_
        refine ev_aload_n (i := 0) rfl rfl (a_dec_at dc_R_readRiver 34 rfl) ?_
        refine m_getR (y := 123) fl_R_24 rfl sh119 (mr_119_4 _) (by decide) (a_dec_at dc_R_readRiver 35 rfl) ?_
        refine ev_bipush (v := 25) rfl (a_dec_at dc_R_readRiver 36 rfl) ?_
        refine ev_iload_n (i := 1) rfl rfl (a_dec_at dc_R_readRiver 37 rfl) ?_
        refine ev_iadd (a_dec_at dc_R_readRiver 38 rfl) ?_
        refine ev_bipush (v := 99) rfl (a_dec_at dc_R_readRiver 39 rfl) ?_
        obtain ⟨c24, H⟩ := H
        refine w_iast (k := (25 + (mi 123 2)).toNatClampNeg) sh123 c24 rfl (a_dec_at dc_R_readRiver 40 rfl) ?_
        exact Ev.drop (L' := [.ref 119, .int (mi 123 2), .retAddr 0]) (And.intro rfl (And.intro rfl trivial)) H
    · have H := H.2 b14
      exact m_retV (a_dec_at dc_R_readRiver 14 rfl) rfl H
set_option maxRecDepth 20000 in
theorem t_R_readRiver_70 {l : Launch} {h : Nat} (mi : TMi) (ml : TMl) (z : Nat) (v1 : Int32) {Q : TMi → TMl → Nat → Prop} (H : ((¬ (mi 119 11) = 0 → ((¬ (mi 119 11) = 0 → Q mi ml z) ∧ ((mi 119 11) = 0 → Q (up mi 123 2 ((mi 123 2) + 1)) ml z))) ∧ ((mi 119 11) = 0 → CI l h m_R_is [.ref 119, .int 8] mi ml z (fun x3 mi3 ml3 z3 => ((¬ x3 = 0 → CI l h m_R_is [.ref 119, .int 8] mi3 ml3 z3 (fun x5 mi5 ml5 z5 => CV l h m_R_next [.ref 119] mi5 ml5 z5 (fun mi6 ml6 z6 => ((x5 = 0 → CI l h m_R_takesN [.ref 119, .int 0, .int 99] mi6 ml6 z6 (fun x8 mi8 ml8 z8 => (vp_in (25 + v1) 1371) ∧ Ev l (h + 1) m_R_readRiver 70 ([.ref 119, .int v1, .retAddr 0], [], st (up mi8 123 ((25 + v1).toNatClampNeg) x8) ml8 z8) (qV Q))) ∧ (¬ x5 = 0 → CI l h m_R_takesN [.ref 119, .int 0, .int 9] mi6 ml6 z6 (fun x10 mi10 ml10 z10 => (vp_in (21 + v1) 1371) ∧ Ev l (h + 1) m_R_readRiver 70 ([.ref 119, .int v1, .retAddr 0], [], st (up mi10 123 ((21 + v1).toNatClampNeg) x10) ml10 z10) (qV Q))))))) ∧ (x3 = 0 → CI l h m_R_is [.ref 119, .int 9] mi3 ml3 z3 (fun x12 mi12 ml12 z12 => ((x12 = 0 → ((¬ (mi12 119 11) = 0 → Q mi12 ml12 z12) ∧ ((mi12 119 11) = 0 → Q (up mi12 123 2 ((mi12 123 2) + 1)) ml12 z12))) ∧ (¬ x12 = 0 → CI l h m_R_is [.ref 119, .int 8] mi12 ml12 z12 (fun x15 mi15 ml15 z15 => CV l h m_R_next [.ref 119] mi15 ml15 z15 (fun mi16 ml16 z16 => ((x15 = 0 → CI l h m_R_takesN [.ref 119, .int 0, .int 99] mi16 ml16 z16 (fun x18 mi18 ml18 z18 => (vp_in (25 + v1) 1371) ∧ Ev l (h + 1) m_R_readRiver 70 ([.ref 119, .int v1, .retAddr 0], [], st (up mi18 123 ((25 + v1).toNatClampNeg) x18) ml18 z18) (qV Q))) ∧ (¬ x15 = 0 → CI l h m_R_takesN [.ref 119, .int 0, .int 9] mi16 ml16 z16 (fun x20 mi20 ml20 z20 => (vp_in (21 + v1) 1371) ∧ Ev l (h + 1) m_R_readRiver 70 ([.ref 119, .int v1, .retAddr 0], [], st (up mi20 123 ((21 + v1).toNatClampNeg) x20) ml20 z20) (qV Q))))))))))))))) : Ev l (h + 1) m_R_readRiver 70 ([.ref 119, .int v1, .retAddr 0], [], st mi ml z) (qV Q) := by
  refine ev_aload_n (i := 0) rfl rfl (a_dec_at dc_R_readRiver 41 rfl) ?_
  refine m_getI fl_R_123 rfl sh119 (a_dec_at dc_R_readRiver 42 rfl) ?_
  refine ev_if_ne (tgt := 148) (a_dec_at dc_R_readRiver 43 rfl) (by decide) (fun b1 => ?_) (fun b1 => ?_)
  · have H := H.1 b1
    refine ev_aload_n (i := 0) rfl rfl (a_dec_at dc_R_readRiver 82 rfl) ?_
    refine m_getI fl_R_123 rfl sh119 (a_dec_at dc_R_readRiver 83 rfl) ?_
    refine ev_if_ne (tgt := 165) (a_dec_at dc_R_readRiver 84 rfl) (by decide) (fun b2 => ?_) (fun b2 => ?_)
    · have H := H.1 b2
      exact m_retV (a_dec_at dc_R_readRiver 93 rfl) rfl H
    · have H := H.2 b2
      refine ev_aload_n (i := 0) rfl rfl (a_dec_at dc_R_readRiver 85 rfl) ?_
      refine m_getR (y := 123) fl_R_24 rfl sh119 (mr_119_4 _) (by decide) (a_dec_at dc_R_readRiver 86 rfl) ?_
      refine ev_iconst (v := 2) rfl (a_dec_at dc_R_readRiver 87 rfl) ?_
      refine ev_dup2 rfl rfl (a_dec_at dc_R_readRiver 88 rfl) ?_
      refine w_iald (k := 2) sh123 (by unfold vp_in; decide) (by decide) (a_dec_at dc_R_readRiver 89 rfl) ?_
      refine ev_iconst (v := 1) rfl (a_dec_at dc_R_readRiver 90 rfl) ?_
      refine ev_iadd (a_dec_at dc_R_readRiver 91 rfl) ?_
      refine w_iast (k := 2) sh123 (by unfold vp_in; decide) (by decide) (a_dec_at dc_R_readRiver 92 rfl) ?_
      exact m_retV (a_dec_at dc_R_readRiver 93 rfl) rfl H
  · have H := H.2 b1
    refine ev_aload_n (i := 0) rfl rfl (a_dec_at dc_R_readRiver 44 rfl) ?_
    refine ev_bipush (v := 8) rfl (a_dec_at dc_R_readRiver 45 rfl) ?_
    refine cV1I cs_R_129 sh119 rfl (Nat.le_of_ble_eq_true rfl) (Nat.le_of_ble_eq_true rfl) (a_dec_at dc_R_readRiver 46 rfl) ?_
    refine CI.mono (fun x3 mi3 ml3 z3 H => ?_) H
    refine ev_if_ne (tgt := 95) (a_dec_at dc_R_readRiver 47 rfl) (by decide) (fun b4 => ?_) (fun b4 => ?_)
    · have H := H.1 b4
      refine ev_aload_n (i := 0) rfl rfl (a_dec_at dc_R_readRiver 52 rfl) ?_
      refine ev_bipush (v := 8) rfl (a_dec_at dc_R_readRiver 53 rfl) ?_
      refine cV1I cs_R_129 sh119 rfl (Nat.le_of_ble_eq_true rfl) (Nat.le_of_ble_eq_true rfl) (a_dec_at dc_R_readRiver 54 rfl) ?_
      refine CI.mono (fun x5 mi5 ml5 z5 H => ?_) H
      refine ev_istore_n (i := 2) rfl (by decide) rfl (a_dec_at dc_R_readRiver 55 rfl) ?_
      refine ev_aload_n (i := 0) rfl rfl (a_dec_at dc_R_readRiver 56 rfl) ?_
      refine cV0V cs_R_132 sh119 rfl (Nat.le_of_ble_eq_true rfl) (Nat.le_of_ble_eq_true rfl) (a_dec_at dc_R_readRiver 57 rfl) ?_
      refine CV.mono (fun mi6 ml6 z6 H => ?_) H
      refine ev_iload_n (i := 2) rfl rfl (a_dec_at dc_R_readRiver 58 rfl) ?_
      refine ev_if_eq (tgt := 129) (a_dec_at dc_R_readRiver 59 rfl) (by decide) (fun b7 => ?_) (fun b7 => ?_)
      · have H := H.1 b7
        refine ev_aload_n (i := 0) rfl rfl (a_dec_at dc_R_readRiver 71 rfl) ?_
        refine m_getR (y := 123) fl_R_24 rfl sh119 (mr_119_4 _) (by decide) (a_dec_at dc_R_readRiver 72 rfl) ?_
        refine ev_bipush (v := 25) rfl (a_dec_at dc_R_readRiver 73 rfl) ?_
        refine ev_iload_n (i := 1) rfl rfl (a_dec_at dc_R_readRiver 74 rfl) ?_
        refine ev_iadd (a_dec_at dc_R_readRiver 75 rfl) ?_
        refine ev_aload_n (i := 0) rfl rfl (a_dec_at dc_R_readRiver 76 rfl) ?_
        refine ev_iconst (v := 0) rfl (a_dec_at dc_R_readRiver 77 rfl) ?_
        refine ev_bipush (v := 99) rfl (a_dec_at dc_R_readRiver 78 rfl) ?_
        refine cV2I cs_R_179 sh119 rfl (Nat.le_of_ble_eq_true rfl) (Nat.le_of_ble_eq_true rfl) (a_dec_at dc_R_readRiver 79 rfl) ?_
        refine CI.mono (fun x8 mi8 ml8 z8 H => ?_) H
        obtain ⟨c9, H⟩ := H
        refine w_iast (k := (25 + v1).toNatClampNeg) sh123 c9 rfl (a_dec_at dc_R_readRiver 80 rfl) ?_
        refine ev_goto (tgt := 70) (a_dec_at dc_R_readRiver 81 rfl) (by decide) ?_
        exact Ev.drop (L' := [.ref 119, .int v1, .retAddr 0]) (And.intro rfl (And.intro rfl trivial)) H
      · have H := H.2 b7
        refine ev_aload_n (i := 0) rfl rfl (a_dec_at dc_R_readRiver 60 rfl) ?_
        refine m_getR (y := 123) fl_R_24 rfl sh119 (mr_119_4 _) (by decide) (a_dec_at dc_R_readRiver 61 rfl) ?_
        refine ev_bipush (v := 21) rfl (a_dec_at dc_R_readRiver 62 rfl) ?_
        refine ev_iload_n (i := 1) rfl rfl (a_dec_at dc_R_readRiver 63 rfl) ?_
        refine ev_iadd (a_dec_at dc_R_readRiver 64 rfl) ?_
        refine ev_aload_n (i := 0) rfl rfl (a_dec_at dc_R_readRiver 65 rfl) ?_
        refine ev_iconst (v := 0) rfl (a_dec_at dc_R_readRiver 66 rfl) ?_
        refine ev_bipush (v := 9) rfl (a_dec_at dc_R_readRiver 67 rfl) ?_
        refine cV2I cs_R_179 sh119 rfl (Nat.le_of_ble_eq_true rfl) (Nat.le_of_ble_eq_true rfl) (a_dec_at dc_R_readRiver 68 rfl) ?_
        refine CI.mono (fun x10 mi10 ml10 z10 H => ?_) H
        obtain ⟨c11, H⟩ := H
        refine w_iast (k := (21 + v1).toNatClampNeg) sh123 c11 rfl (a_dec_at dc_R_readRiver 69 rfl) ?_
        refine ev_goto (tgt := 145) (a_dec_at dc_R_readRiver 70 rfl) (by decide) ?_
        refine ev_goto (tgt := 70) (a_dec_at dc_R_readRiver 81 rfl) (by decide) ?_
        exact Ev.drop (L' := [.ref 119, .int v1, .retAddr 0]) (And.intro rfl (And.intro rfl trivial)) H
    · have H := H.2 b4
      refine ev_aload_n (i := 0) rfl rfl (a_dec_at dc_R_readRiver 48 rfl) ?_
      refine ev_bipush (v := 9) rfl (a_dec_at dc_R_readRiver 49 rfl) ?_
      refine cV1I cs_R_129 sh119 rfl (Nat.le_of_ble_eq_true rfl) (Nat.le_of_ble_eq_true rfl) (a_dec_at dc_R_readRiver 50 rfl) ?_
      refine CI.mono (fun x12 mi12 ml12 z12 H => ?_) H
      refine ev_if_eq (tgt := 148) (a_dec_at dc_R_readRiver 51 rfl) (by decide) (fun b13 => ?_) (fun b13 => ?_)
      · have H := H.1 b13
        refine ev_aload_n (i := 0) rfl rfl (a_dec_at dc_R_readRiver 82 rfl) ?_
        refine m_getI fl_R_123 rfl sh119 (a_dec_at dc_R_readRiver 83 rfl) ?_
        refine ev_if_ne (tgt := 165) (a_dec_at dc_R_readRiver 84 rfl) (by decide) (fun b14 => ?_) (fun b14 => ?_)
        · have H := H.1 b14
          exact m_retV (a_dec_at dc_R_readRiver 93 rfl) rfl H
        · have H := H.2 b14
          refine ev_aload_n (i := 0) rfl rfl (a_dec_at dc_R_readRiver 85 rfl) ?_
          refine m_getR (y := 123) fl_R_24 rfl sh119 (mr_119_4 _) (by decide) (a_dec_at dc_R_readRiver 86 rfl) ?_
          refine ev_iconst (v := 2) rfl (a_dec_at dc_R_readRiver 87 rfl) ?_
          refine ev_dup2 rfl rfl (a_dec_at dc_R_readRiver 88 rfl) ?_
          refine w_iald (k := 2) sh123 (by unfold vp_in; decide) (by decide) (a_dec_at dc_R_readRiver 89 rfl) ?_
          refine ev_iconst (v := 1) rfl (a_dec_at dc_R_readRiver 90 rfl) ?_
          refine ev_iadd (a_dec_at dc_R_readRiver 91 rfl) ?_
          refine w_iast (k := 2) sh123 (by unfold vp_in; decide) (by decide) (a_dec_at dc_R_readRiver 92 rfl) ?_
          exact m_retV (a_dec_at dc_R_readRiver 93 rfl) rfl H
      · have H := H.2 b13
        refine ev_aload_n (i := 0) rfl rfl (a_dec_at dc_R_readRiver 52 rfl) ?_
        refine ev_bipush (v := 8) rfl (a_dec_at dc_R_readRiver 53 rfl) ?_
        refine cV1I cs_R_129 sh119 rfl (Nat.le_of_ble_eq_true rfl) (Nat.le_of_ble_eq_true rfl) (a_dec_at dc_R_readRiver 54 rfl) ?_
        refine CI.mono (fun x15 mi15 ml15 z15 H => ?_) H
        refine ev_istore_n (i := 2) rfl (by decide) rfl (a_dec_at dc_R_readRiver 55 rfl) ?_
        refine ev_aload_n (i := 0) rfl rfl (a_dec_at dc_R_readRiver 56 rfl) ?_
        refine cV0V cs_R_132 sh119 rfl (Nat.le_of_ble_eq_true rfl) (Nat.le_of_ble_eq_true rfl) (a_dec_at dc_R_readRiver 57 rfl) ?_
        refine CV.mono (fun mi16 ml16 z16 H => ?_) H
        refine ev_iload_n (i := 2) rfl rfl (a_dec_at dc_R_readRiver 58 rfl) ?_
        refine ev_if_eq (tgt := 129) (a_dec_at dc_R_readRiver 59 rfl) (by decide) (fun b17 => ?_) (fun b17 => ?_)
        · have H := H.1 b17
          refine ev_aload_n (i := 0) rfl rfl (a_dec_at dc_R_readRiver 71 rfl) ?_
          refine m_getR (y := 123) fl_R_24 rfl sh119 (mr_119_4 _) (by decide) (a_dec_at dc_R_readRiver 72 rfl) ?_
          refine ev_bipush (v := 25) rfl (a_dec_at dc_R_readRiver 73 rfl) ?_
          refine ev_iload_n (i := 1) rfl rfl (a_dec_at dc_R_readRiver 74 rfl) ?_
          refine ev_iadd (a_dec_at dc_R_readRiver 75 rfl) ?_
          refine ev_aload_n (i := 0) rfl rfl (a_dec_at dc_R_readRiver 76 rfl) ?_
          refine ev_iconst (v := 0) rfl (a_dec_at dc_R_readRiver 77 rfl) ?_
          refine ev_bipush (v := 99) rfl (a_dec_at dc_R_readRiver 78 rfl) ?_
          refine cV2I cs_R_179 sh119 rfl (Nat.le_of_ble_eq_true rfl) (Nat.le_of_ble_eq_true rfl) (a_dec_at dc_R_readRiver 79 rfl) ?_
          refine CI.mono (fun x18 mi18 ml18 z18 H => ?_) H
          obtain ⟨c19, H⟩ := H
          refine w_iast (k := (25 + v1).toNatClampNeg) sh123 c19 rfl (a_dec_at dc_R_readRiver 80 rfl) ?_
          refine ev_goto (tgt := 70) (a_dec_at dc_R_readRiver 81 rfl) (by decide) ?_
          exact Ev.drop (L' := [.ref 119, .int v1, .retAddr 0]) (And.intro rfl (And.intro rfl trivial)) H
        · have H := H.2 b17
          refine ev_aload_n (i := 0) rfl rfl (a_dec_at dc_R_readRiver 60 rfl) ?_
          refine m_getR (y := 123) fl_R_24 rfl sh119 (mr_119_4 _) (by decide) (a_dec_at dc_R_readRiver 61 rfl) ?_
          refine ev_bipush (v := 21) rfl (a_dec_at dc_R_readRiver 62 rfl) ?_
          refine ev_iload_n (i := 1) rfl rfl (a_dec_at dc_R_readRiver 63 rfl) ?_
          refine ev_iadd (a_dec_at dc_R_readRiver 64 rfl) ?_
          refine ev_aload_n (i := 0) rfl rfl (a_dec_at dc_R_readRiver 65 rfl) ?_
          refine ev_iconst (v := 0) rfl (a_dec_at dc_R_readRiver 66 rfl) ?_
          refine ev_bipush (v := 9) rfl (a_dec_at dc_R_readRiver 67 rfl) ?_
          refine cV2I cs_R_179 sh119 rfl (Nat.le_of_ble_eq_true rfl) (Nat.le_of_ble_eq_true rfl) (a_dec_at dc_R_readRiver 68 rfl) ?_
          refine CI.mono (fun x20 mi20 ml20 z20 H => ?_) H
          obtain ⟨c21, H⟩ := H
          refine w_iast (k := (21 + v1).toNatClampNeg) sh123 c21 rfl (a_dec_at dc_R_readRiver 69 rfl) ?_
          refine ev_goto (tgt := 145) (a_dec_at dc_R_readRiver 70 rfl) (by decide) ?_
          refine ev_goto (tgt := 70) (a_dec_at dc_R_readRiver 81 rfl) (by decide) ?_
          exact Ev.drop (L' := [.ref 119, .int v1, .retAddr 0]) (And.intro rfl (And.intro rfl trivial)) H
set_option maxRecDepth 20000 in
theorem t_R_readLaw {l : Launch} {h : Nat} (mi : TMi) (ml : TMl) (z : Nat) (a1 : Int32) {Q : TMi → TMl → Nat → Prop} (H : CV l h m_R_next [.ref 119] mi ml z (fun mi1 ml1 z1 => CI l h m_R_eats [.ref 119, .int 31] mi1 ml1 z1 (fun x2 mi2 ml2 z2 => ((¬ x2 = 0 → CV l h m_R_readSum [.ref 119, .int 0] mi2 ml2 z2 (fun mi4 ml4 z4 => (((mi4 119 11) = 0 → (vp_in (3 + a1) 1371) ∧ (vp_in (5 + a1) 1371) ∧ (vp_in (7 + a1) 1371) ∧ Q (up (up (up mi4 123 ((3 + a1).toNatClampNeg) 1) 123 ((5 + a1).toNatClampNeg) (mi2 123 470)) 123 ((7 + a1).toNatClampNeg) (((up (up mi4 123 ((3 + a1).toNatClampNeg) 1) 123 ((5 + a1).toNatClampNeg) (mi2 123 470)) 123 470) - (mi2 123 470))) ml4 z4) ∧ (¬ (mi4 119 11) = 0 → Q mi4 ml4 z4)))) ∧ (x2 = 0 → CV l h m_R_fails [.ref 119, .int 2] mi2 ml2 z2 (fun mi9 ml9 z9 => CV l h m_R_readSum [.ref 119, .int 0] mi9 ml9 z9 (fun mi10 ml10 z10 => (((mi10 119 11) = 0 → (vp_in (3 + a1) 1371) ∧ (vp_in (5 + a1) 1371) ∧ (vp_in (7 + a1) 1371) ∧ Q (up (up (up mi10 123 ((3 + a1).toNatClampNeg) 1) 123 ((5 + a1).toNatClampNeg) (mi9 123 470)) 123 ((7 + a1).toNatClampNeg) (((up (up mi10 123 ((3 + a1).toNatClampNeg) 1) 123 ((5 + a1).toNatClampNeg) (mi9 123 470)) 123 470) - (mi9 123 470))) ml10 z10) ∧ (¬ (mi10 119 11) = 0 → Q mi10 ml10 z10))))))))) : CV l (h + 1) m_R_readLaw [.ref 119, .int a1] mi ml z Q := by
  show Ev l (h + 1) m_R_readLaw 0 ([.ref 119, .int a1, .retAddr 0], [], st mi ml z) (qV Q)
  refine ev_aload_n (i := 0) rfl rfl (a_dec_at dc_R_readLaw 0 rfl) ?_
  refine cV0V cs_R_132 sh119 rfl (Nat.le_of_ble_eq_true rfl) (Nat.le_of_ble_eq_true rfl) (a_dec_at dc_R_readLaw 1 rfl) ?_
  refine CV.mono (fun mi1 ml1 z1 H => ?_) H
  refine ev_aload_n (i := 0) rfl rfl (a_dec_at dc_R_readLaw 2 rfl) ?_
  refine ev_bipush (v := 31) rfl (a_dec_at dc_R_readLaw 3 rfl) ?_
  refine cV1I cs_R_155 sh119 rfl (Nat.le_of_ble_eq_true rfl) (Nat.le_of_ble_eq_true rfl) (a_dec_at dc_R_readLaw 4 rfl) ?_
  refine CI.mono (fun x2 mi2 ml2 z2 H => ?_) H
  refine ev_if_ne (tgt := 18) (a_dec_at dc_R_readLaw 5 rfl) (by decide) (fun b3 => ?_) (fun b3 => ?_)
  · have H := H.1 b3
    refine ev_aload_n (i := 0) rfl rfl (a_dec_at dc_R_readLaw 9 rfl) ?_
    refine m_getR (y := 123) fl_R_24 rfl sh119 (mr_119_4 _) (by decide) (a_dec_at dc_R_readLaw 10 rfl) ?_
    refine ev_sipush (v := 470) rfl (a_dec_at dc_R_readLaw 11 rfl) ?_
    refine w_iald (k := 470) sh123 (by unfold vp_in; decide) (by decide) (a_dec_at dc_R_readLaw 12 rfl) ?_
    refine ev_istore_n (i := 2) rfl (by decide) rfl (a_dec_at dc_R_readLaw 13 rfl) ?_
    refine ev_aload_n (i := 0) rfl rfl (a_dec_at dc_R_readLaw 14 rfl) ?_
    refine ev_iconst (v := 0) rfl (a_dec_at dc_R_readLaw 15 rfl) ?_
    refine cV1V cs_R_152 sh119 rfl (Nat.le_of_ble_eq_true rfl) (Nat.le_of_ble_eq_true rfl) (a_dec_at dc_R_readLaw 16 rfl) ?_
    refine CV.mono (fun mi4 ml4 z4 H => ?_) H
    refine ev_aload_n (i := 0) rfl rfl (a_dec_at dc_R_readLaw 17 rfl) ?_
    refine m_getI fl_R_123 rfl sh119 (a_dec_at dc_R_readLaw 18 rfl) ?_
    refine ev_if_eq (tgt := 40) (a_dec_at dc_R_readLaw 19 rfl) (by decide) (fun b5 => ?_) (fun b5 => ?_)
    · have H := H.1 b5
      refine ev_aload_n (i := 0) rfl rfl (a_dec_at dc_R_readLaw 21 rfl) ?_
      refine m_getR (y := 123) fl_R_24 rfl sh119 (mr_119_4 _) (by decide) (a_dec_at dc_R_readLaw 22 rfl) ?_
      refine ev_iconst (v := 3) rfl (a_dec_at dc_R_readLaw 23 rfl) ?_
      refine ev_iload_n (i := 1) rfl rfl (a_dec_at dc_R_readLaw 24 rfl) ?_
      refine ev_iadd (a_dec_at dc_R_readLaw 25 rfl) ?_
      refine ev_iconst (v := 1) rfl (a_dec_at dc_R_readLaw 26 rfl) ?_
      obtain ⟨c6, H⟩ := H
      refine w_iast (k := (3 + a1).toNatClampNeg) sh123 c6 rfl (a_dec_at dc_R_readLaw 27 rfl) ?_
      refine ev_aload_n (i := 0) rfl rfl (a_dec_at dc_R_readLaw 28 rfl) ?_
      refine m_getR (y := 123) fl_R_24 rfl sh119 (mr_119_4 _) (by decide) (a_dec_at dc_R_readLaw 29 rfl) ?_
      refine ev_iconst (v := 5) rfl (a_dec_at dc_R_readLaw 30 rfl) ?_
      refine ev_iload_n (i := 1) rfl rfl (a_dec_at dc_R_readLaw 31 rfl) ?_
      refine ev_iadd (a_dec_at dc_R_readLaw 32 rfl) ?_
      refine ev_iload_n (i := 2) rfl rfl (a_dec_at dc_R_readLaw 33 rfl) ?_
      obtain ⟨c7, H⟩ := H
      refine w_iast (k := (5 + a1).toNatClampNeg) sh123 c7 rfl (a_dec_at dc_R_readLaw 34 rfl) ?_
      refine ev_aload_n (i := 0) rfl rfl (a_dec_at dc_R_readLaw 35 rfl) ?_
      refine m_getR (y := 123) fl_R_24 rfl sh119 (mr_119_4 _) (by decide) (a_dec_at dc_R_readLaw 36 rfl) ?_
      refine ev_bipush (v := 7) rfl (a_dec_at dc_R_readLaw 37 rfl) ?_
      refine ev_iload_n (i := 1) rfl rfl (a_dec_at dc_R_readLaw 38 rfl) ?_
      refine ev_iadd (a_dec_at dc_R_readLaw 39 rfl) ?_
      refine ev_aload_n (i := 0) rfl rfl (a_dec_at dc_R_readLaw 40 rfl) ?_
      refine m_getR (y := 123) fl_R_24 rfl sh119 (mr_119_4 _) (by decide) (a_dec_at dc_R_readLaw 41 rfl) ?_
      refine ev_sipush (v := 470) rfl (a_dec_at dc_R_readLaw 42 rfl) ?_
      refine w_iald (k := 470) sh123 (by unfold vp_in; decide) (by decide) (a_dec_at dc_R_readLaw 43 rfl) ?_
      refine ev_iload_n (i := 2) rfl rfl (a_dec_at dc_R_readLaw 44 rfl) ?_
      refine ev_isub (a_dec_at dc_R_readLaw 45 rfl) ?_
      obtain ⟨c8, H⟩ := H
      refine w_iast (k := (7 + a1).toNatClampNeg) sh123 c8 rfl (a_dec_at dc_R_readLaw 46 rfl) ?_
      exact m_retV (a_dec_at dc_R_readLaw 47 rfl) rfl H
    · have H := H.2 b5
      exact m_retV (a_dec_at dc_R_readLaw 20 rfl) rfl H
  · have H := H.2 b3
    refine ev_aload_n (i := 0) rfl rfl (a_dec_at dc_R_readLaw 6 rfl) ?_
    refine ev_iconst (v := 2) rfl (a_dec_at dc_R_readLaw 7 rfl) ?_
    refine cV1V cs_R_135 sh119 rfl (Nat.le_of_ble_eq_true rfl) (Nat.le_of_ble_eq_true rfl) (a_dec_at dc_R_readLaw 8 rfl) ?_
    refine CV.mono (fun mi9 ml9 z9 H => ?_) H
    refine ev_aload_n (i := 0) rfl rfl (a_dec_at dc_R_readLaw 9 rfl) ?_
    refine m_getR (y := 123) fl_R_24 rfl sh119 (mr_119_4 _) (by decide) (a_dec_at dc_R_readLaw 10 rfl) ?_
    refine ev_sipush (v := 470) rfl (a_dec_at dc_R_readLaw 11 rfl) ?_
    refine w_iald (k := 470) sh123 (by unfold vp_in; decide) (by decide) (a_dec_at dc_R_readLaw 12 rfl) ?_
    refine ev_istore_n (i := 2) rfl (by decide) rfl (a_dec_at dc_R_readLaw 13 rfl) ?_
    refine ev_aload_n (i := 0) rfl rfl (a_dec_at dc_R_readLaw 14 rfl) ?_
    refine ev_iconst (v := 0) rfl (a_dec_at dc_R_readLaw 15 rfl) ?_
    refine cV1V cs_R_152 sh119 rfl (Nat.le_of_ble_eq_true rfl) (Nat.le_of_ble_eq_true rfl) (a_dec_at dc_R_readLaw 16 rfl) ?_
    refine CV.mono (fun mi10 ml10 z10 H => ?_) H
    refine ev_aload_n (i := 0) rfl rfl (a_dec_at dc_R_readLaw 17 rfl) ?_
    refine m_getI fl_R_123 rfl sh119 (a_dec_at dc_R_readLaw 18 rfl) ?_
    refine ev_if_eq (tgt := 40) (a_dec_at dc_R_readLaw 19 rfl) (by decide) (fun b11 => ?_) (fun b11 => ?_)
    · have H := H.1 b11
      refine ev_aload_n (i := 0) rfl rfl (a_dec_at dc_R_readLaw 21 rfl) ?_
      refine m_getR (y := 123) fl_R_24 rfl sh119 (mr_119_4 _) (by decide) (a_dec_at dc_R_readLaw 22 rfl) ?_
      refine ev_iconst (v := 3) rfl (a_dec_at dc_R_readLaw 23 rfl) ?_
      refine ev_iload_n (i := 1) rfl rfl (a_dec_at dc_R_readLaw 24 rfl) ?_
      refine ev_iadd (a_dec_at dc_R_readLaw 25 rfl) ?_
      refine ev_iconst (v := 1) rfl (a_dec_at dc_R_readLaw 26 rfl) ?_
      obtain ⟨c12, H⟩ := H
      refine w_iast (k := (3 + a1).toNatClampNeg) sh123 c12 rfl (a_dec_at dc_R_readLaw 27 rfl) ?_
      refine ev_aload_n (i := 0) rfl rfl (a_dec_at dc_R_readLaw 28 rfl) ?_
      refine m_getR (y := 123) fl_R_24 rfl sh119 (mr_119_4 _) (by decide) (a_dec_at dc_R_readLaw 29 rfl) ?_
      refine ev_iconst (v := 5) rfl (a_dec_at dc_R_readLaw 30 rfl) ?_
      refine ev_iload_n (i := 1) rfl rfl (a_dec_at dc_R_readLaw 31 rfl) ?_
      refine ev_iadd (a_dec_at dc_R_readLaw 32 rfl) ?_
      refine ev_iload_n (i := 2) rfl rfl (a_dec_at dc_R_readLaw 33 rfl) ?_
      obtain ⟨c13, H⟩ := H
      refine w_iast (k := (5 + a1).toNatClampNeg) sh123 c13 rfl (a_dec_at dc_R_readLaw 34 rfl) ?_
      refine ev_aload_n (i := 0) rfl rfl (a_dec_at dc_R_readLaw 35 rfl) ?_
      refine m_getR (y := 123) fl_R_24 rfl sh119 (mr_119_4 _) (by decide) (a_dec_at dc_R_readLaw 36 rfl) ?_
      refine ev_bipush (v := 7) rfl (a_dec_at dc_R_readLaw 37 rfl) ?_
      refine ev_iload_n (i := 1) rfl rfl (a_dec_at dc_R_readLaw 38 rfl) ?_
      refine ev_iadd (a_dec_at dc_R_readLaw 39 rfl) ?_
      refine ev_aload_n (i := 0) rfl rfl (a_dec_at dc_R_readLaw 40 rfl) ?_
      refine m_getR (y := 123) fl_R_24 rfl sh119 (mr_119_4 _) (by decide) (a_dec_at dc_R_readLaw 41 rfl) ?_
      refine ev_sipush (v := 470) rfl (a_dec_at dc_R_readLaw 42 rfl) ?_
      refine w_iald (k := 470) sh123 (by unfold vp_in; decide) (by decide) (a_dec_at dc_R_readLaw 43 rfl) ?_
      refine ev_iload_n (i := 2) rfl rfl (a_dec_at dc_R_readLaw 44 rfl) ?_
      refine ev_isub (a_dec_at dc_R_readLaw 45 rfl) ?_
      obtain ⟨c14, H⟩ := H
      refine w_iast (k := (7 + a1).toNatClampNeg) sh123 c14 rfl (a_dec_at dc_R_readLaw 46 rfl) ?_
      exact m_retV (a_dec_at dc_R_readLaw 47 rfl) rfl H
    · have H := H.2 b11
      exact m_retV (a_dec_at dc_R_readLaw 20 rfl) rfl H
set_option maxRecDepth 20000 in
theorem t_R_readSum {l : Launch} {h : Nat} (mi : TMi) (ml : TMl) (z : Nat) (a1 : Int32) {Q : TMi → TMl → Nat → Prop} (H : CV l h m_R_readTerm [.ref 119, .int a1] mi ml z (fun mi1 ml1 z1 => Ev l (h + 1) m_R_readSum 5 ([.ref 119, .int a1, .retAddr 0], [], st mi1 ml1 z1) (qV Q))) : CV l (h + 1) m_R_readSum [.ref 119, .int a1] mi ml z Q := by
  show Ev l (h + 1) m_R_readSum 0 ([.ref 119, .int a1, .retAddr 0], [], st mi ml z) (qV Q)
  refine ev_aload_n (i := 0) rfl rfl (a_dec_at dc_R_readSum 0 rfl) ?_
  refine ev_iload_n (i := 1) rfl rfl (a_dec_at dc_R_readSum 1 rfl) ?_
  refine cV1V cs_R_167 sh119 rfl (Nat.le_of_ble_eq_true rfl) (Nat.le_of_ble_eq_true rfl) (a_dec_at dc_R_readSum 2 rfl) ?_
  refine CV.mono (fun mi1 ml1 z1 H => ?_) H
  exact Ev.drop (L' := [.ref 119, .int a1, .retAddr 0]) (And.intro rfl (And.intro rfl trivial)) H
set_option maxRecDepth 20000 in
theorem t_R_readSum_5 {l : Launch} {h : Nat} (mi : TMi) (ml : TMl) (z : Nat) (v1 : Int32) {Q : TMi → TMl → Nat → Prop} (H : CI l h m_R_is [.ref 119, .int 32] mi ml z (fun x1 mi1 ml1 z1 => ((¬ x1 = 0 → ((¬ (mi1 119 9) = 32 → CV l h m_R_next [.ref 119] mi1 ml1 z1 (fun mi4 ml4 z4 => CV l h m_R_readTerm [.ref 119, .int v1] mi4 ml4 z4 (fun mi5 ml5 z5 => CV l h m_R_codes [.ref 119, .int 3001] mi5 ml5 z5 (fun mi6 ml6 z6 => Ev l (h + 1) m_R_readSum 5 ([.ref 119, .int v1, .retAddr 0], [], st mi6 ml6 z6) (qV Q))))) ∧ ((mi1 119 9) = 32 → CV l h m_R_next [.ref 119] mi1 ml1 z1 (fun mi7 ml7 z7 => CV l h m_R_readTerm [.ref 119, .int v1] mi7 ml7 z7 (fun mi8 ml8 z8 => CV l h m_R_codes [.ref 119, .int 3000] mi8 ml8 z8 (fun mi9 ml9 z9 => Ev l (h + 1) m_R_readSum 5 ([.ref 119, .int v1, .retAddr 0], [], st mi9 ml9 z9) (qV Q))))))) ∧ (x1 = 0 → CI l h m_R_is [.ref 119, .int 33] mi1 ml1 z1 (fun x10 mi10 ml10 z10 => ((x10 = 0 → Q mi10 ml10 z10) ∧ (¬ x10 = 0 → ((¬ (mi10 119 9) = 32 → CV l h m_R_next [.ref 119] mi10 ml10 z10 (fun mi13 ml13 z13 => CV l h m_R_readTerm [.ref 119, .int v1] mi13 ml13 z13 (fun mi14 ml14 z14 => CV l h m_R_codes [.ref 119, .int 3001] mi14 ml14 z14 (fun mi15 ml15 z15 => Ev l (h + 1) m_R_readSum 5 ([.ref 119, .int v1, .retAddr 0], [], st mi15 ml15 z15) (qV Q))))) ∧ ((mi10 119 9) = 32 → CV l h m_R_next [.ref 119] mi10 ml10 z10 (fun mi16 ml16 z16 => CV l h m_R_readTerm [.ref 119, .int v1] mi16 ml16 z16 (fun mi17 ml17 z17 => CV l h m_R_codes [.ref 119, .int 3000] mi17 ml17 z17 (fun mi18 ml18 z18 => Ev l (h + 1) m_R_readSum 5 ([.ref 119, .int v1, .retAddr 0], [], st mi18 ml18 z18) (qV Q))))))))))))) : Ev l (h + 1) m_R_readSum 5 ([.ref 119, .int v1, .retAddr 0], [], st mi ml z) (qV Q) := by
  refine ev_aload_n (i := 0) rfl rfl (a_dec_at dc_R_readSum 3 rfl) ?_
  refine ev_bipush (v := 32) rfl (a_dec_at dc_R_readSum 4 rfl) ?_
  refine cV1I cs_R_129 sh119 rfl (Nat.le_of_ble_eq_true rfl) (Nat.le_of_ble_eq_true rfl) (a_dec_at dc_R_readSum 5 rfl) ?_
  refine CI.mono (fun x1 mi1 ml1 z1 H => ?_) H
  refine ev_if_ne (tgt := 23) (a_dec_at dc_R_readSum 6 rfl) (by decide) (fun b2 => ?_) (fun b2 => ?_)
  · have H := H.1 b2
    refine ev_aload_n (i := 0) rfl rfl (a_dec_at dc_R_readSum 11 rfl) ?_
    refine m_getI fl_R_105 rfl sh119 (a_dec_at dc_R_readSum 12 rfl) ?_
    refine ev_bipush (v := 32) rfl (a_dec_at dc_R_readSum 13 rfl) ?_
    refine ev_icmp_ne (tgt := 38) (a_dec_at dc_R_readSum 14 rfl) (by decide) (fun b3 => ?_) (fun b3 => ?_)
    · have H := H.1 b3
      refine ev_sipush (v := 3001) rfl (a_dec_at dc_R_readSum 17 rfl) ?_
      refine ev_istore_n (i := 2) rfl (by decide) rfl (a_dec_at dc_R_readSum 18 rfl) ?_
      refine ev_aload_n (i := 0) rfl rfl (a_dec_at dc_R_readSum 19 rfl) ?_
      refine cV0V cs_R_132 sh119 rfl (Nat.le_of_ble_eq_true rfl) (Nat.le_of_ble_eq_true rfl) (a_dec_at dc_R_readSum 20 rfl) ?_
      refine CV.mono (fun mi4 ml4 z4 H => ?_) H
      refine ev_aload_n (i := 0) rfl rfl (a_dec_at dc_R_readSum 21 rfl) ?_
      refine ev_iload_n (i := 1) rfl rfl (a_dec_at dc_R_readSum 22 rfl) ?_
      refine cV1V cs_R_167 sh119 rfl (Nat.le_of_ble_eq_true rfl) (Nat.le_of_ble_eq_true rfl) (a_dec_at dc_R_readSum 23 rfl) ?_
      refine CV.mono (fun mi5 ml5 z5 H => ?_) H
      refine ev_aload_n (i := 0) rfl rfl (a_dec_at dc_R_readSum 24 rfl) ?_
      refine ev_iload_n (i := 2) rfl rfl (a_dec_at dc_R_readSum 25 rfl) ?_
      refine cV1V cs_R_143 sh119 rfl (Nat.le_of_ble_eq_true rfl) (Nat.le_of_ble_eq_true rfl) (a_dec_at dc_R_readSum 26 rfl) ?_
      refine CV.mono (fun mi6 ml6 z6 H => ?_) H
      refine ev_goto (tgt := 5) (a_dec_at dc_R_readSum 27 rfl) (by decide) ?_
      exact Ev.drop (L' := [.ref 119, .int v1, .retAddr 0]) (And.intro rfl (And.intro rfl trivial)) H
    · have H := H.2 b3
      refine ev_sipush (v := 3000) rfl (a_dec_at dc_R_readSum 15 rfl) ?_
      refine ev_goto (tgt := 41) (a_dec_at dc_R_readSum 16 rfl) (by decide) ?_
      refine ev_istore_n (i := 2) rfl (by decide) rfl (a_dec_at dc_R_readSum 18 rfl) ?_
      refine ev_aload_n (i := 0) rfl rfl (a_dec_at dc_R_readSum 19 rfl) ?_
      refine cV0V cs_R_132 sh119 rfl (Nat.le_of_ble_eq_true rfl) (Nat.le_of_ble_eq_true rfl) (a_dec_at dc_R_readSum 20 rfl) ?_
      refine CV.mono (fun mi7 ml7 z7 H => ?_) H
      refine ev_aload_n (i := 0) rfl rfl (a_dec_at dc_R_readSum 21 rfl) ?_
      refine ev_iload_n (i := 1) rfl rfl (a_dec_at dc_R_readSum 22 rfl) ?_
      refine cV1V cs_R_167 sh119 rfl (Nat.le_of_ble_eq_true rfl) (Nat.le_of_ble_eq_true rfl) (a_dec_at dc_R_readSum 23 rfl) ?_
      refine CV.mono (fun mi8 ml8 z8 H => ?_) H
      refine ev_aload_n (i := 0) rfl rfl (a_dec_at dc_R_readSum 24 rfl) ?_
      refine ev_iload_n (i := 2) rfl rfl (a_dec_at dc_R_readSum 25 rfl) ?_
      refine cV1V cs_R_143 sh119 rfl (Nat.le_of_ble_eq_true rfl) (Nat.le_of_ble_eq_true rfl) (a_dec_at dc_R_readSum 26 rfl) ?_
      refine CV.mono (fun mi9 ml9 z9 H => ?_) H
      refine ev_goto (tgt := 5) (a_dec_at dc_R_readSum 27 rfl) (by decide) ?_
      exact Ev.drop (L' := [.ref 119, .int v1, .retAddr 0]) (And.intro rfl (And.intro rfl trivial)) H
  · have H := H.2 b2
    refine ev_aload_n (i := 0) rfl rfl (a_dec_at dc_R_readSum 7 rfl) ?_
    refine ev_bipush (v := 33) rfl (a_dec_at dc_R_readSum 8 rfl) ?_
    refine cV1I cs_R_129 sh119 rfl (Nat.le_of_ble_eq_true rfl) (Nat.le_of_ble_eq_true rfl) (a_dec_at dc_R_readSum 9 rfl) ?_
    refine CI.mono (fun x10 mi10 ml10 z10 H => ?_) H
    refine ev_if_eq (tgt := 59) (a_dec_at dc_R_readSum 10 rfl) (by decide) (fun b11 => ?_) (fun b11 => ?_)
    · have H := H.1 b11
      exact m_retV (a_dec_at dc_R_readSum 28 rfl) rfl H
    · have H := H.2 b11
      refine ev_aload_n (i := 0) rfl rfl (a_dec_at dc_R_readSum 11 rfl) ?_
      refine m_getI fl_R_105 rfl sh119 (a_dec_at dc_R_readSum 12 rfl) ?_
      refine ev_bipush (v := 32) rfl (a_dec_at dc_R_readSum 13 rfl) ?_
      refine ev_icmp_ne (tgt := 38) (a_dec_at dc_R_readSum 14 rfl) (by decide) (fun b12 => ?_) (fun b12 => ?_)
      · have H := H.1 b12
        refine ev_sipush (v := 3001) rfl (a_dec_at dc_R_readSum 17 rfl) ?_
        refine ev_istore_n (i := 2) rfl (by decide) rfl (a_dec_at dc_R_readSum 18 rfl) ?_
        refine ev_aload_n (i := 0) rfl rfl (a_dec_at dc_R_readSum 19 rfl) ?_
        refine cV0V cs_R_132 sh119 rfl (Nat.le_of_ble_eq_true rfl) (Nat.le_of_ble_eq_true rfl) (a_dec_at dc_R_readSum 20 rfl) ?_
        refine CV.mono (fun mi13 ml13 z13 H => ?_) H
        refine ev_aload_n (i := 0) rfl rfl (a_dec_at dc_R_readSum 21 rfl) ?_
        refine ev_iload_n (i := 1) rfl rfl (a_dec_at dc_R_readSum 22 rfl) ?_
        refine cV1V cs_R_167 sh119 rfl (Nat.le_of_ble_eq_true rfl) (Nat.le_of_ble_eq_true rfl) (a_dec_at dc_R_readSum 23 rfl) ?_
        refine CV.mono (fun mi14 ml14 z14 H => ?_) H
        refine ev_aload_n (i := 0) rfl rfl (a_dec_at dc_R_readSum 24 rfl) ?_
        refine ev_iload_n (i := 2) rfl rfl (a_dec_at dc_R_readSum 25 rfl) ?_
        refine cV1V cs_R_143 sh119 rfl (Nat.le_of_ble_eq_true rfl) (Nat.le_of_ble_eq_true rfl) (a_dec_at dc_R_readSum 26 rfl) ?_
        refine CV.mono (fun mi15 ml15 z15 H => ?_) H
        refine ev_goto (tgt := 5) (a_dec_at dc_R_readSum 27 rfl) (by decide) ?_
        exact Ev.drop (L' := [.ref 119, .int v1, .retAddr 0]) (And.intro rfl (And.intro rfl trivial)) H
      · have H := H.2 b12
        refine ev_sipush (v := 3000) rfl (a_dec_at dc_R_readSum 15 rfl) ?_
        refine ev_goto (tgt := 41) (a_dec_at dc_R_readSum 16 rfl) (by decide) ?_
        refine ev_istore_n (i := 2) rfl (by decide) rfl (a_dec_at dc_R_readSum 18 rfl) ?_
        refine ev_aload_n (i := 0) rfl rfl (a_dec_at dc_R_readSum 19 rfl) ?_
        refine cV0V cs_R_132 sh119 rfl (Nat.le_of_ble_eq_true rfl) (Nat.le_of_ble_eq_true rfl) (a_dec_at dc_R_readSum 20 rfl) ?_
        refine CV.mono (fun mi16 ml16 z16 H => ?_) H
        refine ev_aload_n (i := 0) rfl rfl (a_dec_at dc_R_readSum 21 rfl) ?_
        refine ev_iload_n (i := 1) rfl rfl (a_dec_at dc_R_readSum 22 rfl) ?_
        refine cV1V cs_R_167 sh119 rfl (Nat.le_of_ble_eq_true rfl) (Nat.le_of_ble_eq_true rfl) (a_dec_at dc_R_readSum 23 rfl) ?_
        refine CV.mono (fun mi17 ml17 z17 H => ?_) H
        refine ev_aload_n (i := 0) rfl rfl (a_dec_at dc_R_readSum 24 rfl) ?_
        refine ev_iload_n (i := 2) rfl rfl (a_dec_at dc_R_readSum 25 rfl) ?_
        refine cV1V cs_R_143 sh119 rfl (Nat.le_of_ble_eq_true rfl) (Nat.le_of_ble_eq_true rfl) (a_dec_at dc_R_readSum 26 rfl) ?_
        refine CV.mono (fun mi18 ml18 z18 H => ?_) H
        refine ev_goto (tgt := 5) (a_dec_at dc_R_readSum 27 rfl) (by decide) ?_
        exact Ev.drop (L' := [.ref 119, .int v1, .retAddr 0]) (And.intro rfl (And.intro rfl trivial)) H
set_option maxRecDepth 20000 in
theorem t_R_readTerm {l : Launch} {h : Nat} (mi : TMi) (ml : TMl) (z : Nat) (a1 : Int32) {Q : TMi → TMl → Nat → Prop} (H : CV l h m_R_readAtom [.ref 119, .int a1] mi ml z (fun mi1 ml1 z1 => Ev l (h + 1) m_R_readTerm 5 ([.ref 119, .int a1], [], st mi1 ml1 z1) (qV Q))) : CV l (h + 1) m_R_readTerm [.ref 119, .int a1] mi ml z Q := by
  show Ev l (h + 1) m_R_readTerm 0 ([.ref 119, .int a1], [], st mi ml z) (qV Q)
  refine ev_aload_n (i := 0) rfl rfl (a_dec_at dc_R_readTerm 0 rfl) ?_
  refine ev_iload_n (i := 1) rfl rfl (a_dec_at dc_R_readTerm 1 rfl) ?_
  refine cV1V cs_R_164 sh119 rfl (Nat.le_of_ble_eq_true rfl) (Nat.le_of_ble_eq_true rfl) (a_dec_at dc_R_readTerm 2 rfl) ?_
  refine CV.mono (fun mi1 ml1 z1 H => ?_) H
  exact Ev.drop (L' := [.ref 119, .int a1]) (And.intro rfl (And.intro rfl trivial)) H
set_option maxRecDepth 20000 in
theorem t_R_readTerm_5 {l : Launch} {h : Nat} (mi : TMi) (ml : TMl) (z : Nat) (v1 : Int32) {Q : TMi → TMl → Nat → Prop} (H : CI l h m_R_eats [.ref 119, .int 34] mi ml z (fun x1 mi1 ml1 z1 => ((x1 = 0 → Q mi1 ml1 z1) ∧ (¬ x1 = 0 → CV l h m_R_readAtom [.ref 119, .int v1] mi1 ml1 z1 (fun mi3 ml3 z3 => CV l h m_R_codes [.ref 119, .int 3002] mi3 ml3 z3 (fun mi4 ml4 z4 => Ev l (h + 1) m_R_readTerm 5 ([.ref 119, .int v1], [], st mi4 ml4 z4) (qV Q))))))) : Ev l (h + 1) m_R_readTerm 5 ([.ref 119, .int v1], [], st mi ml z) (qV Q) := by
  refine ev_aload_n (i := 0) rfl rfl (a_dec_at dc_R_readTerm 3 rfl) ?_
  refine ev_bipush (v := 34) rfl (a_dec_at dc_R_readTerm 4 rfl) ?_
  refine cV1I cs_R_155 sh119 rfl (Nat.le_of_ble_eq_true rfl) (Nat.le_of_ble_eq_true rfl) (a_dec_at dc_R_readTerm 5 rfl) ?_
  refine CI.mono (fun x1 mi1 ml1 z1 H => ?_) H
  refine ev_if_eq (tgt := 29) (a_dec_at dc_R_readTerm 6 rfl) (by decide) (fun b2 => ?_) (fun b2 => ?_)
  · have H := H.1 b2
    exact m_retV (a_dec_at dc_R_readTerm 14 rfl) rfl H
  · have H := H.2 b2
    refine ev_aload_n (i := 0) rfl rfl (a_dec_at dc_R_readTerm 7 rfl) ?_
    refine ev_iload_n (i := 1) rfl rfl (a_dec_at dc_R_readTerm 8 rfl) ?_
    refine cV1V cs_R_164 sh119 rfl (Nat.le_of_ble_eq_true rfl) (Nat.le_of_ble_eq_true rfl) (a_dec_at dc_R_readTerm 9 rfl) ?_
    refine CV.mono (fun mi3 ml3 z3 H => ?_) H
    refine ev_aload_n (i := 0) rfl rfl (a_dec_at dc_R_readTerm 10 rfl) ?_
    refine ev_sipush (v := 3002) rfl (a_dec_at dc_R_readTerm 11 rfl) ?_
    refine cV1V cs_R_143 sh119 rfl (Nat.le_of_ble_eq_true rfl) (Nat.le_of_ble_eq_true rfl) (a_dec_at dc_R_readTerm 12 rfl) ?_
    refine CV.mono (fun mi4 ml4 z4 H => ?_) H
    refine ev_goto (tgt := 5) (a_dec_at dc_R_readTerm 13 rfl) (by decide) ?_
    exact Ev.drop (L' := [.ref 119, .int v1]) (And.intro rfl (And.intro rfl trivial)) H
set_option maxRecDepth 20000 in
theorem t_R_readAtom {l : Launch} {h : Nat} (mi : TMi) (ml : TMl) (z : Nat) (a1 : Int32) {Q : TMi → TMl → Nat → Prop} (H : CI l h m_R_is [.ref 119, .int 23] mi ml z (fun x1 mi1 ml1 z1 => ((x1 = 0 → ((¬ (mi1 119 11) = 0 → CI l h m_R_is [.ref 119, .int 35] mi1 ml1 z1 (fun x4 mi4 ml4 z4 => ((x4 = 0 → CI l h m_R_is [.ref 119, .int 12] mi4 ml4 z4 (fun x6 mi6 ml6 z6 => ((x6 = 0 → CV l h m_R_fails [.ref 119, .int 2] mi6 ml6 z6 (fun mi8 ml8 z8 => Q mi8 ml8 z8)) ∧ (¬ x6 = 0 → CV l h m_R_readIf [.ref 119, .int a1] mi6 ml6 z6 (fun mi9 ml9 z9 => Q mi9 ml9 z9))))) ∧ (¬ x4 = 0 → CI l h m_R_goesIn [.ref 119, .int a1] mi4 ml4 z4 (fun x10 mi10 ml10 z10 => ((¬ x10 = 0 → CV l h m_R_readSum [.ref 119, .int (a1 + 1)] mi10 ml10 z10 (fun mi12 ml12 z12 => CI l h m_R_eats [.ref 119, .int 36] mi12 ml12 z12 (fun x13 mi13 ml13 z13 => ((¬ x13 = 0 → Q mi13 ml13 z13) ∧ (x13 = 0 → CV l h m_R_fails [.ref 119, .int 2] mi13 ml13 z13 (fun mi15 ml15 z15 => Q mi15 ml15 z15)))))) ∧ (x10 = 0 → Q mi10 ml10 z10))))))) ∧ ((mi1 119 11) = 0 → CI l h m_R_wordOf [.ref 119, .int (mi1 119 9)] mi1 ml1 z1 (fun x16 mi16 ml16 z16 => ((x16 = (-1) → CI l h m_R_is [.ref 119, .int 35] mi16 ml16 z16 (fun x18 mi18 ml18 z18 => ((x18 = 0 → CI l h m_R_is [.ref 119, .int 12] mi18 ml18 z18 (fun x20 mi20 ml20 z20 => ((x20 = 0 → CV l h m_R_fails [.ref 119, .int 2] mi20 ml20 z20 (fun mi22 ml22 z22 => Q mi22 ml22 z22)) ∧ (¬ x20 = 0 → CV l h m_R_readIf [.ref 119, .int a1] mi20 ml20 z20 (fun mi23 ml23 z23 => Q mi23 ml23 z23))))) ∧ (¬ x18 = 0 → CI l h m_R_goesIn [.ref 119, .int a1] mi18 ml18 z18 (fun x24 mi24 ml24 z24 => ((¬ x24 = 0 → CV l h m_R_readSum [.ref 119, .int (a1 + 1)] mi24 ml24 z24 (fun mi26 ml26 z26 => CI l h m_R_eats [.ref 119, .int 36] mi26 ml26 z26 (fun x27 mi27 ml27 z27 => ((¬ x27 = 0 → Q mi27 ml27 z27) ∧ (x27 = 0 → CV l h m_R_fails [.ref 119, .int 2] mi27 ml27 z27 (fun mi29 ml29 z29 => Q mi29 ml29 z29)))))) ∧ (x24 = 0 → Q mi24 ml24 z24))))))) ∧ (¬ x16 = (-1) → CI l h m_R_wordOf [.ref 119, .int (mi16 119 9)] mi16 ml16 z16 (fun x30 mi30 ml30 z30 => CV l h m_R_codes [.ref 119, .int (1000 + x30)] mi30 ml30 z30 (fun mi31 ml31 z31 => CV l h m_R_next [.ref 119] mi31 ml31 z31 (fun mi32 ml32 z32 => Q mi32 ml32 z32))))))))) ∧ (¬ x1 = 0 → CV l h m_R_codes [.ref 119, .int (mi1 119 10)] mi1 ml1 z1 (fun mi33 ml33 z33 => CV l h m_R_next [.ref 119] mi33 ml33 z33 (fun mi34 ml34 z34 => Q mi34 ml34 z34)))))) : CV l (h + 1) m_R_readAtom [.ref 119, .int a1] mi ml z Q := by
  show Ev l (h + 1) m_R_readAtom 0 ([.ref 119, .int a1], [], st mi ml z) (qV Q)
  refine ev_aload_n (i := 0) rfl rfl (a_dec_at dc_R_readAtom 0 rfl) ?_
  refine ev_bipush (v := 23) rfl (a_dec_at dc_R_readAtom 1 rfl) ?_
  refine cV1I cs_R_129 sh119 rfl (Nat.le_of_ble_eq_true rfl) (Nat.le_of_ble_eq_true rfl) (a_dec_at dc_R_readAtom 2 rfl) ?_
  refine CI.mono (fun x1 mi1 ml1 z1 H => ?_) H
  refine ev_if_eq (tgt := 24) (a_dec_at dc_R_readAtom 3 rfl) (by decide) (fun b2 => ?_) (fun b2 => ?_)
  · have H := H.1 b2
    refine ev_aload_n (i := 0) rfl rfl (a_dec_at dc_R_readAtom 11 rfl) ?_
    refine m_getI fl_R_123 rfl sh119 (a_dec_at dc_R_readAtom 12 rfl) ?_
    refine ev_if_ne (tgt := 66) (a_dec_at dc_R_readAtom 13 rfl) (by decide) (fun b3 => ?_) (fun b3 => ?_)
    · have H := H.1 b3
      refine ev_aload_n (i := 0) rfl rfl (a_dec_at dc_R_readAtom 31 rfl) ?_
      refine ev_bipush (v := 35) rfl (a_dec_at dc_R_readAtom 32 rfl) ?_
      refine cV1I cs_R_129 sh119 rfl (Nat.le_of_ble_eq_true rfl) (Nat.le_of_ble_eq_true rfl) (a_dec_at dc_R_readAtom 33 rfl) ?_
      refine CI.mono (fun x4 mi4 ml4 z4 H => ?_) H
      refine ev_if_eq (tgt := 108) (a_dec_at dc_R_readAtom 34 rfl) (by decide) (fun b5 => ?_) (fun b5 => ?_)
      · have H := H.1 b5
        refine ev_aload_n (i := 0) rfl rfl (a_dec_at dc_R_readAtom 53 rfl) ?_
        refine ev_bipush (v := 12) rfl (a_dec_at dc_R_readAtom 54 rfl) ?_
        refine cV1I cs_R_129 sh119 rfl (Nat.le_of_ble_eq_true rfl) (Nat.le_of_ble_eq_true rfl) (a_dec_at dc_R_readAtom 55 rfl) ?_
        refine CI.mono (fun x6 mi6 ml6 z6 H => ?_) H
        refine ev_if_eq (tgt := 125) (a_dec_at dc_R_readAtom 56 rfl) (by decide) (fun b7 => ?_) (fun b7 => ?_)
        · have H := H.1 b7
          refine ev_aload_n (i := 0) rfl rfl (a_dec_at dc_R_readAtom 61 rfl) ?_
          refine ev_iconst (v := 2) rfl (a_dec_at dc_R_readAtom 62 rfl) ?_
          refine cV1V cs_R_135 sh119 rfl (Nat.le_of_ble_eq_true rfl) (Nat.le_of_ble_eq_true rfl) (a_dec_at dc_R_readAtom 63 rfl) ?_
          refine CV.mono (fun mi8 ml8 z8 H => ?_) H
          exact m_retV (a_dec_at dc_R_readAtom 64 rfl) rfl H
        · have H := H.2 b7
          refine ev_aload_n (i := 0) rfl rfl (a_dec_at dc_R_readAtom 57 rfl) ?_
          refine ev_iload_n (i := 1) rfl rfl (a_dec_at dc_R_readAtom 58 rfl) ?_
          refine cV1V cs_R_158 sh119 rfl (Nat.le_of_ble_eq_true rfl) (Nat.le_of_ble_eq_true rfl) (a_dec_at dc_R_readAtom 59 rfl) ?_
          refine CV.mono (fun mi9 ml9 z9 H => ?_) H
          refine ev_goto (tgt := 130) (a_dec_at dc_R_readAtom 60 rfl) (by decide) ?_
          exact m_retV (a_dec_at dc_R_readAtom 64 rfl) rfl H
      · have H := H.2 b5
        refine ev_aload_n (i := 0) rfl rfl (a_dec_at dc_R_readAtom 35 rfl) ?_
        refine ev_iload_n (i := 1) rfl rfl (a_dec_at dc_R_readAtom 36 rfl) ?_
        refine cV1I cs_R_149 sh119 rfl (Nat.le_of_ble_eq_true rfl) (Nat.le_of_ble_eq_true rfl) (a_dec_at dc_R_readAtom 37 rfl) ?_
        refine CI.mono (fun x10 mi10 ml10 z10 H => ?_) H
        refine ev_if_ne (tgt := 84) (a_dec_at dc_R_readAtom 38 rfl) (by decide) (fun b11 => ?_) (fun b11 => ?_)
        · have H := H.1 b11
          refine ev_aload_n (i := 0) rfl rfl (a_dec_at dc_R_readAtom 40 rfl) ?_
          refine ev_iload_n (i := 1) rfl rfl (a_dec_at dc_R_readAtom 41 rfl) ?_
          refine ev_iconst (v := 1) rfl (a_dec_at dc_R_readAtom 42 rfl) ?_
          refine ev_iadd (a_dec_at dc_R_readAtom 43 rfl) ?_
          refine cV1V cs_R_152 sh119 rfl (Nat.le_of_ble_eq_true rfl) (Nat.le_of_ble_eq_true rfl) (a_dec_at dc_R_readAtom 44 rfl) ?_
          refine CV.mono (fun mi12 ml12 z12 H => ?_) H
          refine ev_aload_n (i := 0) rfl rfl (a_dec_at dc_R_readAtom 45 rfl) ?_
          refine ev_bipush (v := 36) rfl (a_dec_at dc_R_readAtom 46 rfl) ?_
          refine cV1I cs_R_155 sh119 rfl (Nat.le_of_ble_eq_true rfl) (Nat.le_of_ble_eq_true rfl) (a_dec_at dc_R_readAtom 47 rfl) ?_
          refine CI.mono (fun x13 mi13 ml13 z13 H => ?_) H
          refine ev_if_ne (tgt := 130) (a_dec_at dc_R_readAtom 48 rfl) (by decide) (fun b14 => ?_) (fun b14 => ?_)
          · have H := H.1 b14
            exact m_retV (a_dec_at dc_R_readAtom 64 rfl) rfl H
          · have H := H.2 b14
            refine ev_aload_n (i := 0) rfl rfl (a_dec_at dc_R_readAtom 49 rfl) ?_
            refine ev_iconst (v := 2) rfl (a_dec_at dc_R_readAtom 50 rfl) ?_
            refine cV1V cs_R_135 sh119 rfl (Nat.le_of_ble_eq_true rfl) (Nat.le_of_ble_eq_true rfl) (a_dec_at dc_R_readAtom 51 rfl) ?_
            refine CV.mono (fun mi15 ml15 z15 H => ?_) H
            refine ev_goto (tgt := 130) (a_dec_at dc_R_readAtom 52 rfl) (by decide) ?_
            exact m_retV (a_dec_at dc_R_readAtom 64 rfl) rfl H
        · have H := H.2 b11
          exact m_retV (a_dec_at dc_R_readAtom 39 rfl) rfl H
    · have H := H.2 b3
      refine ev_aload_n (i := 0) rfl rfl (a_dec_at dc_R_readAtom 14 rfl) ?_
      refine ev_aload_n (i := 0) rfl rfl (a_dec_at dc_R_readAtom 15 rfl) ?_
      refine m_getI fl_R_105 rfl sh119 (a_dec_at dc_R_readAtom 16 rfl) ?_
      refine cV1I cs_R_146 sh119 rfl (Nat.le_of_ble_eq_true rfl) (Nat.le_of_ble_eq_true rfl) (a_dec_at dc_R_readAtom 17 rfl) ?_
      refine CI.mono (fun x16 mi16 ml16 z16 H => ?_) H
      refine ev_iconst (v := (-1)) rfl (a_dec_at dc_R_readAtom 18 rfl) ?_
      refine ev_icmp_eq (tgt := 66) (a_dec_at dc_R_readAtom 19 rfl) (by decide) (fun b17 => ?_) (fun b17 => ?_)
      · have H := H.1 b17
        refine ev_aload_n (i := 0) rfl rfl (a_dec_at dc_R_readAtom 31 rfl) ?_
        refine ev_bipush (v := 35) rfl (a_dec_at dc_R_readAtom 32 rfl) ?_
        refine cV1I cs_R_129 sh119 rfl (Nat.le_of_ble_eq_true rfl) (Nat.le_of_ble_eq_true rfl) (a_dec_at dc_R_readAtom 33 rfl) ?_
        refine CI.mono (fun x18 mi18 ml18 z18 H => ?_) H
        refine ev_if_eq (tgt := 108) (a_dec_at dc_R_readAtom 34 rfl) (by decide) (fun b19 => ?_) (fun b19 => ?_)
        · have H := H.1 b19
          refine ev_aload_n (i := 0) rfl rfl (a_dec_at dc_R_readAtom 53 rfl) ?_
          refine ev_bipush (v := 12) rfl (a_dec_at dc_R_readAtom 54 rfl) ?_
          refine cV1I cs_R_129 sh119 rfl (Nat.le_of_ble_eq_true rfl) (Nat.le_of_ble_eq_true rfl) (a_dec_at dc_R_readAtom 55 rfl) ?_
          refine CI.mono (fun x20 mi20 ml20 z20 H => ?_) H
          refine ev_if_eq (tgt := 125) (a_dec_at dc_R_readAtom 56 rfl) (by decide) (fun b21 => ?_) (fun b21 => ?_)
          · have H := H.1 b21
            refine ev_aload_n (i := 0) rfl rfl (a_dec_at dc_R_readAtom 61 rfl) ?_
            refine ev_iconst (v := 2) rfl (a_dec_at dc_R_readAtom 62 rfl) ?_
            refine cV1V cs_R_135 sh119 rfl (Nat.le_of_ble_eq_true rfl) (Nat.le_of_ble_eq_true rfl) (a_dec_at dc_R_readAtom 63 rfl) ?_
            refine CV.mono (fun mi22 ml22 z22 H => ?_) H
            exact m_retV (a_dec_at dc_R_readAtom 64 rfl) rfl H
          · have H := H.2 b21
            refine ev_aload_n (i := 0) rfl rfl (a_dec_at dc_R_readAtom 57 rfl) ?_
            refine ev_iload_n (i := 1) rfl rfl (a_dec_at dc_R_readAtom 58 rfl) ?_
            refine cV1V cs_R_158 sh119 rfl (Nat.le_of_ble_eq_true rfl) (Nat.le_of_ble_eq_true rfl) (a_dec_at dc_R_readAtom 59 rfl) ?_
            refine CV.mono (fun mi23 ml23 z23 H => ?_) H
            refine ev_goto (tgt := 130) (a_dec_at dc_R_readAtom 60 rfl) (by decide) ?_
            exact m_retV (a_dec_at dc_R_readAtom 64 rfl) rfl H
        · have H := H.2 b19
          refine ev_aload_n (i := 0) rfl rfl (a_dec_at dc_R_readAtom 35 rfl) ?_
          refine ev_iload_n (i := 1) rfl rfl (a_dec_at dc_R_readAtom 36 rfl) ?_
          refine cV1I cs_R_149 sh119 rfl (Nat.le_of_ble_eq_true rfl) (Nat.le_of_ble_eq_true rfl) (a_dec_at dc_R_readAtom 37 rfl) ?_
          refine CI.mono (fun x24 mi24 ml24 z24 H => ?_) H
          refine ev_if_ne (tgt := 84) (a_dec_at dc_R_readAtom 38 rfl) (by decide) (fun b25 => ?_) (fun b25 => ?_)
          · have H := H.1 b25
            refine ev_aload_n (i := 0) rfl rfl (a_dec_at dc_R_readAtom 40 rfl) ?_
            refine ev_iload_n (i := 1) rfl rfl (a_dec_at dc_R_readAtom 41 rfl) ?_
            refine ev_iconst (v := 1) rfl (a_dec_at dc_R_readAtom 42 rfl) ?_
            refine ev_iadd (a_dec_at dc_R_readAtom 43 rfl) ?_
            refine cV1V cs_R_152 sh119 rfl (Nat.le_of_ble_eq_true rfl) (Nat.le_of_ble_eq_true rfl) (a_dec_at dc_R_readAtom 44 rfl) ?_
            refine CV.mono (fun mi26 ml26 z26 H => ?_) H
            refine ev_aload_n (i := 0) rfl rfl (a_dec_at dc_R_readAtom 45 rfl) ?_
            refine ev_bipush (v := 36) rfl (a_dec_at dc_R_readAtom 46 rfl) ?_
            refine cV1I cs_R_155 sh119 rfl (Nat.le_of_ble_eq_true rfl) (Nat.le_of_ble_eq_true rfl) (a_dec_at dc_R_readAtom 47 rfl) ?_
            refine CI.mono (fun x27 mi27 ml27 z27 H => ?_) H
            refine ev_if_ne (tgt := 130) (a_dec_at dc_R_readAtom 48 rfl) (by decide) (fun b28 => ?_) (fun b28 => ?_)
            · have H := H.1 b28
              exact m_retV (a_dec_at dc_R_readAtom 64 rfl) rfl H
            · have H := H.2 b28
              refine ev_aload_n (i := 0) rfl rfl (a_dec_at dc_R_readAtom 49 rfl) ?_
              refine ev_iconst (v := 2) rfl (a_dec_at dc_R_readAtom 50 rfl) ?_
              refine cV1V cs_R_135 sh119 rfl (Nat.le_of_ble_eq_true rfl) (Nat.le_of_ble_eq_true rfl) (a_dec_at dc_R_readAtom 51 rfl) ?_
              refine CV.mono (fun mi29 ml29 z29 H => ?_) H
              refine ev_goto (tgt := 130) (a_dec_at dc_R_readAtom 52 rfl) (by decide) ?_
              exact m_retV (a_dec_at dc_R_readAtom 64 rfl) rfl H
          · have H := H.2 b25
            exact m_retV (a_dec_at dc_R_readAtom 39 rfl) rfl H
      · have H := H.2 b17
        refine ev_aload_n (i := 0) rfl rfl (a_dec_at dc_R_readAtom 20 rfl) ?_
        refine ev_sipush (v := 1000) rfl (a_dec_at dc_R_readAtom 21 rfl) ?_
        refine ev_aload_n (i := 0) rfl rfl (a_dec_at dc_R_readAtom 22 rfl) ?_
        refine ev_aload_n (i := 0) rfl rfl (a_dec_at dc_R_readAtom 23 rfl) ?_
        refine m_getI fl_R_105 rfl sh119 (a_dec_at dc_R_readAtom 24 rfl) ?_
        refine cV1I cs_R_146 sh119 rfl (Nat.le_of_ble_eq_true rfl) (Nat.le_of_ble_eq_true rfl) (a_dec_at dc_R_readAtom 25 rfl) ?_
        refine CI.mono (fun x30 mi30 ml30 z30 H => ?_) H
        refine ev_iadd (a_dec_at dc_R_readAtom 26 rfl) ?_
        refine cV1V cs_R_143 sh119 rfl (Nat.le_of_ble_eq_true rfl) (Nat.le_of_ble_eq_true rfl) (a_dec_at dc_R_readAtom 27 rfl) ?_
        refine CV.mono (fun mi31 ml31 z31 H => ?_) H
        refine ev_aload_n (i := 0) rfl rfl (a_dec_at dc_R_readAtom 28 rfl) ?_
        refine cV0V cs_R_132 sh119 rfl (Nat.le_of_ble_eq_true rfl) (Nat.le_of_ble_eq_true rfl) (a_dec_at dc_R_readAtom 29 rfl) ?_
        refine CV.mono (fun mi32 ml32 z32 H => ?_) H
        refine ev_goto (tgt := 130) (a_dec_at dc_R_readAtom 30 rfl) (by decide) ?_
        exact m_retV (a_dec_at dc_R_readAtom 64 rfl) rfl H
  · have H := H.2 b2
    refine ev_aload_n (i := 0) rfl rfl (a_dec_at dc_R_readAtom 4 rfl) ?_
    refine ev_aload_n (i := 0) rfl rfl (a_dec_at dc_R_readAtom 5 rfl) ?_
    refine m_getI fl_R_118 rfl sh119 (a_dec_at dc_R_readAtom 6 rfl) ?_
    refine cV1V cs_R_143 sh119 rfl (Nat.le_of_ble_eq_true rfl) (Nat.le_of_ble_eq_true rfl) (a_dec_at dc_R_readAtom 7 rfl) ?_
    refine CV.mono (fun mi33 ml33 z33 H => ?_) H
    refine ev_aload_n (i := 0) rfl rfl (a_dec_at dc_R_readAtom 8 rfl) ?_
    refine cV0V cs_R_132 sh119 rfl (Nat.le_of_ble_eq_true rfl) (Nat.le_of_ble_eq_true rfl) (a_dec_at dc_R_readAtom 9 rfl) ?_
    refine CV.mono (fun mi34 ml34 z34 H => ?_) H
    refine ev_goto (tgt := 130) (a_dec_at dc_R_readAtom 10 rfl) (by decide) ?_
    exact m_retV (a_dec_at dc_R_readAtom 64 rfl) rfl H
set_option maxRecDepth 20000 in
theorem t_R_codes {l : Launch} {h : Nat} (mi : TMi) (ml : TMl) (z : Nat) (a1 : Int32) {Q : TMi → TMl → Nat → Prop} (H : (((mi 119 11) = 0 → (vp_in (471 + (mi 123 470)) 1371) ∧ Q (up (up mi 123 ((471 + (mi 123 470)).toNatClampNeg) a1) 123 470 (((up mi 123 ((471 + (mi 123 470)).toNatClampNeg) a1) 123 470) + 1)) ml z) ∧ (¬ (mi 119 11) = 0 → Q mi ml z))) : CV l (h + 1) m_R_codes [.ref 119, .int a1] mi ml z Q := by
  show Ev l (h + 1) m_R_codes 0 ([.ref 119, .int a1], [], st mi ml z) (qV Q)
  refine ev_aload_n (i := 0) rfl rfl (a_dec_at dc_R_codes 0 rfl) ?_
  refine m_getI fl_R_123 rfl sh119 (a_dec_at dc_R_codes 1 rfl) ?_
  refine ev_if_eq (tgt := 8) (a_dec_at dc_R_codes 2 rfl) (by decide) (fun b1 => ?_) (fun b1 => ?_)
  · have H := H.1 b1
    refine ev_aload_n (i := 0) rfl rfl (a_dec_at dc_R_codes 4 rfl) ?_
    refine m_getR (y := 123) fl_R_24 rfl sh119 (mr_119_4 _) (by decide) (a_dec_at dc_R_codes 5 rfl) ?_
    refine ev_sipush (v := 471) rfl (a_dec_at dc_R_codes 6 rfl) ?_
    refine ev_aload_n (i := 0) rfl rfl (a_dec_at dc_R_codes 7 rfl) ?_
    refine m_getR (y := 123) fl_R_24 rfl sh119 (mr_119_4 _) (by decide) (a_dec_at dc_R_codes 8 rfl) ?_
    refine ev_sipush (v := 470) rfl (a_dec_at dc_R_codes 9 rfl) ?_
    refine w_iald (k := 470) sh123 (by unfold vp_in; decide) (by decide) (a_dec_at dc_R_codes 10 rfl) ?_
    refine ev_iadd (a_dec_at dc_R_codes 11 rfl) ?_
    refine ev_iload_n (i := 1) rfl rfl (a_dec_at dc_R_codes 12 rfl) ?_
    obtain ⟨c2, H⟩ := H
    refine w_iast (k := (471 + (mi 123 470)).toNatClampNeg) sh123 c2 rfl (a_dec_at dc_R_codes 13 rfl) ?_
    refine ev_aload_n (i := 0) rfl rfl (a_dec_at dc_R_codes 14 rfl) ?_
    refine m_getR (y := 123) fl_R_24 rfl sh119 (mr_119_4 _) (by decide) (a_dec_at dc_R_codes 15 rfl) ?_
    refine ev_sipush (v := 470) rfl (a_dec_at dc_R_codes 16 rfl) ?_
    refine ev_dup2 rfl rfl (a_dec_at dc_R_codes 17 rfl) ?_
    refine w_iald (k := 470) sh123 (by unfold vp_in; decide) (by decide) (a_dec_at dc_R_codes 18 rfl) ?_
    refine ev_iconst (v := 1) rfl (a_dec_at dc_R_codes 19 rfl) ?_
    refine ev_iadd (a_dec_at dc_R_codes 20 rfl) ?_
    refine w_iast (k := 470) sh123 (by unfold vp_in; decide) (by decide) (a_dec_at dc_R_codes 21 rfl) ?_
    exact m_retV (a_dec_at dc_R_codes 22 rfl) rfl H
  · have H := H.2 b1
    exact m_retV (a_dec_at dc_R_codes 3 rfl) rfl H
set_option maxRecDepth 20000 in
theorem t_R_wordOf {l : Launch} {h : Nat} (mi : TMi) (ml : TMl) (z : Nat) (a1 : Int32) {Q : Int32 → TMi → TMl → Nat → Prop} (H : ((a1 = 1 → Q 0 mi ml z) ∧ ((a1 = 2 → Q 1 mi ml z) ∧ ((a1 = 3 → Q 2 mi ml z) ∧ ((a1 = 4 → Q (-1) mi ml z) ∧ ((a1 = 5 → Q (-1) mi ml z) ∧ ((a1 = 6 → Q 3 mi ml z) ∧ ((a1 = 7 → Q (-1) mi ml z) ∧ ((a1 = 8 → Q 4 mi ml z) ∧ ((a1 = 9 → Q (-1) mi ml z) ∧ ((a1 = 10 → Q (-1) mi ml z) ∧ ((a1 = 11 → Q (-1) mi ml z) ∧ ((a1 = 12 → Q (-1) mi ml z) ∧ ((a1 = 13 → Q (-1) mi ml z) ∧ ((a1 = 14 → Q (-1) mi ml z) ∧ ((a1 = 15 → Q (-1) mi ml z) ∧ ((a1 = 16 → Q 5 mi ml z) ∧ (¬ a1 = 1 → ¬ a1 = 2 → ¬ a1 = 3 → ¬ a1 = 4 → ¬ a1 = 5 → ¬ a1 = 6 → ¬ a1 = 7 → ¬ a1 = 8 → ¬ a1 = 9 → ¬ a1 = 10 → ¬ a1 = 11 → ¬ a1 = 12 → ¬ a1 = 13 → ¬ a1 = 14 → ¬ a1 = 15 → ¬ a1 = 16 → Q (-1) mi ml z)))))))))))))))))) : CI l (h + 1) m_R_wordOf [.ref 119, .int a1] mi ml z Q := by
  show Ev l (h + 1) m_R_wordOf 0 ([.ref 119, .int a1], [], st mi ml z) (qI Q)
  refine ev_iload_n (i := 1) rfl rfl (a_dec_at dc_R_wordOf 0 rfl) ?_
  by_cases e1 : a1 = 1
  · have H := H.1 e1
    refine w_tableIn (c := 1) (off := 79) (tgt := 80) (a_dec_at dc_R_wordOf 1 rfl) e1 (by decide) (by decide) (by decide) (by decide) ?_
    refine ev_iconst (v := 0) rfl (a_dec_at dc_R_wordOf 2 rfl) ?_
    exact m_retI (a_dec_at dc_R_wordOf 3 rfl) rfl rfl H
  have H := H.2
  by_cases e2 : a1 = 2
  · have H := H.1 e2
    refine w_tableIn (c := 2) (off := 81) (tgt := 82) (a_dec_at dc_R_wordOf 1 rfl) e2 (by decide) (by decide) (by decide) (by decide) ?_
    refine ev_iconst (v := 1) rfl (a_dec_at dc_R_wordOf 4 rfl) ?_
    exact m_retI (a_dec_at dc_R_wordOf 5 rfl) rfl rfl H
  have H := H.2
  by_cases e3 : a1 = 3
  · have H := H.1 e3
    refine w_tableIn (c := 3) (off := 83) (tgt := 84) (a_dec_at dc_R_wordOf 1 rfl) e3 (by decide) (by decide) (by decide) (by decide) ?_
    refine ev_iconst (v := 2) rfl (a_dec_at dc_R_wordOf 6 rfl) ?_
    exact m_retI (a_dec_at dc_R_wordOf 7 rfl) rfl rfl H
  have H := H.2
  by_cases e4 : a1 = 4
  · have H := H.1 e4
    refine w_tableIn (c := 4) (off := 91) (tgt := 92) (a_dec_at dc_R_wordOf 1 rfl) e4 (by decide) (by decide) (by decide) (by decide) ?_
    refine ev_iconst (v := (-1)) rfl (a_dec_at dc_R_wordOf 14 rfl) ?_
    exact m_retI (a_dec_at dc_R_wordOf 15 rfl) rfl rfl H
  have H := H.2
  by_cases e5 : a1 = 5
  · have H := H.1 e5
    refine w_tableIn (c := 5) (off := 91) (tgt := 92) (a_dec_at dc_R_wordOf 1 rfl) e5 (by decide) (by decide) (by decide) (by decide) ?_
    refine ev_iconst (v := (-1)) rfl (a_dec_at dc_R_wordOf 14 rfl) ?_
    exact m_retI (a_dec_at dc_R_wordOf 15 rfl) rfl rfl H
  have H := H.2
  by_cases e6 : a1 = 6
  · have H := H.1 e6
    refine w_tableIn (c := 6) (off := 85) (tgt := 86) (a_dec_at dc_R_wordOf 1 rfl) e6 (by decide) (by decide) (by decide) (by decide) ?_
    refine ev_iconst (v := 3) rfl (a_dec_at dc_R_wordOf 8 rfl) ?_
    exact m_retI (a_dec_at dc_R_wordOf 9 rfl) rfl rfl H
  have H := H.2
  by_cases e7 : a1 = 7
  · have H := H.1 e7
    refine w_tableIn (c := 7) (off := 91) (tgt := 92) (a_dec_at dc_R_wordOf 1 rfl) e7 (by decide) (by decide) (by decide) (by decide) ?_
    refine ev_iconst (v := (-1)) rfl (a_dec_at dc_R_wordOf 14 rfl) ?_
    exact m_retI (a_dec_at dc_R_wordOf 15 rfl) rfl rfl H
  have H := H.2
  by_cases e8 : a1 = 8
  · have H := H.1 e8
    refine w_tableIn (c := 8) (off := 87) (tgt := 88) (a_dec_at dc_R_wordOf 1 rfl) e8 (by decide) (by decide) (by decide) (by decide) ?_
    refine ev_iconst (v := 4) rfl (a_dec_at dc_R_wordOf 10 rfl) ?_
    exact m_retI (a_dec_at dc_R_wordOf 11 rfl) rfl rfl H
  have H := H.2
  by_cases e9 : a1 = 9
  · have H := H.1 e9
    refine w_tableIn (c := 9) (off := 91) (tgt := 92) (a_dec_at dc_R_wordOf 1 rfl) e9 (by decide) (by decide) (by decide) (by decide) ?_
    refine ev_iconst (v := (-1)) rfl (a_dec_at dc_R_wordOf 14 rfl) ?_
    exact m_retI (a_dec_at dc_R_wordOf 15 rfl) rfl rfl H
  have H := H.2
  by_cases e10 : a1 = 10
  · have H := H.1 e10
    refine w_tableIn (c := 10) (off := 91) (tgt := 92) (a_dec_at dc_R_wordOf 1 rfl) e10 (by decide) (by decide) (by decide) (by decide) ?_
    refine ev_iconst (v := (-1)) rfl (a_dec_at dc_R_wordOf 14 rfl) ?_
    exact m_retI (a_dec_at dc_R_wordOf 15 rfl) rfl rfl H
  have H := H.2
  by_cases e11 : a1 = 11
  · have H := H.1 e11
    refine w_tableIn (c := 11) (off := 91) (tgt := 92) (a_dec_at dc_R_wordOf 1 rfl) e11 (by decide) (by decide) (by decide) (by decide) ?_
    refine ev_iconst (v := (-1)) rfl (a_dec_at dc_R_wordOf 14 rfl) ?_
    exact m_retI (a_dec_at dc_R_wordOf 15 rfl) rfl rfl H
  have H := H.2
  by_cases e12 : a1 = 12
  · have H := H.1 e12
    refine w_tableIn (c := 12) (off := 91) (tgt := 92) (a_dec_at dc_R_wordOf 1 rfl) e12 (by decide) (by decide) (by decide) (by decide) ?_
    refine ev_iconst (v := (-1)) rfl (a_dec_at dc_R_wordOf 14 rfl) ?_
    exact m_retI (a_dec_at dc_R_wordOf 15 rfl) rfl rfl H
  have H := H.2
  by_cases e13 : a1 = 13
  · have H := H.1 e13
    refine w_tableIn (c := 13) (off := 91) (tgt := 92) (a_dec_at dc_R_wordOf 1 rfl) e13 (by decide) (by decide) (by decide) (by decide) ?_
    refine ev_iconst (v := (-1)) rfl (a_dec_at dc_R_wordOf 14 rfl) ?_
    exact m_retI (a_dec_at dc_R_wordOf 15 rfl) rfl rfl H
  have H := H.2
  by_cases e14 : a1 = 14
  · have H := H.1 e14
    refine w_tableIn (c := 14) (off := 91) (tgt := 92) (a_dec_at dc_R_wordOf 1 rfl) e14 (by decide) (by decide) (by decide) (by decide) ?_
    refine ev_iconst (v := (-1)) rfl (a_dec_at dc_R_wordOf 14 rfl) ?_
    exact m_retI (a_dec_at dc_R_wordOf 15 rfl) rfl rfl H
  have H := H.2
  by_cases e15 : a1 = 15
  · have H := H.1 e15
    refine w_tableIn (c := 15) (off := 91) (tgt := 92) (a_dec_at dc_R_wordOf 1 rfl) e15 (by decide) (by decide) (by decide) (by decide) ?_
    refine ev_iconst (v := (-1)) rfl (a_dec_at dc_R_wordOf 14 rfl) ?_
    exact m_retI (a_dec_at dc_R_wordOf 15 rfl) rfl rfl H
  have H := H.2
  by_cases e16 : a1 = 16
  · have H := H.1 e16
    refine w_tableIn (c := 16) (off := 89) (tgt := 90) (a_dec_at dc_R_wordOf 1 rfl) e16 (by decide) (by decide) (by decide) (by decide) ?_
    refine ev_iconst (v := 5) rfl (a_dec_at dc_R_wordOf 12 rfl) ?_
    exact m_retI (a_dec_at dc_R_wordOf 13 rfl) rfl rfl H
  have H := H.2
  refine w_tableOut (tgt := 92) [1, 2, 3, 4, 5, 6, 7, 8, 9, 10, 11, 12, 13, 14, 15, 16] (a_dec_at dc_R_wordOf 1 rfl) (by decide) (by intro c hc; simp only [List.mem_cons, List.not_mem_nil, or_false] at hc; rcases hc with rfl | rfl | rfl | rfl | rfl | rfl | rfl | rfl | rfl | rfl | rfl | rfl | rfl | rfl | rfl | rfl <;> assumption) (by decide) ?_
  have H := H e1 e2 e3 e4 e5 e6 e7 e8 e9 e10 e11 e12 e13 e14 e15 e16
  refine ev_iconst (v := (-1)) rfl (a_dec_at dc_R_wordOf 14 rfl) ?_
  exact m_retI (a_dec_at dc_R_wordOf 15 rfl) rfl rfl H
set_option maxRecDepth 20000 in
theorem t_R_goesIn {l : Launch} {h : Nat} (mi : TMi) (ml : TMl) (z : Nat) (a1 : Int32) {Q : Int32 → TMi → TMl → Nat → Prop} (H : ((¬ a1 = 6 → ((¬ (mi 119 11) = 0 → ((¬ (mi 119 11) = 0 → Q 0 mi ml z) ∧ ((mi 119 11) = 0 → Q 1 mi ml z))) ∧ ((mi 119 11) = 0 → CV l h m_R_next [.ref 119] mi ml z (fun mi4 ml4 z4 => ((¬ (mi4 119 11) = 0 → Q 0 mi4 ml4 z4) ∧ ((mi4 119 11) = 0 → Q 1 mi4 ml4 z4)))))) ∧ (a1 = 6 → CV l h m_R_fails [.ref 119, .int 4] mi ml z (fun mi6 ml6 z6 => ((¬ (mi6 119 11) = 0 → ((¬ (mi6 119 11) = 0 → Q 0 mi6 ml6 z6) ∧ ((mi6 119 11) = 0 → Q 1 mi6 ml6 z6))) ∧ ((mi6 119 11) = 0 → CV l h m_R_next [.ref 119] mi6 ml6 z6 (fun mi9 ml9 z9 => ((¬ (mi9 119 11) = 0 → Q 0 mi9 ml9 z9) ∧ ((mi9 119 11) = 0 → Q 1 mi9 ml9 z9))))))))) : CI l (h + 1) m_R_goesIn [.ref 119, .int a1] mi ml z Q := by
  show Ev l (h + 1) m_R_goesIn 0 ([.ref 119, .int a1], [], st mi ml z) (qI Q)
  refine ev_iload_n (i := 1) rfl rfl (a_dec_at dc_R_goesIn 0 rfl) ?_
  refine ev_bipush (v := 6) rfl (a_dec_at dc_R_goesIn 1 rfl) ?_
  refine ev_icmp_ne (tgt := 11) (a_dec_at dc_R_goesIn 2 rfl) (by decide) (fun b1 => ?_) (fun b1 => ?_)
  · have H := H.1 b1
    refine ev_aload_n (i := 0) rfl rfl (a_dec_at dc_R_goesIn 6 rfl) ?_
    refine m_getI fl_R_123 rfl sh119 (a_dec_at dc_R_goesIn 7 rfl) ?_
    refine ev_if_ne (tgt := 22) (a_dec_at dc_R_goesIn 8 rfl) (by decide) (fun b2 => ?_) (fun b2 => ?_)
    · have H := H.1 b2
      refine ev_aload_n (i := 0) rfl rfl (a_dec_at dc_R_goesIn 11 rfl) ?_
      refine m_getI fl_R_123 rfl sh119 (a_dec_at dc_R_goesIn 12 rfl) ?_
      refine ev_if_ne (tgt := 33) (a_dec_at dc_R_goesIn 13 rfl) (by decide) (fun b3 => ?_) (fun b3 => ?_)
      · have H := H.1 b3
        refine ev_iconst (v := 0) rfl (a_dec_at dc_R_goesIn 16 rfl) ?_
        exact m_retI (a_dec_at dc_R_goesIn 17 rfl) rfl rfl H
      · have H := H.2 b3
        refine ev_iconst (v := 1) rfl (a_dec_at dc_R_goesIn 14 rfl) ?_
        refine ev_goto (tgt := 34) (a_dec_at dc_R_goesIn 15 rfl) (by decide) ?_
        exact m_retI (a_dec_at dc_R_goesIn 17 rfl) rfl rfl H
    · have H := H.2 b2
      refine ev_aload_n (i := 0) rfl rfl (a_dec_at dc_R_goesIn 9 rfl) ?_
      refine cV0V cs_R_132 sh119 rfl (Nat.le_of_ble_eq_true rfl) (Nat.le_of_ble_eq_true rfl) (a_dec_at dc_R_goesIn 10 rfl) ?_
      refine CV.mono (fun mi4 ml4 z4 H => ?_) H
      refine ev_aload_n (i := 0) rfl rfl (a_dec_at dc_R_goesIn 11 rfl) ?_
      refine m_getI fl_R_123 rfl sh119 (a_dec_at dc_R_goesIn 12 rfl) ?_
      refine ev_if_ne (tgt := 33) (a_dec_at dc_R_goesIn 13 rfl) (by decide) (fun b5 => ?_) (fun b5 => ?_)
      · have H := H.1 b5
        refine ev_iconst (v := 0) rfl (a_dec_at dc_R_goesIn 16 rfl) ?_
        exact m_retI (a_dec_at dc_R_goesIn 17 rfl) rfl rfl H
      · have H := H.2 b5
        refine ev_iconst (v := 1) rfl (a_dec_at dc_R_goesIn 14 rfl) ?_
        refine ev_goto (tgt := 34) (a_dec_at dc_R_goesIn 15 rfl) (by decide) ?_
        exact m_retI (a_dec_at dc_R_goesIn 17 rfl) rfl rfl H
  · have H := H.2 b1
    refine ev_aload_n (i := 0) rfl rfl (a_dec_at dc_R_goesIn 3 rfl) ?_
    refine ev_iconst (v := 4) rfl (a_dec_at dc_R_goesIn 4 rfl) ?_
    refine cV1V cs_R_135 sh119 rfl (Nat.le_of_ble_eq_true rfl) (Nat.le_of_ble_eq_true rfl) (a_dec_at dc_R_goesIn 5 rfl) ?_
    refine CV.mono (fun mi6 ml6 z6 H => ?_) H
    refine ev_aload_n (i := 0) rfl rfl (a_dec_at dc_R_goesIn 6 rfl) ?_
    refine m_getI fl_R_123 rfl sh119 (a_dec_at dc_R_goesIn 7 rfl) ?_
    refine ev_if_ne (tgt := 22) (a_dec_at dc_R_goesIn 8 rfl) (by decide) (fun b7 => ?_) (fun b7 => ?_)
    · have H := H.1 b7
      refine ev_aload_n (i := 0) rfl rfl (a_dec_at dc_R_goesIn 11 rfl) ?_
      refine m_getI fl_R_123 rfl sh119 (a_dec_at dc_R_goesIn 12 rfl) ?_
      refine ev_if_ne (tgt := 33) (a_dec_at dc_R_goesIn 13 rfl) (by decide) (fun b8 => ?_) (fun b8 => ?_)
      · have H := H.1 b8
        refine ev_iconst (v := 0) rfl (a_dec_at dc_R_goesIn 16 rfl) ?_
        exact m_retI (a_dec_at dc_R_goesIn 17 rfl) rfl rfl H
      · have H := H.2 b8
        refine ev_iconst (v := 1) rfl (a_dec_at dc_R_goesIn 14 rfl) ?_
        refine ev_goto (tgt := 34) (a_dec_at dc_R_goesIn 15 rfl) (by decide) ?_
        exact m_retI (a_dec_at dc_R_goesIn 17 rfl) rfl rfl H
    · have H := H.2 b7
      refine ev_aload_n (i := 0) rfl rfl (a_dec_at dc_R_goesIn 9 rfl) ?_
      refine cV0V cs_R_132 sh119 rfl (Nat.le_of_ble_eq_true rfl) (Nat.le_of_ble_eq_true rfl) (a_dec_at dc_R_goesIn 10 rfl) ?_
      refine CV.mono (fun mi9 ml9 z9 H => ?_) H
      refine ev_aload_n (i := 0) rfl rfl (a_dec_at dc_R_goesIn 11 rfl) ?_
      refine m_getI fl_R_123 rfl sh119 (a_dec_at dc_R_goesIn 12 rfl) ?_
      refine ev_if_ne (tgt := 33) (a_dec_at dc_R_goesIn 13 rfl) (by decide) (fun b10 => ?_) (fun b10 => ?_)
      · have H := H.1 b10
        refine ev_iconst (v := 0) rfl (a_dec_at dc_R_goesIn 16 rfl) ?_
        exact m_retI (a_dec_at dc_R_goesIn 17 rfl) rfl rfl H
      · have H := H.2 b10
        refine ev_iconst (v := 1) rfl (a_dec_at dc_R_goesIn 14 rfl) ?_
        refine ev_goto (tgt := 34) (a_dec_at dc_R_goesIn 15 rfl) (by decide) ?_
        exact m_retI (a_dec_at dc_R_goesIn 17 rfl) rfl rfl H
set_option maxRecDepth 20000 in
theorem t_R_readIf {l : Launch} {h : Nat} (mi : TMi) (ml : TMl) (z : Nat) (a1 : Int32) {Q : TMi → TMl → Nat → Prop} (H : CI l h m_R_goesIn [.ref 119, .int a1] mi ml z (fun x1 mi1 ml1 z1 => ((¬ x1 = 0 → CV l h m_R_readTruth [.ref 119, .int (a1 + 1)] mi1 ml1 z1 (fun mi3 ml3 z3 => CI l h m_R_eats [.ref 119, .int 13] mi3 ml3 z3 (fun x4 mi4 ml4 z4 => ((¬ x4 = 0 → CV l h m_R_readSum [.ref 119, .int (a1 + 1)] mi4 ml4 z4 (fun mi6 ml6 z6 => CI l h m_R_eats [.ref 119, .int 14] mi6 ml6 z6 (fun x7 mi7 ml7 z7 => ((¬ x7 = 0 → CV l h m_R_readSum [.ref 119, .int (a1 + 1)] mi7 ml7 z7 (fun mi9 ml9 z9 => CI l h m_R_eats [.ref 119, .int 15] mi9 ml9 z9 (fun x10 mi10 ml10 z10 => ((¬ x10 = 0 → CV l h m_R_codes [.ref 119, .int 3009] mi10 ml10 z10 (fun mi12 ml12 z12 => Q mi12 ml12 z12)) ∧ (x10 = 0 → CV l h m_R_fails [.ref 119, .int 2] mi10 ml10 z10 (fun mi13 ml13 z13 => CV l h m_R_codes [.ref 119, .int 3009] mi13 ml13 z13 (fun mi14 ml14 z14 => Q mi14 ml14 z14))))))) ∧ (x7 = 0 → CV l h m_R_fails [.ref 119, .int 2] mi7 ml7 z7 (fun mi15 ml15 z15 => CV l h m_R_readSum [.ref 119, .int (a1 + 1)] mi15 ml15 z15 (fun mi16 ml16 z16 => CI l h m_R_eats [.ref 119, .int 15] mi16 ml16 z16 (fun x17 mi17 ml17 z17 => ((¬ x17 = 0 → CV l h m_R_codes [.ref 119, .int 3009] mi17 ml17 z17 (fun mi19 ml19 z19 => Q mi19 ml19 z19)) ∧ (x17 = 0 → CV l h m_R_fails [.ref 119, .int 2] mi17 ml17 z17 (fun mi20 ml20 z20 => CV l h m_R_codes [.ref 119, .int 3009] mi20 ml20 z20 (fun mi21 ml21 z21 => Q mi21 ml21 z21)))))))))))) ∧ (x4 = 0 → CV l h m_R_fails [.ref 119, .int 2] mi4 ml4 z4 (fun mi22 ml22 z22 => CV l h m_R_readSum [.ref 119, .int (a1 + 1)] mi22 ml22 z22 (fun mi23 ml23 z23 => CI l h m_R_eats [.ref 119, .int 14] mi23 ml23 z23 (fun x24 mi24 ml24 z24 => ((¬ x24 = 0 → CV l h m_R_readSum [.ref 119, .int (a1 + 1)] mi24 ml24 z24 (fun mi26 ml26 z26 => CI l h m_R_eats [.ref 119, .int 15] mi26 ml26 z26 (fun x27 mi27 ml27 z27 => ((¬ x27 = 0 → CV l h m_R_codes [.ref 119, .int 3009] mi27 ml27 z27 (fun mi29 ml29 z29 => Q mi29 ml29 z29)) ∧ (x27 = 0 → CV l h m_R_fails [.ref 119, .int 2] mi27 ml27 z27 (fun mi30 ml30 z30 => CV l h m_R_codes [.ref 119, .int 3009] mi30 ml30 z30 (fun mi31 ml31 z31 => Q mi31 ml31 z31))))))) ∧ (x24 = 0 → CV l h m_R_fails [.ref 119, .int 2] mi24 ml24 z24 (fun mi32 ml32 z32 => CV l h m_R_readSum [.ref 119, .int (a1 + 1)] mi32 ml32 z32 (fun mi33 ml33 z33 => CI l h m_R_eats [.ref 119, .int 15] mi33 ml33 z33 (fun x34 mi34 ml34 z34 => ((¬ x34 = 0 → CV l h m_R_codes [.ref 119, .int 3009] mi34 ml34 z34 (fun mi36 ml36 z36 => Q mi36 ml36 z36)) ∧ (x34 = 0 → CV l h m_R_fails [.ref 119, .int 2] mi34 ml34 z34 (fun mi37 ml37 z37 => CV l h m_R_codes [.ref 119, .int 3009] mi37 ml37 z37 (fun mi38 ml38 z38 => Q mi38 ml38 z38))))))))))))))))) ∧ (x1 = 0 → Q mi1 ml1 z1)))) : CV l (h + 1) m_R_readIf [.ref 119, .int a1] mi ml z Q := by
  show Ev l (h + 1) m_R_readIf 0 ([.ref 119, .int a1], [], st mi ml z) (qV Q)
  refine ev_aload_n (i := 0) rfl rfl (a_dec_at dc_R_readIf 0 rfl) ?_
  refine ev_iload_n (i := 1) rfl rfl (a_dec_at dc_R_readIf 1 rfl) ?_
  refine cV1I cs_R_149 sh119 rfl (Nat.le_of_ble_eq_true rfl) (Nat.le_of_ble_eq_true rfl) (a_dec_at dc_R_readIf 2 rfl) ?_
  refine CI.mono (fun x1 mi1 ml1 z1 H => ?_) H
  refine ev_if_ne (tgt := 9) (a_dec_at dc_R_readIf 3 rfl) (by decide) (fun b2 => ?_) (fun b2 => ?_)
  · have H := H.1 b2
    refine ev_aload_n (i := 0) rfl rfl (a_dec_at dc_R_readIf 5 rfl) ?_
    refine ev_iload_n (i := 1) rfl rfl (a_dec_at dc_R_readIf 6 rfl) ?_
    refine ev_iconst (v := 1) rfl (a_dec_at dc_R_readIf 7 rfl) ?_
    refine ev_iadd (a_dec_at dc_R_readIf 8 rfl) ?_
    refine cV1V cs_R_161 sh119 rfl (Nat.le_of_ble_eq_true rfl) (Nat.le_of_ble_eq_true rfl) (a_dec_at dc_R_readIf 9 rfl) ?_
    refine CV.mono (fun mi3 ml3 z3 H => ?_) H
    refine ev_aload_n (i := 0) rfl rfl (a_dec_at dc_R_readIf 10 rfl) ?_
    refine ev_bipush (v := 13) rfl (a_dec_at dc_R_readIf 11 rfl) ?_
    refine cV1I cs_R_155 sh119 rfl (Nat.le_of_ble_eq_true rfl) (Nat.le_of_ble_eq_true rfl) (a_dec_at dc_R_readIf 12 rfl) ?_
    refine CI.mono (fun x4 mi4 ml4 z4 H => ?_) H
    refine ev_if_ne (tgt := 30) (a_dec_at dc_R_readIf 13 rfl) (by decide) (fun b5 => ?_) (fun b5 => ?_)
    · have H := H.1 b5
      refine ev_aload_n (i := 0) rfl rfl (a_dec_at dc_R_readIf 17 rfl) ?_
      refine ev_iload_n (i := 1) rfl rfl (a_dec_at dc_R_readIf 18 rfl) ?_
      refine ev_iconst (v := 1) rfl (a_dec_at dc_R_readIf 19 rfl) ?_
      refine ev_iadd (a_dec_at dc_R_readIf 20 rfl) ?_
      refine cV1V cs_R_152 sh119 rfl (Nat.le_of_ble_eq_true rfl) (Nat.le_of_ble_eq_true rfl) (a_dec_at dc_R_readIf 21 rfl) ?_
      refine CV.mono (fun mi6 ml6 z6 H => ?_) H
      refine ev_aload_n (i := 0) rfl rfl (a_dec_at dc_R_readIf 22 rfl) ?_
      refine ev_bipush (v := 14) rfl (a_dec_at dc_R_readIf 23 rfl) ?_
      refine cV1I cs_R_155 sh119 rfl (Nat.le_of_ble_eq_true rfl) (Nat.le_of_ble_eq_true rfl) (a_dec_at dc_R_readIf 24 rfl) ?_
      refine CI.mono (fun x7 mi7 ml7 z7 H => ?_) H
      refine ev_if_ne (tgt := 51) (a_dec_at dc_R_readIf 25 rfl) (by decide) (fun b8 => ?_) (fun b8 => ?_)
      · have H := H.1 b8
        refine ev_aload_n (i := 0) rfl rfl (a_dec_at dc_R_readIf 29 rfl) ?_
        refine ev_iload_n (i := 1) rfl rfl (a_dec_at dc_R_readIf 30 rfl) ?_
        refine ev_iconst (v := 1) rfl (a_dec_at dc_R_readIf 31 rfl) ?_
        refine ev_iadd (a_dec_at dc_R_readIf 32 rfl) ?_
        refine cV1V cs_R_152 sh119 rfl (Nat.le_of_ble_eq_true rfl) (Nat.le_of_ble_eq_true rfl) (a_dec_at dc_R_readIf 33 rfl) ?_
        refine CV.mono (fun mi9 ml9 z9 H => ?_) H
        refine ev_aload_n (i := 0) rfl rfl (a_dec_at dc_R_readIf 34 rfl) ?_
        refine ev_bipush (v := 15) rfl (a_dec_at dc_R_readIf 35 rfl) ?_
        refine cV1I cs_R_155 sh119 rfl (Nat.le_of_ble_eq_true rfl) (Nat.le_of_ble_eq_true rfl) (a_dec_at dc_R_readIf 36 rfl) ?_
        refine CI.mono (fun x10 mi10 ml10 z10 H => ?_) H
        refine ev_if_ne (tgt := 72) (a_dec_at dc_R_readIf 37 rfl) (by decide) (fun b11 => ?_) (fun b11 => ?_)
        · have H := H.1 b11
          refine ev_aload_n (i := 0) rfl rfl (a_dec_at dc_R_readIf 41 rfl) ?_
          refine ev_sipush (v := 3009) rfl (a_dec_at dc_R_readIf 42 rfl) ?_
          refine cV1V cs_R_143 sh119 rfl (Nat.le_of_ble_eq_true rfl) (Nat.le_of_ble_eq_true rfl) (a_dec_at dc_R_readIf 43 rfl) ?_
          refine CV.mono (fun mi12 ml12 z12 H => ?_) H
          exact m_retV (a_dec_at dc_R_readIf 44 rfl) rfl H
        · have H := H.2 b11
          refine ev_aload_n (i := 0) rfl rfl (a_dec_at dc_R_readIf 38 rfl) ?_
          refine ev_iconst (v := 2) rfl (a_dec_at dc_R_readIf 39 rfl) ?_
          refine cV1V cs_R_135 sh119 rfl (Nat.le_of_ble_eq_true rfl) (Nat.le_of_ble_eq_true rfl) (a_dec_at dc_R_readIf 40 rfl) ?_
          refine CV.mono (fun mi13 ml13 z13 H => ?_) H
          refine ev_aload_n (i := 0) rfl rfl (a_dec_at dc_R_readIf 41 rfl) ?_
          refine ev_sipush (v := 3009) rfl (a_dec_at dc_R_readIf 42 rfl) ?_
          refine cV1V cs_R_143 sh119 rfl (Nat.le_of_ble_eq_true rfl) (Nat.le_of_ble_eq_true rfl) (a_dec_at dc_R_readIf 43 rfl) ?_
          refine CV.mono (fun mi14 ml14 z14 H => ?_) H
          exact m_retV (a_dec_at dc_R_readIf 44 rfl) rfl H
      · have H := H.2 b8
        refine ev_aload_n (i := 0) rfl rfl (a_dec_at dc_R_readIf 26 rfl) ?_
        refine ev_iconst (v := 2) rfl (a_dec_at dc_R_readIf 27 rfl) ?_
        refine cV1V cs_R_135 sh119 rfl (Nat.le_of_ble_eq_true rfl) (Nat.le_of_ble_eq_true rfl) (a_dec_at dc_R_readIf 28 rfl) ?_
        refine CV.mono (fun mi15 ml15 z15 H => ?_) H
        refine ev_aload_n (i := 0) rfl rfl (a_dec_at dc_R_readIf 29 rfl) ?_
        refine ev_iload_n (i := 1) rfl rfl (a_dec_at dc_R_readIf 30 rfl) ?_
        refine ev_iconst (v := 1) rfl (a_dec_at dc_R_readIf 31 rfl) ?_
        refine ev_iadd (a_dec_at dc_R_readIf 32 rfl) ?_
        refine cV1V cs_R_152 sh119 rfl (Nat.le_of_ble_eq_true rfl) (Nat.le_of_ble_eq_true rfl) (a_dec_at dc_R_readIf 33 rfl) ?_
        refine CV.mono (fun mi16 ml16 z16 H => ?_) H
        refine ev_aload_n (i := 0) rfl rfl (a_dec_at dc_R_readIf 34 rfl) ?_
        refine ev_bipush (v := 15) rfl (a_dec_at dc_R_readIf 35 rfl) ?_
        refine cV1I cs_R_155 sh119 rfl (Nat.le_of_ble_eq_true rfl) (Nat.le_of_ble_eq_true rfl) (a_dec_at dc_R_readIf 36 rfl) ?_
        refine CI.mono (fun x17 mi17 ml17 z17 H => ?_) H
        refine ev_if_ne (tgt := 72) (a_dec_at dc_R_readIf 37 rfl) (by decide) (fun b18 => ?_) (fun b18 => ?_)
        · have H := H.1 b18
          refine ev_aload_n (i := 0) rfl rfl (a_dec_at dc_R_readIf 41 rfl) ?_
          refine ev_sipush (v := 3009) rfl (a_dec_at dc_R_readIf 42 rfl) ?_
          refine cV1V cs_R_143 sh119 rfl (Nat.le_of_ble_eq_true rfl) (Nat.le_of_ble_eq_true rfl) (a_dec_at dc_R_readIf 43 rfl) ?_
          refine CV.mono (fun mi19 ml19 z19 H => ?_) H
          exact m_retV (a_dec_at dc_R_readIf 44 rfl) rfl H
        · have H := H.2 b18
          refine ev_aload_n (i := 0) rfl rfl (a_dec_at dc_R_readIf 38 rfl) ?_
          refine ev_iconst (v := 2) rfl (a_dec_at dc_R_readIf 39 rfl) ?_
          refine cV1V cs_R_135 sh119 rfl (Nat.le_of_ble_eq_true rfl) (Nat.le_of_ble_eq_true rfl) (a_dec_at dc_R_readIf 40 rfl) ?_
          refine CV.mono (fun mi20 ml20 z20 H => ?_) H
          refine ev_aload_n (i := 0) rfl rfl (a_dec_at dc_R_readIf 41 rfl) ?_
          refine ev_sipush (v := 3009) rfl (a_dec_at dc_R_readIf 42 rfl) ?_
          refine cV1V cs_R_143 sh119 rfl (Nat.le_of_ble_eq_true rfl) (Nat.le_of_ble_eq_true rfl) (a_dec_at dc_R_readIf 43 rfl) ?_
          refine CV.mono (fun mi21 ml21 z21 H => ?_) H
          exact m_retV (a_dec_at dc_R_readIf 44 rfl) rfl H
    · have H := H.2 b5
      refine ev_aload_n (i := 0) rfl rfl (a_dec_at dc_R_readIf 14 rfl) ?_
      refine ev_iconst (v := 2) rfl (a_dec_at dc_R_readIf 15 rfl) ?_
      refine cV1V cs_R_135 sh119 rfl (Nat.le_of_ble_eq_true rfl) (Nat.le_of_ble_eq_true rfl) (a_dec_at dc_R_readIf 16 rfl) ?_
      refine CV.mono (fun mi22 ml22 z22 H => ?_) H
      refine ev_aload_n (i := 0) rfl rfl (a_dec_at dc_R_readIf 17 rfl) ?_
      refine ev_iload_n (i := 1) rfl rfl (a_dec_at dc_R_readIf 18 rfl) ?_
      refine ev_iconst (v := 1) rfl (a_dec_at dc_R_readIf 19 rfl) ?_
      refine ev_iadd (a_dec_at dc_R_readIf 20 rfl) ?_
      refine cV1V cs_R_152 sh119 rfl (Nat.le_of_ble_eq_true rfl) (Nat.le_of_ble_eq_true rfl) (a_dec_at dc_R_readIf 21 rfl) ?_
      refine CV.mono (fun mi23 ml23 z23 H => ?_) H
      refine ev_aload_n (i := 0) rfl rfl (a_dec_at dc_R_readIf 22 rfl) ?_
      refine ev_bipush (v := 14) rfl (a_dec_at dc_R_readIf 23 rfl) ?_
      refine cV1I cs_R_155 sh119 rfl (Nat.le_of_ble_eq_true rfl) (Nat.le_of_ble_eq_true rfl) (a_dec_at dc_R_readIf 24 rfl) ?_
      refine CI.mono (fun x24 mi24 ml24 z24 H => ?_) H
      refine ev_if_ne (tgt := 51) (a_dec_at dc_R_readIf 25 rfl) (by decide) (fun b25 => ?_) (fun b25 => ?_)
      · have H := H.1 b25
        refine ev_aload_n (i := 0) rfl rfl (a_dec_at dc_R_readIf 29 rfl) ?_
        refine ev_iload_n (i := 1) rfl rfl (a_dec_at dc_R_readIf 30 rfl) ?_
        refine ev_iconst (v := 1) rfl (a_dec_at dc_R_readIf 31 rfl) ?_
        refine ev_iadd (a_dec_at dc_R_readIf 32 rfl) ?_
        refine cV1V cs_R_152 sh119 rfl (Nat.le_of_ble_eq_true rfl) (Nat.le_of_ble_eq_true rfl) (a_dec_at dc_R_readIf 33 rfl) ?_
        refine CV.mono (fun mi26 ml26 z26 H => ?_) H
        refine ev_aload_n (i := 0) rfl rfl (a_dec_at dc_R_readIf 34 rfl) ?_
        refine ev_bipush (v := 15) rfl (a_dec_at dc_R_readIf 35 rfl) ?_
        refine cV1I cs_R_155 sh119 rfl (Nat.le_of_ble_eq_true rfl) (Nat.le_of_ble_eq_true rfl) (a_dec_at dc_R_readIf 36 rfl) ?_
        refine CI.mono (fun x27 mi27 ml27 z27 H => ?_) H
        refine ev_if_ne (tgt := 72) (a_dec_at dc_R_readIf 37 rfl) (by decide) (fun b28 => ?_) (fun b28 => ?_)
        · have H := H.1 b28
          refine ev_aload_n (i := 0) rfl rfl (a_dec_at dc_R_readIf 41 rfl) ?_
          refine ev_sipush (v := 3009) rfl (a_dec_at dc_R_readIf 42 rfl) ?_
          refine cV1V cs_R_143 sh119 rfl (Nat.le_of_ble_eq_true rfl) (Nat.le_of_ble_eq_true rfl) (a_dec_at dc_R_readIf 43 rfl) ?_
          refine CV.mono (fun mi29 ml29 z29 H => ?_) H
          exact m_retV (a_dec_at dc_R_readIf 44 rfl) rfl H
        · have H := H.2 b28
          refine ev_aload_n (i := 0) rfl rfl (a_dec_at dc_R_readIf 38 rfl) ?_
          refine ev_iconst (v := 2) rfl (a_dec_at dc_R_readIf 39 rfl) ?_
          refine cV1V cs_R_135 sh119 rfl (Nat.le_of_ble_eq_true rfl) (Nat.le_of_ble_eq_true rfl) (a_dec_at dc_R_readIf 40 rfl) ?_
          refine CV.mono (fun mi30 ml30 z30 H => ?_) H
          refine ev_aload_n (i := 0) rfl rfl (a_dec_at dc_R_readIf 41 rfl) ?_
          refine ev_sipush (v := 3009) rfl (a_dec_at dc_R_readIf 42 rfl) ?_
          refine cV1V cs_R_143 sh119 rfl (Nat.le_of_ble_eq_true rfl) (Nat.le_of_ble_eq_true rfl) (a_dec_at dc_R_readIf 43 rfl) ?_
          refine CV.mono (fun mi31 ml31 z31 H => ?_) H
          exact m_retV (a_dec_at dc_R_readIf 44 rfl) rfl H
      · have H := H.2 b25
        refine ev_aload_n (i := 0) rfl rfl (a_dec_at dc_R_readIf 26 rfl) ?_
        refine ev_iconst (v := 2) rfl (a_dec_at dc_R_readIf 27 rfl) ?_
        refine cV1V cs_R_135 sh119 rfl (Nat.le_of_ble_eq_true rfl) (Nat.le_of_ble_eq_true rfl) (a_dec_at dc_R_readIf 28 rfl) ?_
        refine CV.mono (fun mi32 ml32 z32 H => ?_) H
        refine ev_aload_n (i := 0) rfl rfl (a_dec_at dc_R_readIf 29 rfl) ?_
        refine ev_iload_n (i := 1) rfl rfl (a_dec_at dc_R_readIf 30 rfl) ?_
        refine ev_iconst (v := 1) rfl (a_dec_at dc_R_readIf 31 rfl) ?_
        refine ev_iadd (a_dec_at dc_R_readIf 32 rfl) ?_
        refine cV1V cs_R_152 sh119 rfl (Nat.le_of_ble_eq_true rfl) (Nat.le_of_ble_eq_true rfl) (a_dec_at dc_R_readIf 33 rfl) ?_
        refine CV.mono (fun mi33 ml33 z33 H => ?_) H
        refine ev_aload_n (i := 0) rfl rfl (a_dec_at dc_R_readIf 34 rfl) ?_
        refine ev_bipush (v := 15) rfl (a_dec_at dc_R_readIf 35 rfl) ?_
        refine cV1I cs_R_155 sh119 rfl (Nat.le_of_ble_eq_true rfl) (Nat.le_of_ble_eq_true rfl) (a_dec_at dc_R_readIf 36 rfl) ?_
        refine CI.mono (fun x34 mi34 ml34 z34 H => ?_) H
        refine ev_if_ne (tgt := 72) (a_dec_at dc_R_readIf 37 rfl) (by decide) (fun b35 => ?_) (fun b35 => ?_)
        · have H := H.1 b35
          refine ev_aload_n (i := 0) rfl rfl (a_dec_at dc_R_readIf 41 rfl) ?_
          refine ev_sipush (v := 3009) rfl (a_dec_at dc_R_readIf 42 rfl) ?_
          refine cV1V cs_R_143 sh119 rfl (Nat.le_of_ble_eq_true rfl) (Nat.le_of_ble_eq_true rfl) (a_dec_at dc_R_readIf 43 rfl) ?_
          refine CV.mono (fun mi36 ml36 z36 H => ?_) H
          exact m_retV (a_dec_at dc_R_readIf 44 rfl) rfl H
        · have H := H.2 b35
          refine ev_aload_n (i := 0) rfl rfl (a_dec_at dc_R_readIf 38 rfl) ?_
          refine ev_iconst (v := 2) rfl (a_dec_at dc_R_readIf 39 rfl) ?_
          refine cV1V cs_R_135 sh119 rfl (Nat.le_of_ble_eq_true rfl) (Nat.le_of_ble_eq_true rfl) (a_dec_at dc_R_readIf 40 rfl) ?_
          refine CV.mono (fun mi37 ml37 z37 H => ?_) H
          refine ev_aload_n (i := 0) rfl rfl (a_dec_at dc_R_readIf 41 rfl) ?_
          refine ev_sipush (v := 3009) rfl (a_dec_at dc_R_readIf 42 rfl) ?_
          refine cV1V cs_R_143 sh119 rfl (Nat.le_of_ble_eq_true rfl) (Nat.le_of_ble_eq_true rfl) (a_dec_at dc_R_readIf 43 rfl) ?_
          refine CV.mono (fun mi38 ml38 z38 H => ?_) H
          exact m_retV (a_dec_at dc_R_readIf 44 rfl) rfl H
  · have H := H.2 b2
    exact m_retV (a_dec_at dc_R_readIf 4 rfl) rfl H
set_option maxRecDepth 20000 in
theorem t_R_readTruth {l : Launch} {h : Nat} (mi : TMi) (ml : TMl) (z : Nat) (a1 : Int32) {Q : TMi → TMl → Nat → Prop} (H : CV l h m_R_readBoth [.ref 119, .int a1] mi ml z (fun mi1 ml1 z1 => Ev l (h + 1) m_R_readTruth 5 ([.ref 119, .int a1], [], st mi1 ml1 z1) (qV Q))) : CV l (h + 1) m_R_readTruth [.ref 119, .int a1] mi ml z Q := by
  show Ev l (h + 1) m_R_readTruth 0 ([.ref 119, .int a1], [], st mi ml z) (qV Q)
  refine ev_aload_n (i := 0) rfl rfl (a_dec_at dc_R_readTruth 0 rfl) ?_
  refine ev_iload_n (i := 1) rfl rfl (a_dec_at dc_R_readTruth 1 rfl) ?_
  refine cV1V cs_R_173 sh119 rfl (Nat.le_of_ble_eq_true rfl) (Nat.le_of_ble_eq_true rfl) (a_dec_at dc_R_readTruth 2 rfl) ?_
  refine CV.mono (fun mi1 ml1 z1 H => ?_) H
  exact Ev.drop (L' := [.ref 119, .int a1]) (And.intro rfl (And.intro rfl trivial)) H
set_option maxRecDepth 20000 in
theorem t_R_readTruth_5 {l : Launch} {h : Nat} (mi : TMi) (ml : TMl) (z : Nat) (v1 : Int32) {Q : TMi → TMl → Nat → Prop} (H : CI l h m_R_eats [.ref 119, .int 18] mi ml z (fun x1 mi1 ml1 z1 => ((x1 = 0 → Q mi1 ml1 z1) ∧ (¬ x1 = 0 → CV l h m_R_readBoth [.ref 119, .int v1] mi1 ml1 z1 (fun mi3 ml3 z3 => CV l h m_R_codes [.ref 119, .int 3008] mi3 ml3 z3 (fun mi4 ml4 z4 => Ev l (h + 1) m_R_readTruth 5 ([.ref 119, .int v1], [], st mi4 ml4 z4) (qV Q))))))) : Ev l (h + 1) m_R_readTruth 5 ([.ref 119, .int v1], [], st mi ml z) (qV Q) := by
  refine ev_aload_n (i := 0) rfl rfl (a_dec_at dc_R_readTruth 3 rfl) ?_
  refine ev_bipush (v := 18) rfl (a_dec_at dc_R_readTruth 4 rfl) ?_
  refine cV1I cs_R_155 sh119 rfl (Nat.le_of_ble_eq_true rfl) (Nat.le_of_ble_eq_true rfl) (a_dec_at dc_R_readTruth 5 rfl) ?_
  refine CI.mono (fun x1 mi1 ml1 z1 H => ?_) H
  refine ev_if_eq (tgt := 29) (a_dec_at dc_R_readTruth 6 rfl) (by decide) (fun b2 => ?_) (fun b2 => ?_)
  · have H := H.1 b2
    exact m_retV (a_dec_at dc_R_readTruth 14 rfl) rfl H
  · have H := H.2 b2
    refine ev_aload_n (i := 0) rfl rfl (a_dec_at dc_R_readTruth 7 rfl) ?_
    refine ev_iload_n (i := 1) rfl rfl (a_dec_at dc_R_readTruth 8 rfl) ?_
    refine cV1V cs_R_173 sh119 rfl (Nat.le_of_ble_eq_true rfl) (Nat.le_of_ble_eq_true rfl) (a_dec_at dc_R_readTruth 9 rfl) ?_
    refine CV.mono (fun mi3 ml3 z3 H => ?_) H
    refine ev_aload_n (i := 0) rfl rfl (a_dec_at dc_R_readTruth 10 rfl) ?_
    refine ev_sipush (v := 3008) rfl (a_dec_at dc_R_readTruth 11 rfl) ?_
    refine cV1V cs_R_143 sh119 rfl (Nat.le_of_ble_eq_true rfl) (Nat.le_of_ble_eq_true rfl) (a_dec_at dc_R_readTruth 12 rfl) ?_
    refine CV.mono (fun mi4 ml4 z4 H => ?_) H
    refine ev_goto (tgt := 5) (a_dec_at dc_R_readTruth 13 rfl) (by decide) ?_
    exact Ev.drop (L' := [.ref 119, .int v1]) (And.intro rfl (And.intro rfl trivial)) H
set_option maxRecDepth 20000 in
theorem t_R_readBoth {l : Launch} {h : Nat} (mi : TMi) (ml : TMl) (z : Nat) (a1 : Int32) {Q : TMi → TMl → Nat → Prop} (H : CV l h m_R_readUnit [.ref 119, .int a1] mi ml z (fun mi1 ml1 z1 => Ev l (h + 1) m_R_readBoth 5 ([.ref 119, .int a1], [], st mi1 ml1 z1) (qV Q))) : CV l (h + 1) m_R_readBoth [.ref 119, .int a1] mi ml z Q := by
  show Ev l (h + 1) m_R_readBoth 0 ([.ref 119, .int a1], [], st mi ml z) (qV Q)
  refine ev_aload_n (i := 0) rfl rfl (a_dec_at dc_R_readBoth 0 rfl) ?_
  refine ev_iload_n (i := 1) rfl rfl (a_dec_at dc_R_readBoth 1 rfl) ?_
  refine cV1V cs_R_170 sh119 rfl (Nat.le_of_ble_eq_true rfl) (Nat.le_of_ble_eq_true rfl) (a_dec_at dc_R_readBoth 2 rfl) ?_
  refine CV.mono (fun mi1 ml1 z1 H => ?_) H
  exact Ev.drop (L' := [.ref 119, .int a1]) (And.intro rfl (And.intro rfl trivial)) H
set_option maxRecDepth 20000 in
theorem t_R_readBoth_5 {l : Launch} {h : Nat} (mi : TMi) (ml : TMl) (z : Nat) (v1 : Int32) {Q : TMi → TMl → Nat → Prop} (H : CI l h m_R_eats [.ref 119, .int 17] mi ml z (fun x1 mi1 ml1 z1 => ((x1 = 0 → Q mi1 ml1 z1) ∧ (¬ x1 = 0 → CV l h m_R_readUnit [.ref 119, .int v1] mi1 ml1 z1 (fun mi3 ml3 z3 => CV l h m_R_codes [.ref 119, .int 3007] mi3 ml3 z3 (fun mi4 ml4 z4 => Ev l (h + 1) m_R_readBoth 5 ([.ref 119, .int v1], [], st mi4 ml4 z4) (qV Q))))))) : Ev l (h + 1) m_R_readBoth 5 ([.ref 119, .int v1], [], st mi ml z) (qV Q) := by
  refine ev_aload_n (i := 0) rfl rfl (a_dec_at dc_R_readBoth 3 rfl) ?_
  refine ev_bipush (v := 17) rfl (a_dec_at dc_R_readBoth 4 rfl) ?_
  refine cV1I cs_R_155 sh119 rfl (Nat.le_of_ble_eq_true rfl) (Nat.le_of_ble_eq_true rfl) (a_dec_at dc_R_readBoth 5 rfl) ?_
  refine CI.mono (fun x1 mi1 ml1 z1 H => ?_) H
  refine ev_if_eq (tgt := 29) (a_dec_at dc_R_readBoth 6 rfl) (by decide) (fun b2 => ?_) (fun b2 => ?_)
  · have H := H.1 b2
    exact m_retV (a_dec_at dc_R_readBoth 14 rfl) rfl H
  · have H := H.2 b2
    refine ev_aload_n (i := 0) rfl rfl (a_dec_at dc_R_readBoth 7 rfl) ?_
    refine ev_iload_n (i := 1) rfl rfl (a_dec_at dc_R_readBoth 8 rfl) ?_
    refine cV1V cs_R_170 sh119 rfl (Nat.le_of_ble_eq_true rfl) (Nat.le_of_ble_eq_true rfl) (a_dec_at dc_R_readBoth 9 rfl) ?_
    refine CV.mono (fun mi3 ml3 z3 H => ?_) H
    refine ev_aload_n (i := 0) rfl rfl (a_dec_at dc_R_readBoth 10 rfl) ?_
    refine ev_sipush (v := 3007) rfl (a_dec_at dc_R_readBoth 11 rfl) ?_
    refine cV1V cs_R_143 sh119 rfl (Nat.le_of_ble_eq_true rfl) (Nat.le_of_ble_eq_true rfl) (a_dec_at dc_R_readBoth 12 rfl) ?_
    refine CV.mono (fun mi4 ml4 z4 H => ?_) H
    refine ev_goto (tgt := 5) (a_dec_at dc_R_readBoth 13 rfl) (by decide) ?_
    exact Ev.drop (L' := [.ref 119, .int v1]) (And.intro rfl (And.intro rfl trivial)) H
set_option maxRecDepth 20000 in
theorem t_R_readUnit {l : Launch} {h : Nat} (mi : TMi) (ml : TMl) (z : Nat) (a1 : Int32) {Q : TMi → TMl → Nat → Prop} (H : CI l h m_R_is [.ref 119, .int 19] mi ml z (fun x1 mi1 ml1 z1 => ((x1 = 0 → CI l h m_R_is [.ref 119, .int 37] mi1 ml1 z1 (fun x3 mi3 ml3 z3 => ((x3 = 0 → CV l h m_R_readSum [.ref 119, .int a1] mi3 ml3 z3 (fun mi5 ml5 z5 => CI l h m_R_is [.ref 119, .int 39] mi5 ml5 z5 (fun x6 mi6 ml6 z6 => ((x6 = 0 → CI l h m_R_is [.ref 119, .int 40] mi6 ml6 z6 (fun x8 mi8 ml8 z8 => ((x8 = 0 → CI l h m_R_is [.ref 119, .int 39] mi8 ml8 z8 (fun x10 mi10 ml10 z10 => ((¬ x10 = 0 → CV l h m_R_next [.ref 119] mi10 ml10 z10 (fun mi12 ml12 z12 => CV l h m_R_readSum [.ref 119, .int a1] mi12 ml12 z12 (fun mi13 ml13 z13 => CV l h m_R_codes [.ref 119, .int 3005] mi13 ml13 z13 (fun mi14 ml14 z14 => Q mi14 ml14 z14)))) ∧ (x10 = 0 → CI l h m_R_is [.ref 119, .int 40] mi10 ml10 z10 (fun x15 mi15 ml15 z15 => ((¬ x15 = 0 → CV l h m_R_next [.ref 119] mi15 ml15 z15 (fun mi17 ml17 z17 => CV l h m_R_readSum [.ref 119, .int a1] mi17 ml17 z17 (fun mi18 ml18 z18 => CV l h m_R_codes [.ref 119, .int 3005] mi18 ml18 z18 (fun mi19 ml19 z19 => Q mi19 ml19 z19)))) ∧ (x15 = 0 → CI l h m_R_is [.ref 119, .int 41] mi15 ml15 z15 (fun x20 mi20 ml20 z20 => ((x20 = 0 → CV l h m_R_fails [.ref 119, .int 2] mi20 ml20 z20 (fun mi22 ml22 z22 => CV l h m_R_readSum [.ref 119, .int a1] mi22 ml22 z22 (fun mi23 ml23 z23 => CV l h m_R_codes [.ref 119, .int 3005] mi23 ml23 z23 (fun mi24 ml24 z24 => Q mi24 ml24 z24)))) ∧ (¬ x20 = 0 → CV l h m_R_next [.ref 119] mi20 ml20 z20 (fun mi25 ml25 z25 => CV l h m_R_readSum [.ref 119, .int a1] mi25 ml25 z25 (fun mi26 ml26 z26 => CV l h m_R_codes [.ref 119, .int 3005] mi26 ml26 z26 (fun mi27 ml27 z27 => Q mi27 ml27 z27))))))))))))) ∧ (¬ x8 = 0 → CI l h m_R_is [.ref 119, .int 39] mi8 ml8 z8 (fun x28 mi28 ml28 z28 => ((¬ x28 = 0 → CV l h m_R_next [.ref 119] mi28 ml28 z28 (fun mi30 ml30 z30 => CV l h m_R_readSum [.ref 119, .int a1] mi30 ml30 z30 (fun mi31 ml31 z31 => CV l h m_R_codes [.ref 119, .int 3004] mi31 ml31 z31 (fun mi32 ml32 z32 => Q mi32 ml32 z32)))) ∧ (x28 = 0 → CI l h m_R_is [.ref 119, .int 40] mi28 ml28 z28 (fun x33 mi33 ml33 z33 => ((¬ x33 = 0 → CV l h m_R_next [.ref 119] mi33 ml33 z33 (fun mi35 ml35 z35 => CV l h m_R_readSum [.ref 119, .int a1] mi35 ml35 z35 (fun mi36 ml36 z36 => CV l h m_R_codes [.ref 119, .int 3004] mi36 ml36 z36 (fun mi37 ml37 z37 => Q mi37 ml37 z37)))) ∧ (x33 = 0 → CI l h m_R_is [.ref 119, .int 41] mi33 ml33 z33 (fun x38 mi38 ml38 z38 => ((x38 = 0 → CV l h m_R_fails [.ref 119, .int 2] mi38 ml38 z38 (fun mi40 ml40 z40 => CV l h m_R_readSum [.ref 119, .int a1] mi40 ml40 z40 (fun mi41 ml41 z41 => CV l h m_R_codes [.ref 119, .int 3004] mi41 ml41 z41 (fun mi42 ml42 z42 => Q mi42 ml42 z42)))) ∧ (¬ x38 = 0 → CV l h m_R_next [.ref 119] mi38 ml38 z38 (fun mi43 ml43 z43 => CV l h m_R_readSum [.ref 119, .int a1] mi43 ml43 z43 (fun mi44 ml44 z44 => CV l h m_R_codes [.ref 119, .int 3004] mi44 ml44 z44 (fun mi45 ml45 z45 => Q mi45 ml45 z45)))))))))))))))) ∧ (¬ x6 = 0 → CI l h m_R_is [.ref 119, .int 39] mi6 ml6 z6 (fun x46 mi46 ml46 z46 => ((¬ x46 = 0 → CV l h m_R_next [.ref 119] mi46 ml46 z46 (fun mi48 ml48 z48 => CV l h m_R_readSum [.ref 119, .int a1] mi48 ml48 z48 (fun mi49 ml49 z49 => CV l h m_R_codes [.ref 119, .int 3003] mi49 ml49 z49 (fun mi50 ml50 z50 => Q mi50 ml50 z50)))) ∧ (x46 = 0 → CI l h m_R_is [.ref 119, .int 40] mi46 ml46 z46 (fun x51 mi51 ml51 z51 => ((¬ x51 = 0 → CV l h m_R_next [.ref 119] mi51 ml51 z51 (fun mi53 ml53 z53 => CV l h m_R_readSum [.ref 119, .int a1] mi53 ml53 z53 (fun mi54 ml54 z54 => CV l h m_R_codes [.ref 119, .int 3003] mi54 ml54 z54 (fun mi55 ml55 z55 => Q mi55 ml55 z55)))) ∧ (x51 = 0 → CI l h m_R_is [.ref 119, .int 41] mi51 ml51 z51 (fun x56 mi56 ml56 z56 => ((x56 = 0 → CV l h m_R_fails [.ref 119, .int 2] mi56 ml56 z56 (fun mi58 ml58 z58 => CV l h m_R_readSum [.ref 119, .int a1] mi58 ml58 z58 (fun mi59 ml59 z59 => CV l h m_R_codes [.ref 119, .int 3003] mi59 ml59 z59 (fun mi60 ml60 z60 => Q mi60 ml60 z60)))) ∧ (¬ x56 = 0 → CV l h m_R_next [.ref 119] mi56 ml56 z56 (fun mi61 ml61 z61 => CV l h m_R_readSum [.ref 119, .int a1] mi61 ml61 z61 (fun mi62 ml62 z62 => CV l h m_R_codes [.ref 119, .int 3003] mi62 ml62 z62 (fun mi63 ml63 z63 => Q mi63 ml63 z63))))))))))))))))) ∧ (¬ x3 = 0 → CI l h m_R_goesIn [.ref 119, .int a1] mi3 ml3 z3 (fun x64 mi64 ml64 z64 => ((¬ x64 = 0 → CV l h m_R_readTruth [.ref 119, .int (a1 + 1)] mi64 ml64 z64 (fun mi66 ml66 z66 => CI l h m_R_eats [.ref 119, .int 38] mi66 ml66 z66 (fun x67 mi67 ml67 z67 => ((¬ x67 = 0 → Q mi67 ml67 z67) ∧ (x67 = 0 → CV l h m_R_fails [.ref 119, .int 2] mi67 ml67 z67 (fun mi69 ml69 z69 => Q mi69 ml69 z69)))))) ∧ (x64 = 0 → Q mi64 ml64 z64))))))) ∧ (¬ x1 = 0 → CI l h m_R_goesIn [.ref 119, .int a1] mi1 ml1 z1 (fun x70 mi70 ml70 z70 => ((¬ x70 = 0 → CV l h m_R_readUnit [.ref 119, .int (a1 + 1)] mi70 ml70 z70 (fun mi72 ml72 z72 => CV l h m_R_codes [.ref 119, .int 3006] mi72 ml72 z72 (fun mi73 ml73 z73 => Q mi73 ml73 z73))) ∧ (x70 = 0 → Q mi70 ml70 z70))))))) : CV l (h + 1) m_R_readUnit [.ref 119, .int a1] mi ml z Q := by
  show Ev l (h + 1) m_R_readUnit 0 ([.ref 119, .int a1, .retAddr 0], [], st mi ml z) (qV Q)
  refine ev_aload_n (i := 0) rfl rfl (a_dec_at dc_R_readUnit 0 rfl) ?_
  refine ev_bipush (v := 19) rfl (a_dec_at dc_R_readUnit 1 rfl) ?_
  refine cV1I cs_R_129 sh119 rfl (Nat.le_of_ble_eq_true rfl) (Nat.le_of_ble_eq_true rfl) (a_dec_at dc_R_readUnit 2 rfl) ?_
  refine CI.mono (fun x1 mi1 ml1 z1 H => ?_) H
  refine ev_if_eq (tgt := 33) (a_dec_at dc_R_readUnit 3 rfl) (by decide) (fun b2 => ?_) (fun b2 => ?_)
  · have H := H.1 b2
    refine ev_aload_n (i := 0) rfl rfl (a_dec_at dc_R_readUnit 18 rfl) ?_
    refine ev_bipush (v := 37) rfl (a_dec_at dc_R_readUnit 19 rfl) ?_
    refine cV1I cs_R_129 sh119 rfl (Nat.le_of_ble_eq_true rfl) (Nat.le_of_ble_eq_true rfl) (a_dec_at dc_R_readUnit 20 rfl) ?_
    refine CI.mono (fun x3 mi3 ml3 z3 H => ?_) H
    refine ev_if_eq (tgt := 73) (a_dec_at dc_R_readUnit 21 rfl) (by decide) (fun b4 => ?_) (fun b4 => ?_)
    · have H := H.1 b4
      refine ev_aload_n (i := 0) rfl rfl (a_dec_at dc_R_readUnit 40 rfl) ?_
      refine ev_iload_n (i := 1) rfl rfl (a_dec_at dc_R_readUnit 41 rfl) ?_
      refine cV1V cs_R_152 sh119 rfl (Nat.le_of_ble_eq_true rfl) (Nat.le_of_ble_eq_true rfl) (a_dec_at dc_R_readUnit 42 rfl) ?_
      refine CV.mono (fun mi5 ml5 z5 H => ?_) H
      refine ev_aload_n (i := 0) rfl rfl (a_dec_at dc_R_readUnit 43 rfl) ?_
      refine ev_bipush (v := 39) rfl (a_dec_at dc_R_readUnit 44 rfl) ?_
      refine cV1I cs_R_129 sh119 rfl (Nat.le_of_ble_eq_true rfl) (Nat.le_of_ble_eq_true rfl) (a_dec_at dc_R_readUnit 45 rfl) ?_
      refine CI.mono (fun x6 mi6 ml6 z6 H => ?_) H
      refine ev_if_eq (tgt := 93) (a_dec_at dc_R_readUnit 46 rfl) (by decide) (fun b7 => ?_) (fun b7 => ?_)
      · have H := H.1 b7
        refine ev_aload_n (i := 0) rfl rfl (a_dec_at dc_R_readUnit 49 rfl) ?_
        refine ev_bipush (v := 40) rfl (a_dec_at dc_R_readUnit 50 rfl) ?_
        refine cV1I cs_R_129 sh119 rfl (Nat.le_of_ble_eq_true rfl) (Nat.le_of_ble_eq_true rfl) (a_dec_at dc_R_readUnit 51 rfl) ?_
        refine CI.mono (fun x8 mi8 ml8 z8 H => ?_) H
        refine ev_if_eq (tgt := 108) (a_dec_at dc_R_readUnit 52 rfl) (by decide) (fun b9 => ?_) (fun b9 => ?_)
        · have H := H.1 b9
          refine ev_sipush (v := 3005) rfl (a_dec_at dc_R_readUnit 55 rfl) ?_
          refine ev_istore_n (i := 2) rfl (by decide) rfl (a_dec_at dc_R_readUnit 56 rfl) ?_
          refine ev_aload_n (i := 0) rfl rfl (a_dec_at dc_R_readUnit 57 rfl) ?_
          refine ev_bipush (v := 39) rfl (a_dec_at dc_R_readUnit 58 rfl) ?_
          refine cV1I cs_R_129 sh119 rfl (Nat.le_of_ble_eq_true rfl) (Nat.le_of_ble_eq_true rfl) (a_dec_at dc_R_readUnit 59 rfl) ?_
          refine CI.mono (fun x10 mi10 ml10 z10 H => ?_) H
          refine ev_if_ne (tgt := 139) (a_dec_at dc_R_readUnit 60 rfl) (by decide) (fun b11 => ?_) (fun b11 => ?_)
          · have H := H.1 b11
            refine ev_aload_n (i := 0) rfl rfl (a_dec_at dc_R_readUnit 69 rfl) ?_
            refine cV0V cs_R_132 sh119 rfl (Nat.le_of_ble_eq_true rfl) (Nat.le_of_ble_eq_true rfl) (a_dec_at dc_R_readUnit 70 rfl) ?_
            refine CV.mono (fun mi12 ml12 z12 H => ?_) H
            refine ev_goto (tgt := 151) (a_dec_at dc_R_readUnit 71 rfl) (by decide) ?_
            refine ev_aload_n (i := 0) rfl rfl (a_dec_at dc_R_readUnit 75 rfl) ?_
            refine ev_iload_n (i := 1) rfl rfl (a_dec_at dc_R_readUnit 76 rfl) ?_
            refine cV1V cs_R_152 sh119 rfl (Nat.le_of_ble_eq_true rfl) (Nat.le_of_ble_eq_true rfl) (a_dec_at dc_R_readUnit 77 rfl) ?_
            refine CV.mono (fun mi13 ml13 z13 H => ?_) H
            refine ev_aload_n (i := 0) rfl rfl (a_dec_at dc_R_readUnit 78 rfl) ?_
            refine ev_iload_n (i := 2) rfl rfl (a_dec_at dc_R_readUnit 79 rfl) ?_
            refine cV1V cs_R_143 sh119 rfl (Nat.le_of_ble_eq_true rfl) (Nat.le_of_ble_eq_true rfl) (a_dec_at dc_R_readUnit 80 rfl) ?_
            refine CV.mono (fun mi14 ml14 z14 H => ?_) H
            exact m_retV (a_dec_at dc_R_readUnit 81 rfl) rfl H
          · have H := H.2 b11
            refine ev_aload_n (i := 0) rfl rfl (a_dec_at dc_R_readUnit 61 rfl) ?_
            refine ev_bipush (v := 40) rfl (a_dec_at dc_R_readUnit 62 rfl) ?_
            refine cV1I cs_R_129 sh119 rfl (Nat.le_of_ble_eq_true rfl) (Nat.le_of_ble_eq_true rfl) (a_dec_at dc_R_readUnit 63 rfl) ?_
            refine CI.mono (fun x15 mi15 ml15 z15 H => ?_) H
            refine ev_if_ne (tgt := 139) (a_dec_at dc_R_readUnit 64 rfl) (by decide) (fun b16 => ?_) (fun b16 => ?_)
            · have H := H.1 b16
              refine ev_aload_n (i := 0) rfl rfl (a_dec_at dc_R_readUnit 69 rfl) ?_
              refine cV0V cs_R_132 sh119 rfl (Nat.le_of_ble_eq_true rfl) (Nat.le_of_ble_eq_true rfl) (a_dec_at dc_R_readUnit 70 rfl) ?_
              refine CV.mono (fun mi17 ml17 z17 H => ?_) H
              refine ev_goto (tgt := 151) (a_dec_at dc_R_readUnit 71 rfl) (by decide) ?_
              refine ev_aload_n (i := 0) rfl rfl (a_dec_at dc_R_readUnit 75 rfl) ?_
              refine ev_iload_n (i := 1) rfl rfl (a_dec_at dc_R_readUnit 76 rfl) ?_
              refine cV1V cs_R_152 sh119 rfl (Nat.le_of_ble_eq_true rfl) (Nat.le_of_ble_eq_true rfl) (a_dec_at dc_R_readUnit 77 rfl) ?_
              refine CV.mono (fun mi18 ml18 z18 H => ?_) H
              refine ev_aload_n (i := 0) rfl rfl (a_dec_at dc_R_readUnit 78 rfl) ?_
              refine ev_iload_n (i := 2) rfl rfl (a_dec_at dc_R_readUnit 79 rfl) ?_
              refine cV1V cs_R_143 sh119 rfl (Nat.le_of_ble_eq_true rfl) (Nat.le_of_ble_eq_true rfl) (a_dec_at dc_R_readUnit 80 rfl) ?_
              refine CV.mono (fun mi19 ml19 z19 H => ?_) H
              exact m_retV (a_dec_at dc_R_readUnit 81 rfl) rfl H
            · have H := H.2 b16
              refine ev_aload_n (i := 0) rfl rfl (a_dec_at dc_R_readUnit 65 rfl) ?_
              refine ev_bipush (v := 41) rfl (a_dec_at dc_R_readUnit 66 rfl) ?_
              refine cV1I cs_R_129 sh119 rfl (Nat.le_of_ble_eq_true rfl) (Nat.le_of_ble_eq_true rfl) (a_dec_at dc_R_readUnit 67 rfl) ?_
              refine CI.mono (fun x20 mi20 ml20 z20 H => ?_) H
              refine ev_if_eq (tgt := 146) (a_dec_at dc_R_readUnit 68 rfl) (by decide) (fun b21 => ?_) (fun b21 => ?_)
              · have H := H.1 b21
                refine ev_aload_n (i := 0) rfl rfl (a_dec_at dc_R_readUnit 72 rfl) ?_
                refine ev_iconst (v := 2) rfl (a_dec_at dc_R_readUnit 73 rfl) ?_
                refine cV1V cs_R_135 sh119 rfl (Nat.le_of_ble_eq_true rfl) (Nat.le_of_ble_eq_true rfl) (a_dec_at dc_R_readUnit 74 rfl) ?_
                refine CV.mono (fun mi22 ml22 z22 H => ?_) H
                refine ev_aload_n (i := 0) rfl rfl (a_dec_at dc_R_readUnit 75 rfl) ?_
                refine ev_iload_n (i := 1) rfl rfl (a_dec_at dc_R_readUnit 76 rfl) ?_
                refine cV1V cs_R_152 sh119 rfl (Nat.le_of_ble_eq_true rfl) (Nat.le_of_ble_eq_true rfl) (a_dec_at dc_R_readUnit 77 rfl) ?_
                refine CV.mono (fun mi23 ml23 z23 H => ?_) H
                refine ev_aload_n (i := 0) rfl rfl (a_dec_at dc_R_readUnit 78 rfl) ?_
                refine ev_iload_n (i := 2) rfl rfl (a_dec_at dc_R_readUnit 79 rfl) ?_
                refine cV1V cs_R_143 sh119 rfl (Nat.le_of_ble_eq_true rfl) (Nat.le_of_ble_eq_true rfl) (a_dec_at dc_R_readUnit 80 rfl) ?_
                refine CV.mono (fun mi24 ml24 z24 H => ?_) H
                exact m_retV (a_dec_at dc_R_readUnit 81 rfl) rfl H
              · have H := H.2 b21
                refine ev_aload_n (i := 0) rfl rfl (a_dec_at dc_R_readUnit 69 rfl) ?_
                refine cV0V cs_R_132 sh119 rfl (Nat.le_of_ble_eq_true rfl) (Nat.le_of_ble_eq_true rfl) (a_dec_at dc_R_readUnit 70 rfl) ?_
                refine CV.mono (fun mi25 ml25 z25 H => ?_) H
                refine ev_goto (tgt := 151) (a_dec_at dc_R_readUnit 71 rfl) (by decide) ?_
                refine ev_aload_n (i := 0) rfl rfl (a_dec_at dc_R_readUnit 75 rfl) ?_
                refine ev_iload_n (i := 1) rfl rfl (a_dec_at dc_R_readUnit 76 rfl) ?_
                refine cV1V cs_R_152 sh119 rfl (Nat.le_of_ble_eq_true rfl) (Nat.le_of_ble_eq_true rfl) (a_dec_at dc_R_readUnit 77 rfl) ?_
                refine CV.mono (fun mi26 ml26 z26 H => ?_) H
                refine ev_aload_n (i := 0) rfl rfl (a_dec_at dc_R_readUnit 78 rfl) ?_
                refine ev_iload_n (i := 2) rfl rfl (a_dec_at dc_R_readUnit 79 rfl) ?_
                refine cV1V cs_R_143 sh119 rfl (Nat.le_of_ble_eq_true rfl) (Nat.le_of_ble_eq_true rfl) (a_dec_at dc_R_readUnit 80 rfl) ?_
                refine CV.mono (fun mi27 ml27 z27 H => ?_) H
                exact m_retV (a_dec_at dc_R_readUnit 81 rfl) rfl H
        · have H := H.2 b9
          refine ev_sipush (v := 3004) rfl (a_dec_at dc_R_readUnit 53 rfl) ?_
          refine ev_goto (tgt := 111) (a_dec_at dc_R_readUnit 54 rfl) (by decide) ?_
          refine ev_istore_n (i := 2) rfl (by decide) rfl (a_dec_at dc_R_readUnit 56 rfl) ?_
          refine ev_aload_n (i := 0) rfl rfl (a_dec_at dc_R_readUnit 57 rfl) ?_
          refine ev_bipush (v := 39) rfl (a_dec_at dc_R_readUnit 58 rfl) ?_
          refine cV1I cs_R_129 sh119 rfl (Nat.le_of_ble_eq_true rfl) (Nat.le_of_ble_eq_true rfl) (a_dec_at dc_R_readUnit 59 rfl) ?_
          refine CI.mono (fun x28 mi28 ml28 z28 H => ?_) H
          refine ev_if_ne (tgt := 139) (a_dec_at dc_R_readUnit 60 rfl) (by decide) (fun b29 => ?_) (fun b29 => ?_)
          · have H := H.1 b29
            refine ev_aload_n (i := 0) rfl rfl (a_dec_at dc_R_readUnit 69 rfl) ?_
            refine cV0V cs_R_132 sh119 rfl (Nat.le_of_ble_eq_true rfl) (Nat.le_of_ble_eq_true rfl) (a_dec_at dc_R_readUnit 70 rfl) ?_
            refine CV.mono (fun mi30 ml30 z30 H => ?_) H
            refine ev_goto (tgt := 151) (a_dec_at dc_R_readUnit 71 rfl) (by decide) ?_
            refine ev_aload_n (i := 0) rfl rfl (a_dec_at dc_R_readUnit 75 rfl) ?_
            refine ev_iload_n (i := 1) rfl rfl (a_dec_at dc_R_readUnit 76 rfl) ?_
            refine cV1V cs_R_152 sh119 rfl (Nat.le_of_ble_eq_true rfl) (Nat.le_of_ble_eq_true rfl) (a_dec_at dc_R_readUnit 77 rfl) ?_
            refine CV.mono (fun mi31 ml31 z31 H => ?_) H
            refine ev_aload_n (i := 0) rfl rfl (a_dec_at dc_R_readUnit 78 rfl) ?_
            refine ev_iload_n (i := 2) rfl rfl (a_dec_at dc_R_readUnit 79 rfl) ?_
            refine cV1V cs_R_143 sh119 rfl (Nat.le_of_ble_eq_true rfl) (Nat.le_of_ble_eq_true rfl) (a_dec_at dc_R_readUnit 80 rfl) ?_
            refine CV.mono (fun mi32 ml32 z32 H => ?_) H
            exact m_retV (a_dec_at dc_R_readUnit 81 rfl) rfl H
          · have H := H.2 b29
            refine ev_aload_n (i := 0) rfl rfl (a_dec_at dc_R_readUnit 61 rfl) ?_
            refine ev_bipush (v := 40) rfl (a_dec_at dc_R_readUnit 62 rfl) ?_
            refine cV1I cs_R_129 sh119 rfl (Nat.le_of_ble_eq_true rfl) (Nat.le_of_ble_eq_true rfl) (a_dec_at dc_R_readUnit 63 rfl) ?_
            refine CI.mono (fun x33 mi33 ml33 z33 H => ?_) H
            refine ev_if_ne (tgt := 139) (a_dec_at dc_R_readUnit 64 rfl) (by decide) (fun b34 => ?_) (fun b34 => ?_)
            · have H := H.1 b34
              refine ev_aload_n (i := 0) rfl rfl (a_dec_at dc_R_readUnit 69 rfl) ?_
              refine cV0V cs_R_132 sh119 rfl (Nat.le_of_ble_eq_true rfl) (Nat.le_of_ble_eq_true rfl) (a_dec_at dc_R_readUnit 70 rfl) ?_
              refine CV.mono (fun mi35 ml35 z35 H => ?_) H
              refine ev_goto (tgt := 151) (a_dec_at dc_R_readUnit 71 rfl) (by decide) ?_
              refine ev_aload_n (i := 0) rfl rfl (a_dec_at dc_R_readUnit 75 rfl) ?_
              refine ev_iload_n (i := 1) rfl rfl (a_dec_at dc_R_readUnit 76 rfl) ?_
              refine cV1V cs_R_152 sh119 rfl (Nat.le_of_ble_eq_true rfl) (Nat.le_of_ble_eq_true rfl) (a_dec_at dc_R_readUnit 77 rfl) ?_
              refine CV.mono (fun mi36 ml36 z36 H => ?_) H
              refine ev_aload_n (i := 0) rfl rfl (a_dec_at dc_R_readUnit 78 rfl) ?_
              refine ev_iload_n (i := 2) rfl rfl (a_dec_at dc_R_readUnit 79 rfl) ?_
              refine cV1V cs_R_143 sh119 rfl (Nat.le_of_ble_eq_true rfl) (Nat.le_of_ble_eq_true rfl) (a_dec_at dc_R_readUnit 80 rfl) ?_
              refine CV.mono (fun mi37 ml37 z37 H => ?_) H
              exact m_retV (a_dec_at dc_R_readUnit 81 rfl) rfl H
            · have H := H.2 b34
              refine ev_aload_n (i := 0) rfl rfl (a_dec_at dc_R_readUnit 65 rfl) ?_
              refine ev_bipush (v := 41) rfl (a_dec_at dc_R_readUnit 66 rfl) ?_
              refine cV1I cs_R_129 sh119 rfl (Nat.le_of_ble_eq_true rfl) (Nat.le_of_ble_eq_true rfl) (a_dec_at dc_R_readUnit 67 rfl) ?_
              refine CI.mono (fun x38 mi38 ml38 z38 H => ?_) H
              refine ev_if_eq (tgt := 146) (a_dec_at dc_R_readUnit 68 rfl) (by decide) (fun b39 => ?_) (fun b39 => ?_)
              · have H := H.1 b39
                refine ev_aload_n (i := 0) rfl rfl (a_dec_at dc_R_readUnit 72 rfl) ?_
                refine ev_iconst (v := 2) rfl (a_dec_at dc_R_readUnit 73 rfl) ?_
                refine cV1V cs_R_135 sh119 rfl (Nat.le_of_ble_eq_true rfl) (Nat.le_of_ble_eq_true rfl) (a_dec_at dc_R_readUnit 74 rfl) ?_
                refine CV.mono (fun mi40 ml40 z40 H => ?_) H
                refine ev_aload_n (i := 0) rfl rfl (a_dec_at dc_R_readUnit 75 rfl) ?_
                refine ev_iload_n (i := 1) rfl rfl (a_dec_at dc_R_readUnit 76 rfl) ?_
                refine cV1V cs_R_152 sh119 rfl (Nat.le_of_ble_eq_true rfl) (Nat.le_of_ble_eq_true rfl) (a_dec_at dc_R_readUnit 77 rfl) ?_
                refine CV.mono (fun mi41 ml41 z41 H => ?_) H
                refine ev_aload_n (i := 0) rfl rfl (a_dec_at dc_R_readUnit 78 rfl) ?_
                refine ev_iload_n (i := 2) rfl rfl (a_dec_at dc_R_readUnit 79 rfl) ?_
                refine cV1V cs_R_143 sh119 rfl (Nat.le_of_ble_eq_true rfl) (Nat.le_of_ble_eq_true rfl) (a_dec_at dc_R_readUnit 80 rfl) ?_
                refine CV.mono (fun mi42 ml42 z42 H => ?_) H
                exact m_retV (a_dec_at dc_R_readUnit 81 rfl) rfl H
              · have H := H.2 b39
                refine ev_aload_n (i := 0) rfl rfl (a_dec_at dc_R_readUnit 69 rfl) ?_
                refine cV0V cs_R_132 sh119 rfl (Nat.le_of_ble_eq_true rfl) (Nat.le_of_ble_eq_true rfl) (a_dec_at dc_R_readUnit 70 rfl) ?_
                refine CV.mono (fun mi43 ml43 z43 H => ?_) H
                refine ev_goto (tgt := 151) (a_dec_at dc_R_readUnit 71 rfl) (by decide) ?_
                refine ev_aload_n (i := 0) rfl rfl (a_dec_at dc_R_readUnit 75 rfl) ?_
                refine ev_iload_n (i := 1) rfl rfl (a_dec_at dc_R_readUnit 76 rfl) ?_
                refine cV1V cs_R_152 sh119 rfl (Nat.le_of_ble_eq_true rfl) (Nat.le_of_ble_eq_true rfl) (a_dec_at dc_R_readUnit 77 rfl) ?_
                refine CV.mono (fun mi44 ml44 z44 H => ?_) H
                refine ev_aload_n (i := 0) rfl rfl (a_dec_at dc_R_readUnit 78 rfl) ?_
                refine ev_iload_n (i := 2) rfl rfl (a_dec_at dc_R_readUnit 79 rfl) ?_
                refine cV1V cs_R_143 sh119 rfl (Nat.le_of_ble_eq_true rfl) (Nat.le_of_ble_eq_true rfl) (a_dec_at dc_R_readUnit 80 rfl) ?_
                refine CV.mono (fun mi45 ml45 z45 H => ?_) H
                exact m_retV (a_dec_at dc_R_readUnit 81 rfl) rfl H
      · have H := H.2 b7
        refine ev_sipush (v := 3003) rfl (a_dec_at dc_R_readUnit 47 rfl) ?_
        refine ev_goto (tgt := 111) (a_dec_at dc_R_readUnit 48 rfl) (by decide) ?_
        refine ev_istore_n (i := 2) rfl (by decide) rfl (a_dec_at dc_R_readUnit 56 rfl) ?_
        refine ev_aload_n (i := 0) rfl rfl (a_dec_at dc_R_readUnit 57 rfl) ?_
        refine ev_bipush (v := 39) rfl (a_dec_at dc_R_readUnit 58 rfl) ?_
        refine cV1I cs_R_129 sh119 rfl (Nat.le_of_ble_eq_true rfl) (Nat.le_of_ble_eq_true rfl) (a_dec_at dc_R_readUnit 59 rfl) ?_
        refine CI.mono (fun x46 mi46 ml46 z46 H => ?_) H
        refine ev_if_ne (tgt := 139) (a_dec_at dc_R_readUnit 60 rfl) (by decide) (fun b47 => ?_) (fun b47 => ?_)
        · have H := H.1 b47
          refine ev_aload_n (i := 0) rfl rfl (a_dec_at dc_R_readUnit 69 rfl) ?_
          refine cV0V cs_R_132 sh119 rfl (Nat.le_of_ble_eq_true rfl) (Nat.le_of_ble_eq_true rfl) (a_dec_at dc_R_readUnit 70 rfl) ?_
          refine CV.mono (fun mi48 ml48 z48 H => ?_) H
          refine ev_goto (tgt := 151) (a_dec_at dc_R_readUnit 71 rfl) (by decide) ?_
          refine ev_aload_n (i := 0) rfl rfl (a_dec_at dc_R_readUnit 75 rfl) ?_
          refine ev_iload_n (i := 1) rfl rfl (a_dec_at dc_R_readUnit 76 rfl) ?_
          refine cV1V cs_R_152 sh119 rfl (Nat.le_of_ble_eq_true rfl) (Nat.le_of_ble_eq_true rfl) (a_dec_at dc_R_readUnit 77 rfl) ?_
          refine CV.mono (fun mi49 ml49 z49 H => ?_) H
          refine ev_aload_n (i := 0) rfl rfl (a_dec_at dc_R_readUnit 78 rfl) ?_
          refine ev_iload_n (i := 2) rfl rfl (a_dec_at dc_R_readUnit 79 rfl) ?_
          refine cV1V cs_R_143 sh119 rfl (Nat.le_of_ble_eq_true rfl) (Nat.le_of_ble_eq_true rfl) (a_dec_at dc_R_readUnit 80 rfl) ?_
          refine CV.mono (fun mi50 ml50 z50 H => ?_) H
          exact m_retV (a_dec_at dc_R_readUnit 81 rfl) rfl H
        · have H := H.2 b47
          refine ev_aload_n (i := 0) rfl rfl (a_dec_at dc_R_readUnit 61 rfl) ?_
          refine ev_bipush (v := 40) rfl (a_dec_at dc_R_readUnit 62 rfl) ?_
          refine cV1I cs_R_129 sh119 rfl (Nat.le_of_ble_eq_true rfl) (Nat.le_of_ble_eq_true rfl) (a_dec_at dc_R_readUnit 63 rfl) ?_
          refine CI.mono (fun x51 mi51 ml51 z51 H => ?_) H
          refine ev_if_ne (tgt := 139) (a_dec_at dc_R_readUnit 64 rfl) (by decide) (fun b52 => ?_) (fun b52 => ?_)
          · have H := H.1 b52
            refine ev_aload_n (i := 0) rfl rfl (a_dec_at dc_R_readUnit 69 rfl) ?_
            refine cV0V cs_R_132 sh119 rfl (Nat.le_of_ble_eq_true rfl) (Nat.le_of_ble_eq_true rfl) (a_dec_at dc_R_readUnit 70 rfl) ?_
            refine CV.mono (fun mi53 ml53 z53 H => ?_) H
            refine ev_goto (tgt := 151) (a_dec_at dc_R_readUnit 71 rfl) (by decide) ?_
            refine ev_aload_n (i := 0) rfl rfl (a_dec_at dc_R_readUnit 75 rfl) ?_
            refine ev_iload_n (i := 1) rfl rfl (a_dec_at dc_R_readUnit 76 rfl) ?_
            refine cV1V cs_R_152 sh119 rfl (Nat.le_of_ble_eq_true rfl) (Nat.le_of_ble_eq_true rfl) (a_dec_at dc_R_readUnit 77 rfl) ?_
            refine CV.mono (fun mi54 ml54 z54 H => ?_) H
            refine ev_aload_n (i := 0) rfl rfl (a_dec_at dc_R_readUnit 78 rfl) ?_
            refine ev_iload_n (i := 2) rfl rfl (a_dec_at dc_R_readUnit 79 rfl) ?_
            refine cV1V cs_R_143 sh119 rfl (Nat.le_of_ble_eq_true rfl) (Nat.le_of_ble_eq_true rfl) (a_dec_at dc_R_readUnit 80 rfl) ?_
            refine CV.mono (fun mi55 ml55 z55 H => ?_) H
            exact m_retV (a_dec_at dc_R_readUnit 81 rfl) rfl H
          · have H := H.2 b52
            refine ev_aload_n (i := 0) rfl rfl (a_dec_at dc_R_readUnit 65 rfl) ?_
            refine ev_bipush (v := 41) rfl (a_dec_at dc_R_readUnit 66 rfl) ?_
            refine cV1I cs_R_129 sh119 rfl (Nat.le_of_ble_eq_true rfl) (Nat.le_of_ble_eq_true rfl) (a_dec_at dc_R_readUnit 67 rfl) ?_
            refine CI.mono (fun x56 mi56 ml56 z56 H => ?_) H
            refine ev_if_eq (tgt := 146) (a_dec_at dc_R_readUnit 68 rfl) (by decide) (fun b57 => ?_) (fun b57 => ?_)
            · have H := H.1 b57
              refine ev_aload_n (i := 0) rfl rfl (a_dec_at dc_R_readUnit 72 rfl) ?_
              refine ev_iconst (v := 2) rfl (a_dec_at dc_R_readUnit 73 rfl) ?_
              refine cV1V cs_R_135 sh119 rfl (Nat.le_of_ble_eq_true rfl) (Nat.le_of_ble_eq_true rfl) (a_dec_at dc_R_readUnit 74 rfl) ?_
              refine CV.mono (fun mi58 ml58 z58 H => ?_) H
              refine ev_aload_n (i := 0) rfl rfl (a_dec_at dc_R_readUnit 75 rfl) ?_
              refine ev_iload_n (i := 1) rfl rfl (a_dec_at dc_R_readUnit 76 rfl) ?_
              refine cV1V cs_R_152 sh119 rfl (Nat.le_of_ble_eq_true rfl) (Nat.le_of_ble_eq_true rfl) (a_dec_at dc_R_readUnit 77 rfl) ?_
              refine CV.mono (fun mi59 ml59 z59 H => ?_) H
              refine ev_aload_n (i := 0) rfl rfl (a_dec_at dc_R_readUnit 78 rfl) ?_
              refine ev_iload_n (i := 2) rfl rfl (a_dec_at dc_R_readUnit 79 rfl) ?_
              refine cV1V cs_R_143 sh119 rfl (Nat.le_of_ble_eq_true rfl) (Nat.le_of_ble_eq_true rfl) (a_dec_at dc_R_readUnit 80 rfl) ?_
              refine CV.mono (fun mi60 ml60 z60 H => ?_) H
              exact m_retV (a_dec_at dc_R_readUnit 81 rfl) rfl H
            · have H := H.2 b57
              refine ev_aload_n (i := 0) rfl rfl (a_dec_at dc_R_readUnit 69 rfl) ?_
              refine cV0V cs_R_132 sh119 rfl (Nat.le_of_ble_eq_true rfl) (Nat.le_of_ble_eq_true rfl) (a_dec_at dc_R_readUnit 70 rfl) ?_
              refine CV.mono (fun mi61 ml61 z61 H => ?_) H
              refine ev_goto (tgt := 151) (a_dec_at dc_R_readUnit 71 rfl) (by decide) ?_
              refine ev_aload_n (i := 0) rfl rfl (a_dec_at dc_R_readUnit 75 rfl) ?_
              refine ev_iload_n (i := 1) rfl rfl (a_dec_at dc_R_readUnit 76 rfl) ?_
              refine cV1V cs_R_152 sh119 rfl (Nat.le_of_ble_eq_true rfl) (Nat.le_of_ble_eq_true rfl) (a_dec_at dc_R_readUnit 77 rfl) ?_
              refine CV.mono (fun mi62 ml62 z62 H => ?_) H
              refine ev_aload_n (i := 0) rfl rfl (a_dec_at dc_R_readUnit 78 rfl) ?_
              refine ev_iload_n (i := 2) rfl rfl (a_dec_at dc_R_readUnit 79 rfl) ?_
              refine cV1V cs_R_143 sh119 rfl (Nat.le_of_ble_eq_true rfl) (Nat.le_of_ble_eq_true rfl) (a_dec_at dc_R_readUnit 80 rfl) ?_
              refine CV.mono (fun mi63 ml63 z63 H => ?_) H
              exact m_retV (a_dec_at dc_R_readUnit 81 rfl) rfl H
    · have H := H.2 b4
      refine ev_aload_n (i := 0) rfl rfl (a_dec_at dc_R_readUnit 22 rfl) ?_
      refine ev_iload_n (i := 1) rfl rfl (a_dec_at dc_R_readUnit 23 rfl) ?_
      refine cV1I cs_R_149 sh119 rfl (Nat.le_of_ble_eq_true rfl) (Nat.le_of_ble_eq_true rfl) (a_dec_at dc_R_readUnit 24 rfl) ?_
      refine CI.mono (fun x64 mi64 ml64 z64 H => ?_) H
      refine ev_if_ne (tgt := 51) (a_dec_at dc_R_readUnit 25 rfl) (by decide) (fun b65 => ?_) (fun b65 => ?_)
      · have H := H.1 b65
        refine ev_aload_n (i := 0) rfl rfl (a_dec_at dc_R_readUnit 27 rfl) ?_
        refine ev_iload_n (i := 1) rfl rfl (a_dec_at dc_R_readUnit 28 rfl) ?_
        refine ev_iconst (v := 1) rfl (a_dec_at dc_R_readUnit 29 rfl) ?_
        refine ev_iadd (a_dec_at dc_R_readUnit 30 rfl) ?_
        refine cV1V cs_R_161 sh119 rfl (Nat.le_of_ble_eq_true rfl) (Nat.le_of_ble_eq_true rfl) (a_dec_at dc_R_readUnit 31 rfl) ?_
        refine CV.mono (fun mi66 ml66 z66 H => ?_) H
        refine ev_aload_n (i := 0) rfl rfl (a_dec_at dc_R_readUnit 32 rfl) ?_
        refine ev_bipush (v := 38) rfl (a_dec_at dc_R_readUnit 33 rfl) ?_
        refine cV1I cs_R_155 sh119 rfl (Nat.le_of_ble_eq_true rfl) (Nat.le_of_ble_eq_true rfl) (a_dec_at dc_R_readUnit 34 rfl) ?_
        refine CI.mono (fun x67 mi67 ml67 z67 H => ?_) H
        refine ev_if_ne (tgt := 72) (a_dec_at dc_R_readUnit 35 rfl) (by decide) (fun b68 => ?_) (fun b68 => ?_)
        · have H := H.1 b68
          exact m_retV (a_dec_at dc_R_readUnit 39 rfl) rfl H
        · have H := H.2 b68
          refine ev_aload_n (i := 0) rfl rfl (a_dec_at dc_R_readUnit 36 rfl) ?_
          refine ev_iconst (v := 2) rfl (a_dec_at dc_R_readUnit 37 rfl) ?_
          refine cV1V cs_R_135 sh119 rfl (Nat.le_of_ble_eq_true rfl) (Nat.le_of_ble_eq_true rfl) (a_dec_at dc_R_readUnit 38 rfl) ?_
          refine CV.mono (fun mi69 ml69 z69 H => ?_) H
          exact m_retV (a_dec_at dc_R_readUnit 39 rfl) rfl H
      · have H := H.2 b65
        exact m_retV (a_dec_at dc_R_readUnit 26 rfl) rfl H
  · have H := H.2 b2
    refine ev_aload_n (i := 0) rfl rfl (a_dec_at dc_R_readUnit 4 rfl) ?_
    refine ev_iload_n (i := 1) rfl rfl (a_dec_at dc_R_readUnit 5 rfl) ?_
    refine cV1I cs_R_149 sh119 rfl (Nat.le_of_ble_eq_true rfl) (Nat.le_of_ble_eq_true rfl) (a_dec_at dc_R_readUnit 6 rfl) ?_
    refine CI.mono (fun x70 mi70 ml70 z70 H => ?_) H
    refine ev_if_ne (tgt := 18) (a_dec_at dc_R_readUnit 7 rfl) (by decide) (fun b71 => ?_) (fun b71 => ?_)
    · have H := H.1 b71
      refine ev_aload_n (i := 0) rfl rfl (a_dec_at dc_R_readUnit 9 rfl) ?_
      refine ev_iload_n (i := 1) rfl rfl (a_dec_at dc_R_readUnit 10 rfl) ?_
      refine ev_iconst (v := 1) rfl (a_dec_at dc_R_readUnit 11 rfl) ?_
      refine ev_iadd (a_dec_at dc_R_readUnit 12 rfl) ?_
      refine cV1V cs_R_170 sh119 rfl (Nat.le_of_ble_eq_true rfl) (Nat.le_of_ble_eq_true rfl) (a_dec_at dc_R_readUnit 13 rfl) ?_
      refine CV.mono (fun mi72 ml72 z72 H => ?_) H
      refine ev_aload_n (i := 0) rfl rfl (a_dec_at dc_R_readUnit 14 rfl) ?_
      refine ev_sipush (v := 3006) rfl (a_dec_at dc_R_readUnit 15 rfl) ?_
      refine cV1V cs_R_143 sh119 rfl (Nat.le_of_ble_eq_true rfl) (Nat.le_of_ble_eq_true rfl) (a_dec_at dc_R_readUnit 16 rfl) ?_
      refine CV.mono (fun mi73 ml73 z73 H => ?_) H
      exact m_retV (a_dec_at dc_R_readUnit 17 rfl) rfl H
    · have H := H.2 b71
      exact m_retV (a_dec_at dc_R_readUnit 8 rfl) rfl H
set_option maxRecDepth 20000 in
theorem t_R_fault {l : Launch} {h : Nat} (mi : TMi) (ml : TMl) (z : Nat) (a1 : Int32) {Q : Int32 → TMi → TMl → Nat → Prop} (H : ((¬ a1 = 0 → ((¬ a1 = 1 → Q (-1) (up mi 119 0 0) ml z) ∧ (a1 = 1 → Q ((up mi 119 0 0) 119 14) (up mi 119 0 0) ml z))) ∧ (a1 = 0 → Q ((up mi 119 0 0) 119 13) (up mi 119 0 0) ml z))) : CI l (h + 1) m_R_fault [.ref 119, .int a1] mi ml z Q := by
  show Ev l (h + 1) m_R_fault 0 ([.ref 119, .int a1], [], st mi ml z) (qI Q)
  refine ev_aload_n (i := 0) rfl rfl (a_dec_at dc_R_fault 0 rfl) ?_
  refine ev_iconst (v := 0) rfl (a_dec_at dc_R_fault 1 rfl) ?_
  refine m_putI fl_R_1 rfl (fun _ _ _ h => by cases h; exact Or.inl rfl) sh119 (a_dec_at dc_R_fault 2 rfl) ?_
  refine ev_iload_n (i := 1) rfl rfl (a_dec_at dc_R_fault 3 rfl) ?_
  refine ev_if_ne (tgt := 16) (a_dec_at dc_R_fault 4 rfl) (by decide) (fun b1 => ?_) (fun b1 => ?_)
  · have H := H.1 b1
    refine ev_iload_n (i := 1) rfl rfl (a_dec_at dc_R_fault 8 rfl) ?_
    refine ev_iconst (v := 1) rfl (a_dec_at dc_R_fault 9 rfl) ?_
    refine ev_icmp_ne (tgt := 28) (a_dec_at dc_R_fault 10 rfl) (by decide) (fun b2 => ?_) (fun b2 => ?_)
    · have H := H.1 b2
      refine ev_iconst (v := (-1)) rfl (a_dec_at dc_R_fault 14 rfl) ?_
      exact m_retI (a_dec_at dc_R_fault 15 rfl) rfl rfl H
    · have H := H.2 b2
      refine ev_aload_n (i := 0) rfl rfl (a_dec_at dc_R_fault 11 rfl) ?_
      refine m_getI fl_R_27 rfl sh119 (a_dec_at dc_R_fault 12 rfl) ?_
      refine ev_goto (tgt := 29) (a_dec_at dc_R_fault 13 rfl) (by decide) ?_
      exact m_retI (a_dec_at dc_R_fault 15 rfl) rfl rfl H
  · have H := H.2 b1
    refine ev_aload_n (i := 0) rfl rfl (a_dec_at dc_R_fault 5 rfl) ?_
    refine m_getI fl_R_204 rfl sh119 (a_dec_at dc_R_fault 6 rfl) ?_
    refine ev_goto (tgt := 29) (a_dec_at dc_R_fault 7 rfl) (by decide) ?_
    exact m_retI (a_dec_at dc_R_fault 15 rfl) rfl rfl H
set_option maxRecDepth 20000 in
theorem t_R_beck {l : Launch} {h : Nat} (mi : TMi) (ml : TMl) (z : Nat) (a1 : Int32) (a2 : Int32) {Q : Int32 → TMi → TMl → Nat → Prop} (H : CI l h m_R_isBeck [.ref 119, .long a1.toInt64] (up mi 119 0 0) ml z (fun x1 mi1 ml1 z1 => ((¬ x1 = 0 → CV l h m_R_laysLikes [.ref 119] mi1 ml1 z1 (fun mi3 ml3 z3 => ((a2 = 0 → (vp_in (29 + a1) 4113) ∧ Q (mi3 120 ((29 + a1).toNatClampNeg)) mi3 ml3 z3) ∧ ((a2 = 1 → (vp_in (35 + a1) 4113) ∧ Q (mi3 120 ((35 + a1).toNatClampNeg)) mi3 ml3 z3) ∧ ((a2 = 2 → (vp_in (9 + a1) 4113) ∧ Q (mi3 120 ((9 + a1).toNatClampNeg)) mi3 ml3 z3) ∧ ((a2 = 3 → (vp_in (15 + a1) 4113) ∧ Q (mi3 120 ((15 + a1).toNatClampNeg)) mi3 ml3 z3) ∧ ((a2 = 4 → CI l h m_R_riversOf [.ref 119, .int a1] mi3 ml3 z3 (fun x13 mi13 ml13 z13 => Q x13 mi13 ml13 z13)) ∧ (¬ a2 = 0 → ¬ a2 = 1 → ¬ a2 = 2 → ¬ a2 = 3 → ¬ a2 = 4 → Q (-2) mi3 ml3 z3)))))))) ∧ (x1 = 0 → Q (-2) mi1 ml1 z1)))) : CI l (h + 1) m_R_beck [.ref 119, .int a1, .int a2] mi ml z Q := by
  show Ev l (h + 1) m_R_beck 0 ([.ref 119, .int a1, .int a2], [], st mi ml z) (qI Q)
  refine ev_aload_n (i := 0) rfl rfl (a_dec_at dc_R_beck 0 rfl) ?_
  refine ev_iconst (v := 0) rfl (a_dec_at dc_R_beck 1 rfl) ?_
  refine m_putI fl_R_1 rfl (fun _ _ _ h => by cases h; exact Or.inl rfl) sh119 (a_dec_at dc_R_beck 2 rfl) ?_
  refine ev_aload_n (i := 0) rfl rfl (a_dec_at dc_R_beck 3 rfl) ?_
  refine ev_iload_n (i := 1) rfl rfl (a_dec_at dc_R_beck 4 rfl) ?_
  refine ev_i2l (a_dec_at dc_R_beck 5 rfl) ?_
  refine cV1I cs_R_233 sh119 rfl (Nat.le_of_ble_eq_true rfl) (Nat.le_of_ble_eq_true rfl) (a_dec_at dc_R_beck 6 rfl) ?_
  refine CI.mono (fun x1 mi1 ml1 z1 H => ?_) H
  refine ev_if_ne (tgt := 17) (a_dec_at dc_R_beck 7 rfl) (by decide) (fun b2 => ?_) (fun b2 => ?_)
  · have H := H.1 b2
    refine ev_aload_n (i := 0) rfl rfl (a_dec_at dc_R_beck 10 rfl) ?_
    refine cV0V cs_R_237 sh119 rfl (Nat.le_of_ble_eq_true rfl) (Nat.le_of_ble_eq_true rfl) (a_dec_at dc_R_beck 11 rfl) ?_
    refine CV.mono (fun mi3 ml3 z3 H => ?_) H
    refine ev_iload_n (i := 2) rfl rfl (a_dec_at dc_R_beck 12 rfl) ?_
    by_cases e4 : a2 = 0
    · have H := H.1 e4
      refine w_tableIn (c := 0) (off := 34) (tgt := 56) (a_dec_at dc_R_beck 13 rfl) e4 (by decide) (by decide) (by decide) (by decide) ?_
      refine ev_aload_n (i := 0) rfl rfl (a_dec_at dc_R_beck 14 rfl) ?_
      refine m_getR (y := 120) fl_R_13 rfl sh119 (mr_119_1 _) (by decide) (a_dec_at dc_R_beck 15 rfl) ?_
      refine ev_bipush (v := 29) rfl (a_dec_at dc_R_beck 16 rfl) ?_
      refine ev_iload_n (i := 1) rfl rfl (a_dec_at dc_R_beck 17 rfl) ?_
      refine ev_iadd (a_dec_at dc_R_beck 18 rfl) ?_
      obtain ⟨c5, H⟩ := H
      refine w_iald (k := (29 + a1).toNatClampNeg) sh120 c5 rfl (a_dec_at dc_R_beck 19 rfl) ?_
      exact m_retI (a_dec_at dc_R_beck 20 rfl) rfl rfl H
    have H := H.2
    by_cases e6 : a2 = 1
    · have H := H.1 e6
      refine w_tableIn (c := 1) (off := 44) (tgt := 66) (a_dec_at dc_R_beck 13 rfl) e6 (by decide) (by decide) (by decide) (by decide) ?_
      refine ev_aload_n (i := 0) rfl rfl (a_dec_at dc_R_beck 21 rfl) ?_
      refine m_getR (y := 120) fl_R_13 rfl sh119 (mr_119_1 _) (by decide) (a_dec_at dc_R_beck 22 rfl) ?_
      refine ev_bipush (v := 35) rfl (a_dec_at dc_R_beck 23 rfl) ?_
      refine ev_iload_n (i := 1) rfl rfl (a_dec_at dc_R_beck 24 rfl) ?_
      refine ev_iadd (a_dec_at dc_R_beck 25 rfl) ?_
      obtain ⟨c7, H⟩ := H
      refine w_iald (k := (35 + a1).toNatClampNeg) sh120 c7 rfl (a_dec_at dc_R_beck 26 rfl) ?_
      exact m_retI (a_dec_at dc_R_beck 27 rfl) rfl rfl H
    have H := H.2
    by_cases e8 : a2 = 2
    · have H := H.1 e8
      refine w_tableIn (c := 2) (off := 54) (tgt := 76) (a_dec_at dc_R_beck 13 rfl) e8 (by decide) (by decide) (by decide) (by decide) ?_
      refine ev_aload_n (i := 0) rfl rfl (a_dec_at dc_R_beck 28 rfl) ?_
      refine m_getR (y := 120) fl_R_13 rfl sh119 (mr_119_1 _) (by decide) (a_dec_at dc_R_beck 29 rfl) ?_
      refine ev_bipush (v := 9) rfl (a_dec_at dc_R_beck 30 rfl) ?_
      refine ev_iload_n (i := 1) rfl rfl (a_dec_at dc_R_beck 31 rfl) ?_
      refine ev_iadd (a_dec_at dc_R_beck 32 rfl) ?_
      obtain ⟨c9, H⟩ := H
      refine w_iald (k := (9 + a1).toNatClampNeg) sh120 c9 rfl (a_dec_at dc_R_beck 33 rfl) ?_
      exact m_retI (a_dec_at dc_R_beck 34 rfl) rfl rfl H
    have H := H.2
    by_cases e10 : a2 = 3
    · have H := H.1 e10
      refine w_tableIn (c := 3) (off := 64) (tgt := 86) (a_dec_at dc_R_beck 13 rfl) e10 (by decide) (by decide) (by decide) (by decide) ?_
      refine ev_aload_n (i := 0) rfl rfl (a_dec_at dc_R_beck 35 rfl) ?_
      refine m_getR (y := 120) fl_R_13 rfl sh119 (mr_119_1 _) (by decide) (a_dec_at dc_R_beck 36 rfl) ?_
      refine ev_bipush (v := 15) rfl (a_dec_at dc_R_beck 37 rfl) ?_
      refine ev_iload_n (i := 1) rfl rfl (a_dec_at dc_R_beck 38 rfl) ?_
      refine ev_iadd (a_dec_at dc_R_beck 39 rfl) ?_
      obtain ⟨c11, H⟩ := H
      refine w_iald (k := (15 + a1).toNatClampNeg) sh120 c11 rfl (a_dec_at dc_R_beck 40 rfl) ?_
      exact m_retI (a_dec_at dc_R_beck 41 rfl) rfl rfl H
    have H := H.2
    by_cases e12 : a2 = 4
    · have H := H.1 e12
      refine w_tableIn (c := 4) (off := 74) (tgt := 96) (a_dec_at dc_R_beck 13 rfl) e12 (by decide) (by decide) (by decide) (by decide) ?_
      refine ev_aload_n (i := 0) rfl rfl (a_dec_at dc_R_beck 42 rfl) ?_
      refine ev_iload_n (i := 1) rfl rfl (a_dec_at dc_R_beck 43 rfl) ?_
      refine cV1I cs_R_240 sh119 rfl (Nat.le_of_ble_eq_true rfl) (Nat.le_of_ble_eq_true rfl) (a_dec_at dc_R_beck 44 rfl) ?_
      refine CI.mono (fun x13 mi13 ml13 z13 H => ?_) H
      exact m_retI (a_dec_at dc_R_beck 45 rfl) rfl rfl H
    have H := H.2
    refine w_tableOut (tgt := 102) [0, 1, 2, 3, 4] (a_dec_at dc_R_beck 13 rfl) (by decide) (by intro c hc; simp only [List.mem_cons, List.not_mem_nil, or_false] at hc; rcases hc with rfl | rfl | rfl | rfl | rfl <;> assumption) (by decide) ?_
    have H := H e4 e6 e8 e10 e12
    refine ev_bipush (v := (-2)) rfl (a_dec_at dc_R_beck 46 rfl) ?_
    exact m_retI (a_dec_at dc_R_beck 47 rfl) rfl rfl H
  · have H := H.2 b2
    refine ev_bipush (v := (-2)) rfl (a_dec_at dc_R_beck 8 rfl) ?_
    exact m_retI (a_dec_at dc_R_beck 9 rfl) rfl rfl H
set_option maxRecDepth 20000 in
theorem t_R_isBeck {l : Launch} {h : Nat} (mi : TMi) (ml : TMl) (z : Nat) (a1 : Int64) {Q : Int32 → TMi → TMl → Nat → Prop} (H : CI l h m_R_within [.long a1, .long 0, .long (((mi 120 1) - 1).toInt64)] mi ml z (fun x1 mi1 ml1 z1 => (narrow .boolean (.int x1) = .int x1) ∧ Q x1 mi1 ml1 z1)) : CI l (h + 1) m_R_isBeck [.ref 119, .long a1] mi ml z Q := by
  show Ev l (h + 1) m_R_isBeck 0 ([.ref 119, .long a1, .retAddr 0], [], st mi ml z) (qI Q)
  refine ev_lload_n (i := 1) rfl rfl (a_dec_at dc_R_isBeck 0 rfl) ?_
  refine ev_lconst (v := 0) rfl (a_dec_at dc_R_isBeck 1 rfl) ?_
  refine ev_aload_n (i := 0) rfl rfl (a_dec_at dc_R_isBeck 2 rfl) ?_
  refine m_getR (y := 120) fl_R_13 rfl sh119 (mr_119_1 _) (by decide) (a_dec_at dc_R_isBeck 3 rfl) ?_
  refine ev_iconst (v := 1) rfl (a_dec_at dc_R_isBeck 4 rfl) ?_
  refine w_iald (k := 1) sh120 (by unfold vp_in; decide) (by decide) (a_dec_at dc_R_isBeck 5 rfl) ?_
  refine ev_iconst (v := 1) rfl (a_dec_at dc_R_isBeck 6 rfl) ?_
  refine ev_isub (a_dec_at dc_R_isBeck 7 rfl) ?_
  refine ev_i2l (a_dec_at dc_R_isBeck 8 rfl) ?_
  refine cS3I cs_R_139 rfl (Nat.le_of_ble_eq_true rfl) (Nat.le_of_ble_eq_true rfl) (a_dec_at dc_R_isBeck 9 rfl) ?_
  refine CI.mono (fun x1 mi1 ml1 z1 H => ?_) H
  obtain ⟨c2, H⟩ := H
  exact m_retI (a_dec_at dc_R_isBeck 10 rfl) rfl c2 H
set_option maxRecDepth 20000 in
theorem t_R_laysLikes {l : Launch} {h : Nat} (mi : TMi) (ml : TMl) (z : Nat) {Q : TMi → TMl → Nat → Prop} (H : Ev l (h + 1) m_R_laysLikes 2 ([.ref 119, .int 0, .retAddr 0], [], st mi ml z) (qV Q)) : CV l (h + 1) m_R_laysLikes [.ref 119] mi ml z Q := by
  show Ev l (h + 1) m_R_laysLikes 0 ([.ref 119, .retAddr 0, .retAddr 0], [], st mi ml z) (qV Q)
  refine ev_iconst (v := 0) rfl (a_dec_at dc_R_laysLikes 0 rfl) ?_
  refine ev_istore_n (i := 1) rfl (by decide) rfl (a_dec_at dc_R_laysLikes 1 rfl) ?_
  exact Ev.drop (L' := [.ref 119, .int 0, .retAddr 0]) (And.intro rfl (And.intro rfl trivial)) H
set_option maxRecDepth 20000 in
theorem t_R_laysLikes_2 {l : Launch} {h : Nat} (mi : TMi) (ml : TMl) (z : Nat) (v1 : Int32) {Q : TMi → TMl → Nat → Prop} (H : (((mi 120 1) ≤ v1 → Q mi ml z) ∧ (¬ (mi 120 1) ≤ v1 → Ev l (h + 1) m_R_laysLikes 14 ([.ref 119, .int v1, .int 0], [], st mi ml z) (qV Q)))) : Ev l (h + 1) m_R_laysLikes 2 ([.ref 119, .int v1, .retAddr 0], [], st mi ml z) (qV Q) := by
  refine ev_iload_n (i := 1) rfl rfl (a_dec_at dc_R_laysLikes 2 rfl) ?_
  refine ev_aload_n (i := 0) rfl rfl (a_dec_at dc_R_laysLikes 3 rfl) ?_
  refine m_getR (y := 120) fl_R_13 rfl sh119 (mr_119_1 _) (by decide) (a_dec_at dc_R_laysLikes 4 rfl) ?_
  refine ev_iconst (v := 1) rfl (a_dec_at dc_R_laysLikes 5 rfl) ?_
  refine w_iald (k := 1) sh120 (by unfold vp_in; decide) (by decide) (a_dec_at dc_R_laysLikes 6 rfl) ?_
  refine ev_icmp_ge (tgt := 70) (a_dec_at dc_R_laysLikes 7 rfl) (by decide) (fun b1 => ?_) (fun b1 => ?_)
  · have H := H.1 b1
    exact m_retV (a_dec_at dc_R_laysLikes 46 rfl) rfl H
  · have H := H.2 b1
    refine ev_iconst (v := 0) rfl (a_dec_at dc_R_laysLikes 8 rfl) ?_
    refine ev_istore_n (i := 2) rfl (by decide) rfl (a_dec_at dc_R_laysLikes 9 rfl) ?_
    exact Ev.drop (L' := [.ref 119, .int v1, .int 0]) (And.intro rfl (And.intro rfl (And.intro rfl trivial))) H
set_option maxRecDepth 20000 in
theorem t_R_laysLikes_14 {l : Launch} {h : Nat} (mi : TMi) (ml : TMl) (z : Nat) (v1 : Int32) (v2 : Int32) {Q : TMi → TMl → Nat → Prop} (H : (((mi 120 2) ≤ v2 → Ev l (h + 1) m_R_laysLikes 2 ([.ref 119, .int (v1 + 1), .retAddr 0], [], st mi ml z) (qV Q)) ∧ (¬ (mi 120 2) ≤ v2 → CI l h m_R_reckons [.ref 119, .int 0, .int v1, .int v2] mi ml z (fun x2 mi2 ml2 z2 => (vp_in ((4 * v1) + v2) 24) ∧ CI l h m_R_reckons [.ref 119, .int 1, .int v1, .int v2] (up mi2 126 (((4 * v1) + v2).toNatClampNeg) x2) ml2 z2 (fun x4 mi4 ml4 z4 => (vp_in ((4 * v1) + v2) 24) ∧ Ev l (h + 1) m_R_laysLikes 14 ([.ref 119, .int v1, .int (v2 + 1)], [], st (up mi4 127 (((4 * v1) + v2).toNatClampNeg) x4) ml4 z4) (qV Q)))))) : Ev l (h + 1) m_R_laysLikes 14 ([.ref 119, .int v1, .int v2], [], st mi ml z) (qV Q) := by
  refine ev_iload_n (i := 2) rfl rfl (a_dec_at dc_R_laysLikes 10 rfl) ?_
  refine ev_aload_n (i := 0) rfl rfl (a_dec_at dc_R_laysLikes 11 rfl) ?_
  refine m_getR (y := 120) fl_R_13 rfl sh119 (mr_119_1 _) (by decide) (a_dec_at dc_R_laysLikes 12 rfl) ?_
  refine ev_iconst (v := 2) rfl (a_dec_at dc_R_laysLikes 13 rfl) ?_
  refine w_iald (k := 2) sh120 (by unfold vp_in; decide) (by decide) (a_dec_at dc_R_laysLikes 14 rfl) ?_
  refine ev_icmp_ge (tgt := 64) (a_dec_at dc_R_laysLikes 15 rfl) (by decide) (fun b1 => ?_) (fun b1 => ?_)
  · have H := H.1 b1
    refine ev_iinc (v := 1) rfl rfl (by decide) rfl (a_dec_at dc_R_laysLikes 44 rfl) ?_
    refine ev_goto (tgt := 2) (a_dec_at dc_R_laysLikes 45 rfl) (by decide) ?_
    exact Ev.drop (L' := [.ref 119, .int (v1 + 1), .retAddr 0]) (And.intro rfl (And.intro rfl trivial)) H
  · have H := H.2 b1
    refine ev_aload_n (i := 0) rfl rfl (a_dec_at dc_R_laysLikes 16 rfl) ?_
    refine m_getR (y := 126) fl_R_36 rfl sh119 (mr_119_17 _) (by decide) (a_dec_at dc_R_laysLikes 17 rfl) ?_
    refine ev_iconst (v := 4) rfl (a_dec_at dc_R_laysLikes 18 rfl) ?_
    refine ev_iload_n (i := 1) rfl rfl (a_dec_at dc_R_laysLikes 19 rfl) ?_
    refine ev_imul (a_dec_at dc_R_laysLikes 20 rfl) ?_
    refine ev_iload_n (i := 2) rfl rfl (a_dec_at dc_R_laysLikes 21 rfl) ?_
    refine ev_iadd (a_dec_at dc_R_laysLikes 22 rfl) ?_
    refine ev_aload_n (i := 0) rfl rfl (a_dec_at dc_R_laysLikes 23 rfl) ?_
    refine ev_iconst (v := 0) rfl (a_dec_at dc_R_laysLikes 24 rfl) ?_
    refine ev_iload_n (i := 1) rfl rfl (a_dec_at dc_R_laysLikes 25 rfl) ?_
    refine ev_iload_n (i := 2) rfl rfl (a_dec_at dc_R_laysLikes 26 rfl) ?_
    refine cV3I cs_R_218 sh119 rfl (Nat.le_of_ble_eq_true rfl) (Nat.le_of_ble_eq_true rfl) (a_dec_at dc_R_laysLikes 27 rfl) ?_
    refine CI.mono (fun x2 mi2 ml2 z2 H => ?_) H
    obtain ⟨c3, H⟩ := H
    refine w_iast (k := ((4 * v1) + v2).toNatClampNeg) sh126 c3 rfl (a_dec_at dc_R_laysLikes 28 rfl) ?_
    refine ev_aload_n (i := 0) rfl rfl (a_dec_at dc_R_laysLikes 29 rfl) ?_
    refine m_getR (y := 127) fl_R_39 rfl sh119 (mr_119_18 _) (by decide) (a_dec_at dc_R_laysLikes 30 rfl) ?_
    refine ev_iconst (v := 4) rfl (a_dec_at dc_R_laysLikes 31 rfl) ?_
    refine ev_iload_n (i := 1) rfl rfl (a_dec_at dc_R_laysLikes 32 rfl) ?_
    refine ev_imul (a_dec_at dc_R_laysLikes 33 rfl) ?_
    refine ev_iload_n (i := 2) rfl rfl (a_dec_at dc_R_laysLikes 34 rfl) ?_
    refine ev_iadd (a_dec_at dc_R_laysLikes 35 rfl) ?_
    refine ev_aload_n (i := 0) rfl rfl (a_dec_at dc_R_laysLikes 36 rfl) ?_
    refine ev_iconst (v := 1) rfl (a_dec_at dc_R_laysLikes 37 rfl) ?_
    refine ev_iload_n (i := 1) rfl rfl (a_dec_at dc_R_laysLikes 38 rfl) ?_
    refine ev_iload_n (i := 2) rfl rfl (a_dec_at dc_R_laysLikes 39 rfl) ?_
    refine cV3I cs_R_218 sh119 rfl (Nat.le_of_ble_eq_true rfl) (Nat.le_of_ble_eq_true rfl) (a_dec_at dc_R_laysLikes 40 rfl) ?_
    refine CI.mono (fun x4 mi4 ml4 z4 H => ?_) H
    obtain ⟨c5, H⟩ := H
    refine w_iast (k := ((4 * v1) + v2).toNatClampNeg) sh127 c5 rfl (a_dec_at dc_R_laysLikes 41 rfl) ?_
    refine ev_iinc (v := 1) rfl rfl (by decide) rfl (a_dec_at dc_R_laysLikes 42 rfl) ?_
    refine ev_goto (tgt := 14) (a_dec_at dc_R_laysLikes 43 rfl) (by decide) ?_
    exact Ev.drop (L' := [.ref 119, .int v1, .int (v2 + 1)]) (And.intro rfl (And.intro rfl (And.intro rfl trivial))) H
set_option maxRecDepth 20000 in
theorem t_R_reckons {l : Launch} {h : Nat} (mi : TMi) (ml : TMl) (z : Nat) (a1 : Int32) (a2 : Int32) (a3 : Int32) {Q : Int32 → TMi → TMl → Nat → Prop} (H : (vp_in (3 + a1) 4113) ∧ ((¬ (mi 120 ((3 + a1).toNatClampNeg)) = 0 → (vp_in (35 + a2) 4113) ∧ (vp_in (9 + a2) 4113) ∧ (vp_in (21 + a3) 4113) ∧ CI l h m_R_giftAt [.ref 119, .int a3, .int a2] (up (up (up (up (up mi 125 0 a2) 125 1 ((up mi 125 0 a2) 120 ((35 + a2).toNatClampNeg))) 125 2 ((up (up mi 125 0 a2) 125 1 ((up mi 125 0 a2) 120 ((35 + a2).toNatClampNeg))) 120 ((9 + a2).toNatClampNeg))) 125 3 a3) 125 4 ((up (up (up (up mi 125 0 a2) 125 1 ((up mi 125 0 a2) 120 ((35 + a2).toNatClampNeg))) 125 2 ((up (up mi 125 0 a2) 125 1 ((up mi 125 0 a2) 120 ((35 + a2).toNatClampNeg))) 120 ((9 + a2).toNatClampNeg))) 125 3 a3) 120 ((21 + a3).toNatClampNeg))) ml z (fun x6 mi6 ml6 z6 => (vp_in x6 4113) ∧ Ev l (h + 1) m_R_reckons 95 ([.ref 119, .int a1, .retAddr 0, .retAddr 0, .int 0, .int 0, .retAddr 0], [], st (up mi6 125 5 (mi6 120 x6.toNatClampNeg)) ml6 z6) (qI Q))) ∧ ((mi 120 ((3 + a1).toNatClampNeg)) = 0 → Q 1 mi ml z))) : CI l (h + 1) m_R_reckons [.ref 119, .int a1, .int a2, .int a3] mi ml z Q := by
  show Ev l (h + 1) m_R_reckons 0 ([.ref 119, .int a1, .int a2, .int a3, .retAddr 0, .retAddr 0, .retAddr 0], [], st mi ml z) (qI Q)
  refine ev_aload_n (i := 0) rfl rfl (a_dec_at dc_R_reckons 0 rfl) ?_
  refine m_getR (y := 120) fl_R_13 rfl sh119 (mr_119_1 _) (by decide) (a_dec_at dc_R_reckons 1 rfl) ?_
  refine ev_iconst (v := 3) rfl (a_dec_at dc_R_reckons 2 rfl) ?_
  refine ev_iload_n (i := 1) rfl rfl (a_dec_at dc_R_reckons 3 rfl) ?_
  refine ev_iadd (a_dec_at dc_R_reckons 4 rfl) ?_
  obtain ⟨c1, H⟩ := H
  refine w_iald (k := (3 + a1).toNatClampNeg) sh120 c1 rfl (a_dec_at dc_R_reckons 5 rfl) ?_
  refine ev_if_ne (tgt := 13) (a_dec_at dc_R_reckons 6 rfl) (by decide) (fun b2 => ?_) (fun b2 => ?_)
  · have H := H.1 b2
    refine ev_aload_n (i := 0) rfl rfl (a_dec_at dc_R_reckons 9 rfl) ?_
    refine m_getR (y := 125) fl_R_33 rfl sh119 (mr_119_16 _) (by decide) (a_dec_at dc_R_reckons 10 rfl) ?_
    refine ev_iconst (v := 0) rfl (a_dec_at dc_R_reckons 11 rfl) ?_
    refine ev_iload_n (i := 2) rfl rfl (a_dec_at dc_R_reckons 12 rfl) ?_
    refine w_iast (k := 0) sh125 (by unfold vp_in; decide) (by decide) (a_dec_at dc_R_reckons 13 rfl) ?_
    refine ev_aload_n (i := 0) rfl rfl (a_dec_at dc_R_reckons 14 rfl) ?_
    refine m_getR (y := 125) fl_R_33 rfl sh119 (mr_119_16 _) (by decide) (a_dec_at dc_R_reckons 15 rfl) ?_
    refine ev_iconst (v := 1) rfl (a_dec_at dc_R_reckons 16 rfl) ?_
    refine ev_aload_n (i := 0) rfl rfl (a_dec_at dc_R_reckons 17 rfl) ?_
    refine m_getR (y := 120) fl_R_13 rfl sh119 (mr_119_1 _) (by decide) (a_dec_at dc_R_reckons 18 rfl) ?_
    refine ev_bipush (v := 35) rfl (a_dec_at dc_R_reckons 19 rfl) ?_
    refine ev_iload_n (i := 2) rfl rfl (a_dec_at dc_R_reckons 20 rfl) ?_
    refine ev_iadd (a_dec_at dc_R_reckons 21 rfl) ?_
    obtain ⟨c3, H⟩ := H
    refine w_iald (k := (35 + a2).toNatClampNeg) sh120 c3 rfl (a_dec_at dc_R_reckons 22 rfl) ?_
    refine w_iast (k := 1) sh125 (by unfold vp_in; decide) (by decide) (a_dec_at dc_R_reckons 23 rfl) ?_
    refine ev_aload_n (i := 0) rfl rfl (a_dec_at dc_R_reckons 24 rfl) ?_
    refine m_getR (y := 125) fl_R_33 rfl sh119 (mr_119_16 _) (by decide) (a_dec_at dc_R_reckons 25 rfl) ?_
    refine ev_iconst (v := 2) rfl (a_dec_at dc_R_reckons 26 rfl) ?_
    refine ev_aload_n (i := 0) rfl rfl (a_dec_at dc_R_reckons 27 rfl) ?_
    refine m_getR (y := 120) fl_R_13 rfl sh119 (mr_119_1 _) (by decide) (a_dec_at dc_R_reckons 28 rfl) ?_
    refine ev_bipush (v := 9) rfl (a_dec_at dc_R_reckons 29 rfl) ?_
    refine ev_iload_n (i := 2) rfl rfl (a_dec_at dc_R_reckons 30 rfl) ?_
    refine ev_iadd (a_dec_at dc_R_reckons 31 rfl) ?_
    obtain ⟨c4, H⟩ := H
    refine w_iald (k := (9 + a2).toNatClampNeg) sh120 c4 rfl (a_dec_at dc_R_reckons 32 rfl) ?_
    refine w_iast (k := 2) sh125 (by unfold vp_in; decide) (by decide) (a_dec_at dc_R_reckons 33 rfl) ?_
    refine ev_aload_n (i := 0) rfl rfl (a_dec_at dc_R_reckons 34 rfl) ?_
    refine m_getR (y := 125) fl_R_33 rfl sh119 (mr_119_16 _) (by decide) (a_dec_at dc_R_reckons 35 rfl) ?_
    refine ev_iconst (v := 3) rfl (a_dec_at dc_R_reckons 36 rfl) ?_
    refine ev_iload_n (i := 3) rfl rfl (a_dec_at dc_R_reckons 37 rfl) ?_
    refine w_iast (k := 3) sh125 (by unfold vp_in; decide) (by decide) (a_dec_at dc_R_reckons 38 rfl) ?_
    refine ev_aload_n (i := 0) rfl rfl (a_dec_at dc_R_reckons 39 rfl) ?_
    refine m_getR (y := 125) fl_R_33 rfl sh119 (mr_119_16 _) (by decide) (a_dec_at dc_R_reckons 40 rfl) ?_
    refine ev_iconst (v := 4) rfl (a_dec_at dc_R_reckons 41 rfl) ?_
    refine ev_aload_n (i := 0) rfl rfl (a_dec_at dc_R_reckons 42 rfl) ?_
    refine m_getR (y := 120) fl_R_13 rfl sh119 (mr_119_1 _) (by decide) (a_dec_at dc_R_reckons 43 rfl) ?_
    refine ev_bipush (v := 21) rfl (a_dec_at dc_R_reckons 44 rfl) ?_
    refine ev_iload_n (i := 3) rfl rfl (a_dec_at dc_R_reckons 45 rfl) ?_
    refine ev_iadd (a_dec_at dc_R_reckons 46 rfl) ?_
    obtain ⟨c5, H⟩ := H
    refine w_iald (k := (21 + a3).toNatClampNeg) sh120 c5 rfl (a_dec_at dc_R_reckons 47 rfl) ?_
    refine w_iast (k := 4) sh125 (by unfold vp_in; decide) (by decide) (a_dec_at dc_R_reckons 48 rfl) ?_
    refine ev_aload_n (i := 0) rfl rfl (a_dec_at dc_R_reckons 49 rfl) ?_
    refine m_getR (y := 125) fl_R_33 rfl sh119 (mr_119_16 _) (by decide) (a_dec_at dc_R_reckons 50 rfl) ?_
    refine ev_iconst (v := 5) rfl (a_dec_at dc_R_reckons 51 rfl) ?_
    refine ev_aload_n (i := 0) rfl rfl (a_dec_at dc_R_reckons 52 rfl) ?_
    refine m_getR (y := 120) fl_R_13 rfl sh119 (mr_119_1 _) (by decide) (a_dec_at dc_R_reckons 53 rfl) ?_
    refine ev_aload_n (i := 0) rfl rfl (a_dec_at dc_R_reckons 54 rfl) ?_
    refine ev_iload_n (i := 3) rfl rfl (a_dec_at dc_R_reckons 55 rfl) ?_
    refine ev_iload_n (i := 2) rfl rfl (a_dec_at dc_R_reckons 56 rfl) ?_
    refine cV2I cs_R_211 sh119 rfl (Nat.le_of_ble_eq_true rfl) (Nat.le_of_ble_eq_true rfl) (a_dec_at dc_R_reckons 57 rfl) ?_
    refine CI.mono (fun x6 mi6 ml6 z6 H => ?_) H
    obtain ⟨c7, H⟩ := H
    refine w_iald (k := x6.toNatClampNeg) sh120 c7 rfl (a_dec_at dc_R_reckons 58 rfl) ?_
    refine w_iast (k := 5) sh125 (by unfold vp_in; decide) (by decide) (a_dec_at dc_R_reckons 59 rfl) ?_
    refine ev_iconst (v := 0) rfl (a_dec_at dc_R_reckons 60 rfl) ?_
    refine ev_istore (by decide) rfl (a_dec_at dc_R_reckons 61 rfl) ?_
    refine ev_iconst (v := 0) rfl (a_dec_at dc_R_reckons 62 rfl) ?_
    refine ev_istore (by decide) rfl (a_dec_at dc_R_reckons 63 rfl) ?_
    exact Ev.drop (L' := [.ref 119, .int a1, .retAddr 0, .retAddr 0, .int 0, .int 0, .retAddr 0]) (And.intro rfl (And.intro rfl (And.intro rfl (And.intro rfl trivial)))) H
  · have H := H.2 b2
    refine ev_iconst (v := 1) rfl (a_dec_at dc_R_reckons 7 rfl) ?_
    exact m_retI (a_dec_at dc_R_reckons 8 rfl) rfl rfl H
set_option maxRecDepth 20000 in
theorem t_R_reckons_95 {l : Launch} {h : Nat} (mi : TMi) (ml : TMl) (z : Nat) (v1 : Int32) (v4 : Int32) (v5 : Int32) {Q : Int32 → TMi → TMl → Nat → Prop} (H : (vp_in (7 + v1) 4113) ∧ (((mi 120 ((7 + v1).toNatClampNeg)) ≤ v5 → Q (mi 124 0) mi ml z) ∧ (¬ (mi 120 ((7 + v1).toNatClampNeg)) ≤ v5 → (vp_in (5 + v1) 4113) ∧ (vp_in ((471 + (mi 120 ((5 + v1).toNatClampNeg))) + v5) 4113) ∧ ((3000 ≤ (mi 120 (((471 + (mi 120 ((5 + v1).toNatClampNeg))) + v5).toNatClampNeg)) → ((¬ (mi 120 (((471 + (mi 120 ((5 + v1).toNatClampNeg))) + v5).toNatClampNeg)) = 3006 → ((¬ (mi 120 (((471 + (mi 120 ((5 + v1).toNatClampNeg))) + v5).toNatClampNeg)) = 3009 → (vp_in ((v4 + (-1)) - 1) 900) ∧ (vp_in (v4 + (-1)) 900) ∧ CI l h m_R_between [.int (mi 120 (((471 + (mi 120 ((5 + v1).toNatClampNeg))) + v5).toNatClampNeg)), .int (mi 124 (((v4 + (-1)) - 1).toNatClampNeg)), .int (mi 124 ((v4 + (-1)).toNatClampNeg))] mi ml z (fun x10 mi10 ml10 z10 => (vp_in ((v4 + (-1)) - 1) 900) ∧ Ev l (h + 1) m_R_reckons 95 ([.ref 119, .int v1, .retAddr 0, .retAddr 0, .int (v4 + (-1)), .int (v5 + 1), .retAddr 0], [], st (up mi10 124 (((v4 + (-1)) - 1).toNatClampNeg) x10) ml10 z10) (qI Q))) ∧ ((mi 120 (((471 + (mi 120 ((5 + v1).toNatClampNeg))) + v5).toNatClampNeg)) = 3009 → (vp_in ((v4 + (-2)) - 1) 900) ∧ ((¬ (mi 124 (((v4 + (-2)) - 1).toNatClampNeg)) = 1 → (vp_in ((v4 + (-2)) + 1) 900) ∧ (vp_in ((v4 + (-2)) - 1) 900) ∧ Ev l (h + 1) m_R_reckons 95 ([.ref 119, .int v1, .retAddr 0, .retAddr 0, .int (v4 + (-2)), .int (v5 + 1), .retAddr 0], [], st (up mi 124 (((v4 + (-2)) - 1).toNatClampNeg) (mi 124 (((v4 + (-2)) + 1).toNatClampNeg))) ml z) (qI Q)) ∧ ((mi 124 (((v4 + (-2)) - 1).toNatClampNeg)) = 1 → (vp_in (v4 + (-2)) 900) ∧ (vp_in ((v4 + (-2)) - 1) 900) ∧ Ev l (h + 1) m_R_reckons 95 ([.ref 119, .int v1, .retAddr 0, .retAddr 0, .int (v4 + (-2)), .int (v5 + 1), .retAddr 0], [], st (up mi 124 (((v4 + (-2)) - 1).toNatClampNeg) (mi 124 ((v4 + (-2)).toNatClampNeg))) ml z) (qI Q)))))) ∧ ((mi 120 (((471 + (mi 120 ((5 + v1).toNatClampNeg))) + v5).toNatClampNeg)) = 3006 → (vp_in (v4 - 1) 900) ∧ (vp_in (v4 - 1) 900) ∧ Ev l (h + 1) m_R_reckons 95 ([.ref 119, .int v1, .retAddr 0, .retAddr 0, .int v4, .int (v5 + 1), .retAddr 0], [], st (up mi 124 ((v4 - 1).toNatClampNeg) (1 - (mi 124 ((v4 - 1).toNatClampNeg)))) ml z) (qI Q)))) ∧ (¬ 3000 ≤ (mi 120 (((471 + (mi 120 ((5 + v1).toNatClampNeg))) + v5).toNatClampNeg)) → ((1000 ≤ (mi 120 (((471 + (mi 120 ((5 + v1).toNatClampNeg))) + v5).toNatClampNeg)) → (vp_in ((mi 120 (((471 + (mi 120 ((5 + v1).toNatClampNeg))) + v5).toNatClampNeg)) - 1000) 6) ∧ (vp_in v4 900) ∧ Ev l (h + 1) m_R_reckons 95 ([.ref 119, .int v1, .retAddr 0, .retAddr 0, .int (v4 + 1), .int (v5 + 1), .retAddr 0], [], st (up mi 124 v4.toNatClampNeg (mi 125 (((mi 120 (((471 + (mi 120 ((5 + v1).toNatClampNeg))) + v5).toNatClampNeg)) - 1000).toNatClampNeg))) ml z) (qI Q)) ∧ (¬ 1000 ≤ (mi 120 (((471 + (mi 120 ((5 + v1).toNatClampNeg))) + v5).toNatClampNeg)) → (vp_in v4 900) ∧ Ev l (h + 1) m_R_reckons 95 ([.ref 119, .int v1, .retAddr 0, .retAddr 0, .int (v4 + 1), .int (v5 + 1), .retAddr 0], [], st (up mi 124 v4.toNatClampNeg (mi 120 (((471 + (mi 120 ((5 + v1).toNatClampNeg))) + v5).toNatClampNeg))) ml z) (qI Q)))))))) : Ev l (h + 1) m_R_reckons 95 ([.ref 119, .int v1, .retAddr 0, .retAddr 0, .int v4, .int v5, .retAddr 0], [], st mi ml z) (qI Q) := by
  refine ev_iload rfl (a_dec_at dc_R_reckons 64 rfl) ?_
  refine ev_aload_n (i := 0) rfl rfl (a_dec_at dc_R_reckons 65 rfl) ?_
  refine m_getR (y := 120) fl_R_13 rfl sh119 (mr_119_1 _) (by decide) (a_dec_at dc_R_reckons 66 rfl) ?_
  refine ev_bipush (v := 7) rfl (a_dec_at dc_R_reckons 67 rfl) ?_
  refine ev_iload_n (i := 1) rfl rfl (a_dec_at dc_R_reckons 68 rfl) ?_
  refine ev_iadd (a_dec_at dc_R_reckons 69 rfl) ?_
  obtain ⟨c1, H⟩ := H
  refine w_iald (k := (7 + v1).toNatClampNeg) sh120 c1 rfl (a_dec_at dc_R_reckons 70 rfl) ?_
  refine ev_icmp_ge (tgt := 301) (a_dec_at dc_R_reckons 71 rfl) (by decide) (fun b2 => ?_) (fun b2 => ?_)
  · have H := H.1 b2
    refine ev_aload_n (i := 0) rfl rfl (a_dec_at dc_R_reckons 175 rfl) ?_
    refine m_getR (y := 124) fl_R_30 rfl sh119 (mr_119_15 _) (by decide) (a_dec_at dc_R_reckons 176 rfl) ?_
    refine ev_iconst (v := 0) rfl (a_dec_at dc_R_reckons 177 rfl) ?_
    refine w_iald (k := 0) sh124 (by unfold vp_in; decide) (by decide) (a_dec_at dc_R_reckons 178 rfl) ?_
    exact m_retI (a_dec_at dc_R_reckons 179 rfl) rfl rfl H
  · have H := H.2 b2
    refine ev_aload_n (i := 0) rfl rfl (a_dec_at dc_R_reckons 72 rfl) ?_
    refine m_getR (y := 120) fl_R_13 rfl sh119 (mr_119_1 _) (by decide) (a_dec_at dc_R_reckons 73 rfl) ?_
    refine ev_sipush (v := 471) rfl (a_dec_at dc_R_reckons 74 rfl) ?_
    refine ev_aload_n (i := 0) rfl rfl (a_dec_at dc_R_reckons 75 rfl) ?_
    refine m_getR (y := 120) fl_R_13 rfl sh119 (mr_119_1 _) (by decide) (a_dec_at dc_R_reckons 76 rfl) ?_
    refine ev_iconst (v := 5) rfl (a_dec_at dc_R_reckons 77 rfl) ?_
    refine ev_iload_n (i := 1) rfl rfl (a_dec_at dc_R_reckons 78 rfl) ?_
    refine ev_iadd (a_dec_at dc_R_reckons 79 rfl) ?_
    obtain ⟨c3, H⟩ := H
    refine w_iald (k := (5 + v1).toNatClampNeg) sh120 c3 rfl (a_dec_at dc_R_reckons 80 rfl) ?_
    refine ev_iadd (a_dec_at dc_R_reckons 81 rfl) ?_
    refine ev_iload rfl (a_dec_at dc_R_reckons 82 rfl) ?_
    refine ev_iadd (a_dec_at dc_R_reckons 83 rfl) ?_
    obtain ⟨c4, H⟩ := H
    refine w_iald (k := ((471 + (mi 120 ((5 + v1).toNatClampNeg))) + v5).toNatClampNeg) sh120 c4 rfl (a_dec_at dc_R_reckons 84 rfl) ?_
    refine ev_istore (by decide) rfl (a_dec_at dc_R_reckons 85 rfl) ?_
    refine ev_iload rfl (a_dec_at dc_R_reckons 86 rfl) ?_
    refine ev_sipush (v := 3000) rfl (a_dec_at dc_R_reckons 87 rfl) ?_
    refine ev_icmp_ge (tgt := 176) (a_dec_at dc_R_reckons 88 rfl) (by decide) (fun b5 => ?_) (fun b5 => ?_)
    · have H := H.1 b5
      refine ev_iload rfl (a_dec_at dc_R_reckons 106 rfl) ?_
      refine ev_sipush (v := 3006) rfl (a_dec_at dc_R_reckons 107 rfl) ?_
      refine ev_icmp_ne (tgt := 207) (a_dec_at dc_R_reckons 108 rfl) (by decide) (fun b6 => ?_) (fun b6 => ?_)
      · have H := H.1 b6
        refine ev_iload rfl (a_dec_at dc_R_reckons 124 rfl) ?_
        refine ev_sipush (v := 3009) rfl (a_dec_at dc_R_reckons 125 rfl) ?_
        refine ev_icmp_ne (tgt := 262) (a_dec_at dc_R_reckons 126 rfl) (by decide) (fun b7 => ?_) (fun b7 => ?_)
        · have H := H.1 b7
          refine ev_iinc (v := (-1)) rfl rfl (by decide) rfl (a_dec_at dc_R_reckons 154 rfl) ?_
          refine ev_aload_n (i := 0) rfl rfl (a_dec_at dc_R_reckons 155 rfl) ?_
          refine m_getR (y := 124) fl_R_30 rfl sh119 (mr_119_15 _) (by decide) (a_dec_at dc_R_reckons 156 rfl) ?_
          refine ev_iload rfl (a_dec_at dc_R_reckons 157 rfl) ?_
          refine ev_iconst (v := 1) rfl (a_dec_at dc_R_reckons 158 rfl) ?_
          refine ev_isub (a_dec_at dc_R_reckons 159 rfl) ?_
          refine ev_iload rfl (a_dec_at dc_R_reckons 160 rfl) ?_
          refine ev_aload_n (i := 0) rfl rfl (a_dec_at dc_R_reckons 161 rfl) ?_
          refine m_getR (y := 124) fl_R_30 rfl sh119 (mr_119_15 _) (by decide) (a_dec_at dc_R_reckons 162 rfl) ?_
          refine ev_iload rfl (a_dec_at dc_R_reckons 163 rfl) ?_
          refine ev_iconst (v := 1) rfl (a_dec_at dc_R_reckons 164 rfl) ?_
          refine ev_isub (a_dec_at dc_R_reckons 165 rfl) ?_
          obtain ⟨c8, H⟩ := H
          refine w_iald (k := ((v4 + (-1)) - 1).toNatClampNeg) sh124 c8 rfl (a_dec_at dc_R_reckons 166 rfl) ?_
          refine ev_aload_n (i := 0) rfl rfl (a_dec_at dc_R_reckons 167 rfl) ?_
          refine m_getR (y := 124) fl_R_30 rfl sh119 (mr_119_15 _) (by decide) (a_dec_at dc_R_reckons 168 rfl) ?_
          refine ev_iload rfl (a_dec_at dc_R_reckons 169 rfl) ?_
          obtain ⟨c9, H⟩ := H
          refine w_iald (k := (v4 + (-1)).toNatClampNeg) sh124 c9 rfl (a_dec_at dc_R_reckons 170 rfl) ?_
          refine cS3I cs_R_214 rfl (Nat.le_of_ble_eq_true rfl) (Nat.le_of_ble_eq_true rfl) (a_dec_at dc_R_reckons 171 rfl) ?_
          refine CI.mono (fun x10 mi10 ml10 z10 H => ?_) H
          obtain ⟨c11, H⟩ := H
          refine w_iast (k := ((v4 + (-1)) - 1).toNatClampNeg) sh124 c11 rfl (a_dec_at dc_R_reckons 172 rfl) ?_
          refine ev_iinc (v := 1) rfl rfl (by decide) rfl (a_dec_at dc_R_reckons 173 rfl) ?_
          refine ev_goto (tgt := 95) (a_dec_at dc_R_reckons 174 rfl) (by decide) ?_
          exact Ev.drop (L' := [.ref 119, .int v1, .retAddr 0, .retAddr 0, .int (v4 + (-1)), .int (v5 + 1), .retAddr 0]) (And.intro rfl (And.intro rfl (And.intro rfl (And.intro rfl trivial)))) H
        · have H := H.2 b7
          refine ev_iinc (v := (-2)) rfl rfl (by decide) rfl (a_dec_at dc_R_reckons 127 rfl) ?_
          refine ev_aload_n (i := 0) rfl rfl (a_dec_at dc_R_reckons 128 rfl) ?_
          refine m_getR (y := 124) fl_R_30 rfl sh119 (mr_119_15 _) (by decide) (a_dec_at dc_R_reckons 129 rfl) ?_
          refine ev_iload rfl (a_dec_at dc_R_reckons 130 rfl) ?_
          refine ev_iconst (v := 1) rfl (a_dec_at dc_R_reckons 131 rfl) ?_
          refine ev_isub (a_dec_at dc_R_reckons 132 rfl) ?_
          refine ev_aload_n (i := 0) rfl rfl (a_dec_at dc_R_reckons 133 rfl) ?_
          refine m_getR (y := 124) fl_R_30 rfl sh119 (mr_119_15 _) (by decide) (a_dec_at dc_R_reckons 134 rfl) ?_
          refine ev_iload rfl (a_dec_at dc_R_reckons 135 rfl) ?_
          refine ev_iconst (v := 1) rfl (a_dec_at dc_R_reckons 136 rfl) ?_
          refine ev_isub (a_dec_at dc_R_reckons 137 rfl) ?_
          obtain ⟨c12, H⟩ := H
          refine w_iald (k := ((v4 + (-2)) - 1).toNatClampNeg) sh124 c12 rfl (a_dec_at dc_R_reckons 138 rfl) ?_
          refine ev_iconst (v := 1) rfl (a_dec_at dc_R_reckons 139 rfl) ?_
          refine ev_icmp_ne (tgt := 249) (a_dec_at dc_R_reckons 140 rfl) (by decide) (fun b13 => ?_) (fun b13 => ?_)
          · have H := H.1 b13
            refine ev_aload_n (i := 0) rfl rfl (a_dec_at dc_R_reckons 146 rfl) ?_
            refine m_getR (y := 124) fl_R_30 rfl sh119 (mr_119_15 _) (by decide) (a_dec_at dc_R_reckons 147 rfl) ?_
            refine ev_iload rfl (a_dec_at dc_R_reckons 148 rfl) ?_
            refine ev_iconst (v := 1) rfl (a_dec_at dc_R_reckons 149 rfl) ?_
            refine ev_iadd (a_dec_at dc_R_reckons 150 rfl) ?_
            obtain ⟨c14, H⟩ := H
            refine w_iald (k := ((v4 + (-2)) + 1).toNatClampNeg) sh124 c14 rfl (a_dec_at dc_R_reckons 151 rfl) ?_
            obtain ⟨c15, H⟩ := H
            refine w_iast (k := ((v4 + (-2)) - 1).toNatClampNeg) sh124 c15 rfl (a_dec_at dc_R_reckons 152 rfl) ?_
            refine ev_goto (tgt := 295) (a_dec_at dc_R_reckons 153 rfl) (by decide) ?_
            refine ev_iinc (v := 1) rfl rfl (by decide) rfl (a_dec_at dc_R_reckons 173 rfl) ?_
            refine ev_goto (tgt := 95) (a_dec_at dc_R_reckons 174 rfl) (by decide) ?_
            exact Ev.drop (L' := [.ref 119, .int v1, .retAddr 0, .retAddr 0, .int (v4 + (-2)), .int (v5 + 1), .retAddr 0]) (And.intro rfl (And.intro rfl (And.intro rfl (And.intro rfl trivial)))) H
          · have H := H.2 b13
            refine ev_aload_n (i := 0) rfl rfl (a_dec_at dc_R_reckons 141 rfl) ?_
            refine m_getR (y := 124) fl_R_30 rfl sh119 (mr_119_15 _) (by decide) (a_dec_at dc_R_reckons 142 rfl) ?_
            refine ev_iload rfl (a_dec_at dc_R_reckons 143 rfl) ?_
            obtain ⟨c16, H⟩ := H
            refine w_iald (k := (v4 + (-2)).toNatClampNeg) sh124 c16 rfl (a_dec_at dc_R_reckons 144 rfl) ?_
            refine ev_goto (tgt := 258) (a_dec_at dc_R_reckons 145 rfl) (by decide) ?_
            obtain ⟨c17, H⟩ := H
            refine w_iast (k := ((v4 + (-2)) - 1).toNatClampNeg) sh124 c17 rfl (a_dec_at dc_R_reckons 152 rfl) ?_
            refine ev_goto (tgt := 295) (a_dec_at dc_R_reckons 153 rfl) (by decide) ?_
            refine ev_iinc (v := 1) rfl rfl (by decide) rfl (a_dec_at dc_R_reckons 173 rfl) ?_
            refine ev_goto (tgt := 95) (a_dec_at dc_R_reckons 174 rfl) (by decide) ?_
            exact Ev.drop (L' := [.ref 119, .int v1, .retAddr 0, .retAddr 0, .int (v4 + (-2)), .int (v5 + 1), .retAddr 0]) (And.intro rfl (And.intro rfl (And.intro rfl (And.intro rfl trivial)))) H
      · have H := H.2 b6
        refine ev_aload_n (i := 0) rfl rfl (a_dec_at dc_R_reckons 109 rfl) ?_
        refine m_getR (y := 124) fl_R_30 rfl sh119 (mr_119_15 _) (by decide) (a_dec_at dc_R_reckons 110 rfl) ?_
        refine ev_iload rfl (a_dec_at dc_R_reckons 111 rfl) ?_
        refine ev_iconst (v := 1) rfl (a_dec_at dc_R_reckons 112 rfl) ?_
        refine ev_isub (a_dec_at dc_R_reckons 113 rfl) ?_
        refine ev_iconst (v := 1) rfl (a_dec_at dc_R_reckons 114 rfl) ?_
        refine ev_aload_n (i := 0) rfl rfl (a_dec_at dc_R_reckons 115 rfl) ?_
        refine m_getR (y := 124) fl_R_30 rfl sh119 (mr_119_15 _) (by decide) (a_dec_at dc_R_reckons 116 rfl) ?_
        refine ev_iload rfl (a_dec_at dc_R_reckons 117 rfl) ?_
        refine ev_iconst (v := 1) rfl (a_dec_at dc_R_reckons 118 rfl) ?_
        refine ev_isub (a_dec_at dc_R_reckons 119 rfl) ?_
        obtain ⟨c18, H⟩ := H
        refine w_iald (k := (v4 - 1).toNatClampNeg) sh124 c18 rfl (a_dec_at dc_R_reckons 120 rfl) ?_
        refine ev_isub (a_dec_at dc_R_reckons 121 rfl) ?_
        obtain ⟨c19, H⟩ := H
        refine w_iast (k := (v4 - 1).toNatClampNeg) sh124 c19 rfl (a_dec_at dc_R_reckons 122 rfl) ?_
        refine ev_goto (tgt := 295) (a_dec_at dc_R_reckons 123 rfl) (by decide) ?_
        refine ev_iinc (v := 1) rfl rfl (by decide) rfl (a_dec_at dc_R_reckons 173 rfl) ?_
        refine ev_goto (tgt := 95) (a_dec_at dc_R_reckons 174 rfl) (by decide) ?_
        exact Ev.drop (L' := [.ref 119, .int v1, .retAddr 0, .retAddr 0, .int v4, .int (v5 + 1), .retAddr 0]) (And.intro rfl (And.intro rfl (And.intro rfl (And.intro rfl trivial)))) H
    · have H := H.2 b5
      refine ev_aload_n (i := 0) rfl rfl (a_dec_at dc_R_reckons 89 rfl) ?_
      refine m_getR (y := 124) fl_R_30 rfl sh119 (mr_119_15 _) (by decide) (a_dec_at dc_R_reckons 90 rfl) ?_
      refine ev_iload rfl (a_dec_at dc_R_reckons 91 rfl) ?_
      refine ev_iload rfl (a_dec_at dc_R_reckons 92 rfl) ?_
      refine ev_sipush (v := 1000) rfl (a_dec_at dc_R_reckons 93 rfl) ?_
      refine ev_icmp_ge (tgt := 158) (a_dec_at dc_R_reckons 94 rfl) (by decide) (fun b20 => ?_) (fun b20 => ?_)
      · have H := H.1 b20
        refine ev_aload_n (i := 0) rfl rfl (a_dec_at dc_R_reckons 97 rfl) ?_
        refine m_getR (y := 125) fl_R_33 rfl sh119 (mr_119_16 _) (by decide) (a_dec_at dc_R_reckons 98 rfl) ?_
        refine ev_iload rfl (a_dec_at dc_R_reckons 99 rfl) ?_
        refine ev_sipush (v := 1000) rfl (a_dec_at dc_R_reckons 100 rfl) ?_
        refine ev_isub (a_dec_at dc_R_reckons 101 rfl) ?_
        obtain ⟨c21, H⟩ := H
        refine w_iald (k := ((mi 120 (((471 + (mi 120 ((5 + v1).toNatClampNeg))) + v5).toNatClampNeg)) - 1000).toNatClampNeg) sh125 c21 rfl (a_dec_at dc_R_reckons 102 rfl) ?_
        obtain ⟨c22, H⟩ := H
        refine w_iast (k := v4.toNatClampNeg) sh124 c22 rfl (a_dec_at dc_R_reckons 103 rfl) ?_
        refine ev_iinc (v := 1) rfl rfl (by decide) rfl (a_dec_at dc_R_reckons 104 rfl) ?_
        refine ev_goto (tgt := 295) (a_dec_at dc_R_reckons 105 rfl) (by decide) ?_
        refine ev_iinc (v := 1) rfl rfl (by decide) rfl (a_dec_at dc_R_reckons 173 rfl) ?_
        refine ev_goto (tgt := 95) (a_dec_at dc_R_reckons 174 rfl) (by decide) ?_
        exact Ev.drop (L' := [.ref 119, .int v1, .retAddr 0, .retAddr 0, .int (v4 + 1), .int (v5 + 1), .retAddr 0]) (And.intro rfl (And.intro rfl (And.intro rfl (And.intro rfl trivial)))) H
      · have H := H.2 b20
        refine ev_iload rfl (a_dec_at dc_R_reckons 95 rfl) ?_
        refine ev_goto (tgt := 169) (a_dec_at dc_R_reckons 96 rfl) (by decide) ?_
        obtain ⟨c23, H⟩ := H
        refine w_iast (k := v4.toNatClampNeg) sh124 c23 rfl (a_dec_at dc_R_reckons 103 rfl) ?_
        refine ev_iinc (v := 1) rfl rfl (by decide) rfl (a_dec_at dc_R_reckons 104 rfl) ?_
        refine ev_goto (tgt := 295) (a_dec_at dc_R_reckons 105 rfl) (by decide) ?_
        refine ev_iinc (v := 1) rfl rfl (by decide) rfl (a_dec_at dc_R_reckons 173 rfl) ?_
        refine ev_goto (tgt := 95) (a_dec_at dc_R_reckons 174 rfl) (by decide) ?_
        exact Ev.drop (L' := [.ref 119, .int v1, .retAddr 0, .retAddr 0, .int (v4 + 1), .int (v5 + 1), .retAddr 0]) (And.intro rfl (And.intro rfl (And.intro rfl (And.intro rfl trivial)))) H
