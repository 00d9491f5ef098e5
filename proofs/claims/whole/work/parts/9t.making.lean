/-! ===== the constructors, by program ===== -/
def li_1 : List (Nat × Nat × Int32) := (3, 13, (-1)) :: (3, 12, (-1)) :: []
def lr_1 : List (Nat × Nat × Nat) := (3, 10, 11) :: (3, 9, 10) :: (3, 8, 9) :: (3, 7, 8) :: (3, 6, 7) :: (3, 5, 6) :: (3, 4, 5) :: (3, 3, 4) :: (1, 0, 2) :: []
set_option maxRecDepth 20000 in
theorem i_La_init_3 {l : Launch} {h : Nat} : Ev l (h + 1) m_La_init 0 (a_ent m_La_init.2.2.1 [.ref 3], [], CX 4 ([]) ((1, 0, 2) :: []) 8 936) (fun v σ => v = none ∧ σ = CX 12 li_1 lr_1 0 0) := by
  show Ev l (h + 1) m_La_init 0 ([.ref 3], [], CX 4 ([]) ((1, 0, 2) :: []) 8 936) (fun v σ => v = none ∧ σ = CX 12 li_1 lr_1 0 0)
  refine ev_aload_n (i := 0) rfl rfl (a_dec_at dc_La_init 0 rfl) ?_
  refine ev_objInit cs_La_3 (by decide) (by omega) (by decide) (a_dec_at dc_La_init 1 rfl) ?_
  refine ev_aload_n (i := 0) rfl rfl (a_dec_at dc_La_init 2 rfl) ?_
  refine ev_bipush (v := 6) rfl (a_dec_at dc_La_init 3 rfl) ?_
  refine x_newa (kd := 0) (N := 6) (bc := 7) (bs := 930) (by decide) rfl (a_m1 120 rfl rfl) (by decide) (by decide) (by decide) (by decide) sh4 (by decide) (by decide +kernel) (by decide +kernel) (by decide) (a_dec_at dc_La_init 4 rfl) ?_
  refine x_putR fl_La_9 rfl (fun _ _ _ h => by cases h; exact Or.inr ⟨rfl, rfl⟩) (by decide) (by decide) sh3 (by decide) (a_dec_at dc_La_init 5 rfl) ?_
  refine ev_aload_n (i := 0) rfl rfl (a_dec_at dc_La_init 6 rfl) ?_
  refine ev_bipush (v := 6) rfl (a_dec_at dc_La_init 7 rfl) ?_
  refine x_newa (kd := 0) (N := 6) (bc := 6) (bs := 924) (by decide) rfl (a_m1 120 rfl rfl) (by decide) (by decide) (by decide) (by decide) sh5 (by decide) (by decide +kernel) (by decide +kernel) (by decide) (a_dec_at dc_La_init 8 rfl) ?_
  refine x_putR fl_La_15 rfl (fun _ _ _ h => by cases h; exact Or.inr ⟨rfl, rfl⟩) (by decide) (by decide) sh3 (by decide) (a_dec_at dc_La_init 9 rfl) ?_
  refine ev_aload_n (i := 0) rfl rfl (a_dec_at dc_La_init 10 rfl) ?_
  refine ev_bipush (v := 6) rfl (a_dec_at dc_La_init 11 rfl) ?_
  refine x_newa (kd := 0) (N := 6) (bc := 5) (bs := 918) (by decide) rfl (a_m1 120 rfl rfl) (by decide) (by decide) (by decide) (by decide) sh6 (by decide) (by decide +kernel) (by decide +kernel) (by decide) (a_dec_at dc_La_init 12 rfl) ?_
  refine x_putR fl_La_18 rfl (fun _ _ _ h => by cases h; exact Or.inr ⟨rfl, rfl⟩) (by decide) (by decide) sh3 (by decide) (a_dec_at dc_La_init 13 rfl) ?_
  refine ev_aload_n (i := 0) rfl rfl (a_dec_at dc_La_init 14 rfl) ?_
  refine ev_bipush (v := 6) rfl (a_dec_at dc_La_init 15 rfl) ?_
  refine x_newa (kd := 0) (N := 6) (bc := 4) (bs := 912) (by decide) rfl (a_m1 120 rfl rfl) (by decide) (by decide) (by decide) (by decide) sh7 (by decide) (by decide +kernel) (by decide +kernel) (by decide) (a_dec_at dc_La_init 16 rfl) ?_
  refine x_putR fl_La_21 rfl (fun _ _ _ h => by cases h; exact Or.inr ⟨rfl, rfl⟩) (by decide) (by decide) sh3 (by decide) (a_dec_at dc_La_init 17 rfl) ?_
  refine ev_aload_n (i := 0) rfl rfl (a_dec_at dc_La_init 18 rfl) ?_
  refine ev_iconst (v := 4) rfl (a_dec_at dc_La_init 19 rfl) ?_
  refine x_newa (kd := 0) (N := 4) (bc := 3) (bs := 908) (by decide) rfl (a_m1 120 rfl rfl) (by decide) (by decide) (by decide) (by decide) sh8 (by decide) (by decide +kernel) (by decide +kernel) (by decide) (a_dec_at dc_La_init 20 rfl) ?_
  refine x_putR fl_La_24 rfl (fun _ _ _ h => by cases h; exact Or.inr ⟨rfl, rfl⟩) (by decide) (by decide) sh3 (by decide) (a_dec_at dc_La_init 21 rfl) ?_
  refine ev_aload_n (i := 0) rfl rfl (a_dec_at dc_La_init 22 rfl) ?_
  refine ev_iconst (v := 4) rfl (a_dec_at dc_La_init 23 rfl) ?_
  refine x_newa (kd := 0) (N := 4) (bc := 2) (bs := 904) (by decide) rfl (a_m1 120 rfl rfl) (by decide) (by decide) (by decide) (by decide) sh9 (by decide) (by decide +kernel) (by decide +kernel) (by decide) (a_dec_at dc_La_init 24 rfl) ?_
  refine x_putR fl_La_27 rfl (fun _ _ _ h => by cases h; exact Or.inr ⟨rfl, rfl⟩) (by decide) (by decide) sh3 (by decide) (a_dec_at dc_La_init 25 rfl) ?_
  refine ev_aload_n (i := 0) rfl rfl (a_dec_at dc_La_init 26 rfl) ?_
  refine ev_iconst (v := 4) rfl (a_dec_at dc_La_init 27 rfl) ?_
  refine x_newa (kd := 0) (N := 4) (bc := 1) (bs := 900) (by decide) rfl (a_m1 120 rfl rfl) (by decide) (by decide) (by decide) (by decide) sh10 (by decide) (by decide +kernel) (by decide +kernel) (by decide) (a_dec_at dc_La_init 28 rfl) ?_
  refine x_putR fl_La_30 rfl (fun _ _ _ h => by cases h; exact Or.inr ⟨rfl, rfl⟩) (by decide) (by decide) sh3 (by decide) (a_dec_at dc_La_init 29 rfl) ?_
  refine ev_aload_n (i := 0) rfl rfl (a_dec_at dc_La_init 30 rfl) ?_
  refine ev_sipush (v := 900) rfl (a_dec_at dc_La_init 31 rfl) ?_
  refine x_newa (kd := 0) (N := 900) (bc := 0) (bs := 0) (by decide) rfl (a_m1 120 rfl rfl) (by decide) (by decide) (by decide) (by decide) sh11 (by decide) (by decide +kernel) (by decide +kernel) (by decide) (a_dec_at dc_La_init 32 rfl) ?_
  refine x_putR fl_La_33 rfl (fun _ _ _ h => by cases h; exact Or.inr ⟨rfl, rfl⟩) (by decide) (by decide) sh3 (by decide) (a_dec_at dc_La_init 33 rfl) ?_
  refine ev_aload_n (i := 0) rfl rfl (a_dec_at dc_La_init 34 rfl) ?_
  refine ev_iconst (v := (-1)) rfl (a_dec_at dc_La_init 35 rfl) ?_
  refine x_putI fl_La_36 rfl (fun _ _ _ h => by cases h; exact Or.inl rfl) (by decide) sh3 (a_dec_at dc_La_init 36 rfl) ?_
  refine ev_aload_n (i := 0) rfl rfl (a_dec_at dc_La_init 37 rfl) ?_
  refine ev_iconst (v := (-1)) rfl (a_dec_at dc_La_init 38 rfl) ?_
  refine x_putI fl_La_40 rfl (fun _ _ _ h => by cases h; exact Or.inl rfl) (by decide) sh3 (a_dec_at dc_La_init 39 rfl) ?_
  exact Ev.retV (a_dec_at dc_La_init 40 rfl) rfl ⟨rfl, rfl⟩
def li_2 : List (Nat × Nat × Int32) := li_1
def lr_2 : List (Nat × Nat × Nat) := (12, 0, 2) :: (1, 2, 3) :: lr_1
set_option maxRecDepth 20000 in
theorem i_To_init_12 {l : Launch} {h : Nat} : Ev l (h + 1) m_To_init 0 (a_ent m_To_init.2.2.1 [.ref 12, .ref 2], [], CX 13 (li_1) ((1, 2, 3) :: lr_1) 0 0) (fun v σ => v = none ∧ σ = CX 13 li_2 lr_2 0 0) := by
  show Ev l (h + 1) m_To_init 0 ([.ref 12, .ref 2], [], CX 13 (li_1) ((1, 2, 3) :: lr_1) 0 0) (fun v σ => v = none ∧ σ = CX 13 li_2 lr_2 0 0)
  refine ev_aload_n (i := 0) rfl rfl (a_dec_at dc_To_init 0 rfl) ?_
  refine ev_objInit cs_To_3 (by decide) (by omega) (by decide) (a_dec_at dc_To_init 1 rfl) ?_
  refine ev_aload_n (i := 0) rfl rfl (a_dec_at dc_To_init 2 rfl) ?_
  refine ev_aload_n (i := 1) rfl rfl (a_dec_at dc_To_init 3 rfl) ?_
  refine x_putR fl_To_9 rfl (fun _ _ _ h => by cases h; exact Or.inr ⟨rfl, rfl⟩) (by decide) (by decide) sh12 (by decide) (a_dec_at dc_To_init 4 rfl) ?_
  exact Ev.retV (a_dec_at dc_To_init 5 rfl) rfl ⟨rfl, rfl⟩
def li_3 : List (Nat × Nat × Int32) := li_2
def lr_3 : List (Nat × Nat × Nat) := (13, 1, 3) :: (13, 0, 12) :: (1, 3, 12) :: lr_2
set_option maxRecDepth 20000 in
theorem i_Re_init_13 {l : Launch} {h : Nat} : Ev l (h + 1) m_Re_init 0 (a_ent m_Re_init.2.2.1 [.ref 13, .ref 12, .ref 3], [], CX 14 (li_2) ((1, 3, 12) :: lr_2) 0 0) (fun v σ => v = none ∧ σ = CX 14 li_3 lr_3 0 0) := by
  show Ev l (h + 1) m_Re_init 0 ([.ref 13, .ref 12, .ref 3], [], CX 14 (li_2) ((1, 3, 12) :: lr_2) 0 0) (fun v σ => v = none ∧ σ = CX 14 li_3 lr_3 0 0)
  refine ev_aload_n (i := 0) rfl rfl (a_dec_at dc_Re_init 0 rfl) ?_
  refine ev_objInit cs_Re_3 (by decide) (by omega) (by decide) (a_dec_at dc_Re_init 1 rfl) ?_
  refine ev_aload_n (i := 0) rfl rfl (a_dec_at dc_Re_init 2 rfl) ?_
  refine ev_aload_n (i := 1) rfl rfl (a_dec_at dc_Re_init 3 rfl) ?_
  refine x_putR fl_Re_9 rfl (fun _ _ _ h => by cases h; exact Or.inr ⟨rfl, rfl⟩) (by decide) (by decide) sh13 (by decide) (a_dec_at dc_Re_init 4 rfl) ?_
  refine ev_aload_n (i := 0) rfl rfl (a_dec_at dc_Re_init 5 rfl) ?_
  refine ev_aload_n (i := 2) rfl rfl (a_dec_at dc_Re_init 6 rfl) ?_
  refine x_putR fl_Re_15 rfl (fun _ _ _ h => by cases h; exact Or.inr ⟨rfl, rfl⟩) (by decide) (by decide) sh13 (by decide) (a_dec_at dc_Re_init 7 rfl) ?_
  exact Ev.retV (a_dec_at dc_Re_init 8 rfl) rfl ⟨rfl, rfl⟩
def li_4 : List (Nat × Nat × Int32) := (1, 6, (-1)) :: li_3
def lr_4 : List (Nat × Nat × Nat) := (14, 1, 16) :: (14, 0, 15) :: (1, 4, 13) :: lr_3
set_option maxRecDepth 20000 in
theorem i_Lw_init_14 {l : Launch} {h : Nat} : Ev l (h + 1) m_Lw_init 0 (a_ent m_Lw_init.2.2.1 [.ref 14], [], CX 15 ((1, 6, (-1)) :: li_3) ((1, 4, 13) :: lr_3) 2 70) (fun v σ => v = none ∧ σ = CX 17 li_4 lr_4 0 0) := by
  show Ev l (h + 1) m_Lw_init 0 ([.ref 14], [], CX 15 ((1, 6, (-1)) :: li_3) ((1, 4, 13) :: lr_3) 2 70) (fun v σ => v = none ∧ σ = CX 17 li_4 lr_4 0 0)
  refine ev_aload_n (i := 0) rfl rfl (a_dec_at dc_Lw_init 0 rfl) ?_
  refine ev_objInit cs_Lw_5 (by decide) (by omega) (by decide) (a_dec_at dc_Lw_init 1 rfl) ?_
  refine ev_aload_n (i := 0) rfl rfl (a_dec_at dc_Lw_init 2 rfl) ?_
  refine ev_bipush (v := 6) rfl (a_dec_at dc_Lw_init 3 rfl) ?_
  refine x_newa (kd := 0) (N := 6) (bc := 1) (bs := 64) (by decide) rfl (a_m1 120 rfl rfl) (by decide) (by decide) (by decide) (by decide) sh15 (by decide) (by decide +kernel) (by decide +kernel) (by decide) (a_dec_at dc_Lw_init 4 rfl) ?_
  refine x_putR fl_Lw_11 rfl (fun _ _ _ h => by cases h; exact Or.inr ⟨rfl, rfl⟩) (by decide) (by decide) sh14 (by decide) (a_dec_at dc_Lw_init 5 rfl) ?_
  refine ev_aload_n (i := 0) rfl rfl (a_dec_at dc_Lw_init 6 rfl) ?_
  refine ev_bipush (v := 64) rfl (a_dec_at dc_Lw_init 7 rfl) ?_
  refine x_newa (kd := 0) (N := 64) (bc := 0) (bs := 0) (by decide) rfl (a_m1 120 rfl rfl) (by decide) (by decide) (by decide) (by decide) sh16 (by decide) (by decide +kernel) (by decide +kernel) (by decide) (a_dec_at dc_Lw_init 8 rfl) ?_
  refine x_putR fl_Lw_15 rfl (fun _ _ _ h => by cases h; exact Or.inr ⟨rfl, rfl⟩) (by decide) (by decide) sh14 (by decide) (a_dec_at dc_Lw_init 9 rfl) ?_
  exact Ev.retV (a_dec_at dc_Lw_init 10 rfl) rfl ⟨rfl, rfl⟩
def li_5 : List (Nat × Nat × Int32) := (18, 13, (-1)) :: (18, 12, (-1)) :: li_4
def lr_5 : List (Nat × Nat × Nat) := (18, 10, 26) :: (18, 9, 25) :: (18, 8, 24) :: (18, 7, 23) :: (18, 6, 22) :: (18, 5, 21) :: (18, 4, 20) :: (18, 3, 19) :: (1, 7, 14) :: lr_4
set_option maxRecDepth 20000 in
theorem i_La_init_18 {l : Launch} {h : Nat} : Ev l (h + 1) m_La_init 0 (a_ent m_La_init.2.2.1 [.ref 18], [], CX 19 (li_4) ((1, 7, 14) :: lr_4) 8 936) (fun v σ => v = none ∧ σ = CX 27 li_5 lr_5 0 0) := by
  show Ev l (h + 1) m_La_init 0 ([.ref 18], [], CX 19 (li_4) ((1, 7, 14) :: lr_4) 8 936) (fun v σ => v = none ∧ σ = CX 27 li_5 lr_5 0 0)
  refine ev_aload_n (i := 0) rfl rfl (a_dec_at dc_La_init 0 rfl) ?_
  refine ev_objInit cs_La_3 (by decide) (by omega) (by decide) (a_dec_at dc_La_init 1 rfl) ?_
  refine ev_aload_n (i := 0) rfl rfl (a_dec_at dc_La_init 2 rfl) ?_
  refine ev_bipush (v := 6) rfl (a_dec_at dc_La_init 3 rfl) ?_
  refine x_newa (kd := 0) (N := 6) (bc := 7) (bs := 930) (by decide) rfl (a_m1 120 rfl rfl) (by decide) (by decide) (by decide) (by decide) sh19 (by decide) (by decide +kernel) (by decide +kernel) (by decide) (a_dec_at dc_La_init 4 rfl) ?_
  refine x_putR fl_La_9 rfl (fun _ _ _ h => by cases h; exact Or.inr ⟨rfl, rfl⟩) (by decide) (by decide) sh18 (by decide) (a_dec_at dc_La_init 5 rfl) ?_
  refine ev_aload_n (i := 0) rfl rfl (a_dec_at dc_La_init 6 rfl) ?_
  refine ev_bipush (v := 6) rfl (a_dec_at dc_La_init 7 rfl) ?_
  refine x_newa (kd := 0) (N := 6) (bc := 6) (bs := 924) (by decide) rfl (a_m1 120 rfl rfl) (by decide) (by decide) (by decide) (by decide) sh20 (by decide) (by decide +kernel) (by decide +kernel) (by decide) (a_dec_at dc_La_init 8 rfl) ?_
  refine x_putR fl_La_15 rfl (fun _ _ _ h => by cases h; exact Or.inr ⟨rfl, rfl⟩) (by decide) (by decide) sh18 (by decide) (a_dec_at dc_La_init 9 rfl) ?_
  refine ev_aload_n (i := 0) rfl rfl (a_dec_at dc_La_init 10 rfl) ?_
  refine ev_bipush (v := 6) rfl (a_dec_at dc_La_init 11 rfl) ?_
  refine x_newa (kd := 0) (N := 6) (bc := 5) (bs := 918) (by decide) rfl (a_m1 120 rfl rfl) (by decide) (by decide) (by decide) (by decide) sh21 (by decide) (by decide +kernel) (by decide +kernel) (by decide) (a_dec_at dc_La_init 12 rfl) ?_
  refine x_putR fl_La_18 rfl (fun _ _ _ h => by cases h; exact Or.inr ⟨rfl, rfl⟩) (by decide) (by decide) sh18 (by decide) (a_dec_at dc_La_init 13 rfl) ?_
  refine ev_aload_n (i := 0) rfl rfl (a_dec_at dc_La_init 14 rfl) ?_
  refine ev_bipush (v := 6) rfl (a_dec_at dc_La_init 15 rfl) ?_
  refine x_newa (kd := 0) (N := 6) (bc := 4) (bs := 912) (by decide) rfl (a_m1 120 rfl rfl) (by decide) (by decide) (by decide) (by decide) sh22 (by decide) (by decide +kernel) (by decide +kernel) (by decide) (a_dec_at dc_La_init 16 rfl) ?_
  refine x_putR fl_La_21 rfl (fun _ _ _ h => by cases h; exact Or.inr ⟨rfl, rfl⟩) (by decide) (by decide) sh18 (by decide) (a_dec_at dc_La_init 17 rfl) ?_
  refine ev_aload_n (i := 0) rfl rfl (a_dec_at dc_La_init 18 rfl) ?_
  refine ev_iconst (v := 4) rfl (a_dec_at dc_La_init 19 rfl) ?_
  refine x_newa (kd := 0) (N := 4) (bc := 3) (bs := 908) (by decide) rfl (a_m1 120 rfl rfl) (by decide) (by decide) (by decide) (by decide) sh23 (by decide) (by decide +kernel) (by decide +kernel) (by decide) (a_dec_at dc_La_init 20 rfl) ?_
  refine x_putR fl_La_24 rfl (fun _ _ _ h => by cases h; exact Or.inr ⟨rfl, rfl⟩) (by decide) (by decide) sh18 (by decide) (a_dec_at dc_La_init 21 rfl) ?_
  refine ev_aload_n (i := 0) rfl rfl (a_dec_at dc_La_init 22 rfl) ?_
  refine ev_iconst (v := 4) rfl (a_dec_at dc_La_init 23 rfl) ?_
  refine x_newa (kd := 0) (N := 4) (bc := 2) (bs := 904) (by decide) rfl (a_m1 120 rfl rfl) (by decide) (by decide) (by decide) (by decide) sh24 (by decide) (by decide +kernel) (by decide +kernel) (by decide) (a_dec_at dc_La_init 24 rfl) ?_
  refine x_putR fl_La_27 rfl (fun _ _ _ h => by cases h; exact Or.inr ⟨rfl, rfl⟩) (by decide) (by decide) sh18 (by decide) (a_dec_at dc_La_init 25 rfl) ?_
  refine ev_aload_n (i := 0) rfl rfl (a_dec_at dc_La_init 26 rfl) ?_
  refine ev_iconst (v := 4) rfl (a_dec_at dc_La_init 27 rfl) ?_
  refine x_newa (kd := 0) (N := 4) (bc := 1) (bs := 900) (by decide) rfl (a_m1 120 rfl rfl) (by decide) (by decide) (by decide) (by decide) sh25 (by decide) (by decide +kernel) (by decide +kernel) (by decide) (a_dec_at dc_La_init 28 rfl) ?_
  refine x_putR fl_La_30 rfl (fun _ _ _ h => by cases h; exact Or.inr ⟨rfl, rfl⟩) (by decide) (by decide) sh18 (by decide) (a_dec_at dc_La_init 29 rfl) ?_
  refine ev_aload_n (i := 0) rfl rfl (a_dec_at dc_La_init 30 rfl) ?_
  refine ev_sipush (v := 900) rfl (a_dec_at dc_La_init 31 rfl) ?_
  refine x_newa (kd := 0) (N := 900) (bc := 0) (bs := 0) (by decide) rfl (a_m1 120 rfl rfl) (by decide) (by decide) (by decide) (by decide) sh26 (by decide) (by decide +kernel) (by decide +kernel) (by decide) (a_dec_at dc_La_init 32 rfl) ?_
  refine x_putR fl_La_33 rfl (fun _ _ _ h => by cases h; exact Or.inr ⟨rfl, rfl⟩) (by decide) (by decide) sh18 (by decide) (a_dec_at dc_La_init 33 rfl) ?_
  refine ev_aload_n (i := 0) rfl rfl (a_dec_at dc_La_init 34 rfl) ?_
  refine ev_iconst (v := (-1)) rfl (a_dec_at dc_La_init 35 rfl) ?_
  refine x_putI fl_La_36 rfl (fun _ _ _ h => by cases h; exact Or.inl rfl) (by decide) sh18 (a_dec_at dc_La_init 36 rfl) ?_
  refine ev_aload_n (i := 0) rfl rfl (a_dec_at dc_La_init 37 rfl) ?_
  refine ev_iconst (v := (-1)) rfl (a_dec_at dc_La_init 38 rfl) ?_
  refine x_putI fl_La_40 rfl (fun _ _ _ h => by cases h; exact Or.inl rfl) (by decide) sh18 (a_dec_at dc_La_init 39 rfl) ?_
  exact Ev.retV (a_dec_at dc_La_init 40 rfl) rfl ⟨rfl, rfl⟩
def li_6 : List (Nat × Nat × Int32) := li_5
def lr_6 : List (Nat × Nat × Nat) := (17, 1, 14) :: (17, 0, 18) :: (17, 7, 32) :: (17, 6, 31) :: (17, 5, 30) :: (17, 4, 29) :: (17, 3, 28) :: (17, 2, 27) :: lr_5
set_option maxRecDepth 20000 in
theorem i_Sc_init_17 {l : Launch} {h : Nat} : Ev l (h + 1) m_Sc_init 0 (a_ent m_Sc_init.2.2.1 [.ref 17, .ref 18, .ref 14], [], CX 27 (li_5) (lr_5) 6 142) (fun v σ => v = none ∧ σ = CX 33 li_6 lr_6 0 0) := by
  show Ev l (h + 1) m_Sc_init 0 ([.ref 17, .ref 18, .ref 14], [], CX 27 (li_5) (lr_5) 6 142) (fun v σ => v = none ∧ σ = CX 33 li_6 lr_6 0 0)
  refine ev_aload_n (i := 0) rfl rfl (a_dec_at dc_Sc_init 0 rfl) ?_
  refine ev_objInit cs_Sc_5 (by decide) (by omega) (by decide) (a_dec_at dc_Sc_init 1 rfl) ?_
  refine ev_aload_n (i := 0) rfl rfl (a_dec_at dc_Sc_init 2 rfl) ?_
  refine ev_bipush (v := 40) rfl (a_dec_at dc_Sc_init 3 rfl) ?_
  refine x_newa (kd := 0) (N := 40) (bc := 5) (bs := 102) (by decide) rfl (a_m1 120 rfl rfl) (by decide) (by decide) (by decide) (by decide) sh27 (by decide) (by decide +kernel) (by decide +kernel) (by decide) (a_dec_at dc_Sc_init 4 rfl) ?_
  refine x_putR fl_Sc_11 rfl (fun _ _ _ h => by cases h; exact Or.inr ⟨rfl, rfl⟩) (by decide) (by decide) sh17 (by decide) (a_dec_at dc_Sc_init 5 rfl) ?_
  refine ev_aload_n (i := 0) rfl rfl (a_dec_at dc_Sc_init 6 rfl) ?_
  refine ev_bipush (v := 24) rfl (a_dec_at dc_Sc_init 7 rfl) ?_
  refine x_newa (kd := 0) (N := 24) (bc := 4) (bs := 78) (by decide) rfl (a_m1 120 rfl rfl) (by decide) (by decide) (by decide) (by decide) sh28 (by decide) (by decide +kernel) (by decide +kernel) (by decide) (a_dec_at dc_Sc_init 8 rfl) ?_
  refine x_putR fl_Sc_15 rfl (fun _ _ _ h => by cases h; exact Or.inr ⟨rfl, rfl⟩) (by decide) (by decide) sh17 (by decide) (a_dec_at dc_Sc_init 9 rfl) ?_
  refine ev_aload_n (i := 0) rfl rfl (a_dec_at dc_Sc_init 10 rfl) ?_
  refine ev_bipush (v := 24) rfl (a_dec_at dc_Sc_init 11 rfl) ?_
  refine x_newa (kd := 0) (N := 24) (bc := 3) (bs := 54) (by decide) rfl (a_m1 120 rfl rfl) (by decide) (by decide) (by decide) (by decide) sh29 (by decide) (by decide +kernel) (by decide +kernel) (by decide) (a_dec_at dc_Sc_init 12 rfl) ?_
  refine x_putR fl_Sc_18 rfl (fun _ _ _ h => by cases h; exact Or.inr ⟨rfl, rfl⟩) (by decide) (by decide) sh17 (by decide) (a_dec_at dc_Sc_init 13 rfl) ?_
  refine ev_aload_n (i := 0) rfl rfl (a_dec_at dc_Sc_init 14 rfl) ?_
  refine ev_bipush (v := 24) rfl (a_dec_at dc_Sc_init 15 rfl) ?_
  refine x_newa (kd := 0) (N := 24) (bc := 2) (bs := 30) (by decide) rfl (a_m1 120 rfl rfl) (by decide) (by decide) (by decide) (by decide) sh30 (by decide) (by decide +kernel) (by decide +kernel) (by decide) (a_dec_at dc_Sc_init 16 rfl) ?_
  refine x_putR fl_Sc_21 rfl (fun _ _ _ h => by cases h; exact Or.inr ⟨rfl, rfl⟩) (by decide) (by decide) sh17 (by decide) (a_dec_at dc_Sc_init 17 rfl) ?_
  refine ev_aload_n (i := 0) rfl rfl (a_dec_at dc_Sc_init 18 rfl) ?_
  refine ev_bipush (v := 24) rfl (a_dec_at dc_Sc_init 19 rfl) ?_
  refine x_newa (kd := 0) (N := 24) (bc := 1) (bs := 6) (by decide) rfl (a_m1 120 rfl rfl) (by decide) (by decide) (by decide) (by decide) sh31 (by decide) (by decide +kernel) (by decide +kernel) (by decide) (a_dec_at dc_Sc_init 20 rfl) ?_
  refine x_putR fl_Sc_24 rfl (fun _ _ _ h => by cases h; exact Or.inr ⟨rfl, rfl⟩) (by decide) (by decide) sh17 (by decide) (a_dec_at dc_Sc_init 21 rfl) ?_
  refine ev_aload_n (i := 0) rfl rfl (a_dec_at dc_Sc_init 22 rfl) ?_
  refine ev_bipush (v := 6) rfl (a_dec_at dc_Sc_init 23 rfl) ?_
  refine x_newa (kd := 0) (N := 6) (bc := 0) (bs := 0) (by decide) rfl (a_m1 120 rfl rfl) (by decide) (by decide) (by decide) (by decide) sh32 (by decide) (by decide +kernel) (by decide +kernel) (by decide) (a_dec_at dc_Sc_init 24 rfl) ?_
  refine x_putR fl_Sc_27 rfl (fun _ _ _ h => by cases h; exact Or.inr ⟨rfl, rfl⟩) (by decide) (by decide) sh17 (by decide) (a_dec_at dc_Sc_init 25 rfl) ?_
  refine ev_aload_n (i := 0) rfl rfl (a_dec_at dc_Sc_init 26 rfl) ?_
  refine ev_aload_n (i := 1) rfl rfl (a_dec_at dc_Sc_init 27 rfl) ?_
  refine x_putR fl_Sc_30 rfl (fun _ _ _ h => by cases h; exact Or.inr ⟨rfl, rfl⟩) (by decide) (by decide) sh17 (by decide) (a_dec_at dc_Sc_init 28 rfl) ?_
  refine ev_aload_n (i := 0) rfl rfl (a_dec_at dc_Sc_init 29 rfl) ?_
  refine ev_aload_n (i := 2) rfl rfl (a_dec_at dc_Sc_init 30 rfl) ?_
  refine x_putR fl_Sc_34 rfl (fun _ _ _ h => by cases h; exact Or.inr ⟨rfl, rfl⟩) (by decide) (by decide) sh17 (by decide) (a_dec_at dc_Sc_init 31 rfl) ?_
  exact Ev.retV (a_dec_at dc_Sc_init 32 rfl) rfl ⟨rfl, rfl⟩
def li_7 : List (Nat × Nat × Int32) := li_6
def lr_7 : List (Nat × Nat × Nat) := (33, 1, 14) :: (33, 0, 18) :: (33, 7, 39) :: (33, 6, 38) :: (33, 5, 37) :: (33, 4, 36) :: (33, 3, 35) :: (33, 2, 34) :: (1, 8, 17) :: lr_6
set_option maxRecDepth 20000 in
theorem i_Sc_init_33 {l : Launch} {h : Nat} : Ev l (h + 1) m_Sc_init 0 (a_ent m_Sc_init.2.2.1 [.ref 33, .ref 18, .ref 14], [], CX 34 (li_6) ((1, 8, 17) :: lr_6) 6 142) (fun v σ => v = none ∧ σ = CX 40 li_7 lr_7 0 0) := by
  show Ev l (h + 1) m_Sc_init 0 ([.ref 33, .ref 18, .ref 14], [], CX 34 (li_6) ((1, 8, 17) :: lr_6) 6 142) (fun v σ => v = none ∧ σ = CX 40 li_7 lr_7 0 0)
  refine ev_aload_n (i := 0) rfl rfl (a_dec_at dc_Sc_init 0 rfl) ?_
  refine ev_objInit cs_Sc_5 (by decide) (by omega) (by decide) (a_dec_at dc_Sc_init 1 rfl) ?_
  refine ev_aload_n (i := 0) rfl rfl (a_dec_at dc_Sc_init 2 rfl) ?_
  refine ev_bipush (v := 40) rfl (a_dec_at dc_Sc_init 3 rfl) ?_
  refine x_newa (kd := 0) (N := 40) (bc := 5) (bs := 102) (by decide) rfl (a_m1 120 rfl rfl) (by decide) (by decide) (by decide) (by decide) sh34 (by decide) (by decide +kernel) (by decide +kernel) (by decide) (a_dec_at dc_Sc_init 4 rfl) ?_
  refine x_putR fl_Sc_11 rfl (fun _ _ _ h => by cases h; exact Or.inr ⟨rfl, rfl⟩) (by decide) (by decide) sh33 (by decide) (a_dec_at dc_Sc_init 5 rfl) ?_
  refine ev_aload_n (i := 0) rfl rfl (a_dec_at dc_Sc_init 6 rfl) ?_
  refine ev_bipush (v := 24) rfl (a_dec_at dc_Sc_init 7 rfl) ?_
  refine x_newa (kd := 0) (N := 24) (bc := 4) (bs := 78) (by decide) rfl (a_m1 120 rfl rfl) (by decide) (by decide) (by decide) (by decide) sh35 (by decide) (by decide +kernel) (by decide +kernel) (by decide) (a_dec_at dc_Sc_init 8 rfl) ?_
  refine x_putR fl_Sc_15 rfl (fun _ _ _ h => by cases h; exact Or.inr ⟨rfl, rfl⟩) (by decide) (by decide) sh33 (by decide) (a_dec_at dc_Sc_init 9 rfl) ?_
  refine ev_aload_n (i := 0) rfl rfl (a_dec_at dc_Sc_init 10 rfl) ?_
  refine ev_bipush (v := 24) rfl (a_dec_at dc_Sc_init 11 rfl) ?_
  refine x_newa (kd := 0) (N := 24) (bc := 3) (bs := 54) (by decide) rfl (a_m1 120 rfl rfl) (by decide) (by decide) (by decide) (by decide) sh36 (by decide) (by decide +kernel) (by decide +kernel) (by decide) (a_dec_at dc_Sc_init 12 rfl) ?_
  refine x_putR fl_Sc_18 rfl (fun _ _ _ h => by cases h; exact Or.inr ⟨rfl, rfl⟩) (by decide) (by decide) sh33 (by decide) (a_dec_at dc_Sc_init 13 rfl) ?_
  refine ev_aload_n (i := 0) rfl rfl (a_dec_at dc_Sc_init 14 rfl) ?_
  refine ev_bipush (v := 24) rfl (a_dec_at dc_Sc_init 15 rfl) ?_
  refine x_newa (kd := 0) (N := 24) (bc := 2) (bs := 30) (by decide) rfl (a_m1 120 rfl rfl) (by decide) (by decide) (by decide) (by decide) sh37 (by decide) (by decide +kernel) (by decide +kernel) (by decide) (a_dec_at dc_Sc_init 16 rfl) ?_
  refine x_putR fl_Sc_21 rfl (fun _ _ _ h => by cases h; exact Or.inr ⟨rfl, rfl⟩) (by decide) (by decide) sh33 (by decide) (a_dec_at dc_Sc_init 17 rfl) ?_
  refine ev_aload_n (i := 0) rfl rfl (a_dec_at dc_Sc_init 18 rfl) ?_
  refine ev_bipush (v := 24) rfl (a_dec_at dc_Sc_init 19 rfl) ?_
  refine x_newa (kd := 0) (N := 24) (bc := 1) (bs := 6) (by decide) rfl (a_m1 120 rfl rfl) (by decide) (by decide) (by decide) (by decide) sh38 (by decide) (by decide +kernel) (by decide +kernel) (by decide) (a_dec_at dc_Sc_init 20 rfl) ?_
  refine x_putR fl_Sc_24 rfl (fun _ _ _ h => by cases h; exact Or.inr ⟨rfl, rfl⟩) (by decide) (by decide) sh33 (by decide) (a_dec_at dc_Sc_init 21 rfl) ?_
  refine ev_aload_n (i := 0) rfl rfl (a_dec_at dc_Sc_init 22 rfl) ?_
  refine ev_bipush (v := 6) rfl (a_dec_at dc_Sc_init 23 rfl) ?_
  refine x_newa (kd := 0) (N := 6) (bc := 0) (bs := 0) (by decide) rfl (a_m1 120 rfl rfl) (by decide) (by decide) (by decide) (by decide) sh39 (by decide) (by decide +kernel) (by decide +kernel) (by decide) (a_dec_at dc_Sc_init 24 rfl) ?_
  refine x_putR fl_Sc_27 rfl (fun _ _ _ h => by cases h; exact Or.inr ⟨rfl, rfl⟩) (by decide) (by decide) sh33 (by decide) (a_dec_at dc_Sc_init 25 rfl) ?_
  refine ev_aload_n (i := 0) rfl rfl (a_dec_at dc_Sc_init 26 rfl) ?_
  refine ev_aload_n (i := 1) rfl rfl (a_dec_at dc_Sc_init 27 rfl) ?_
  refine x_putR fl_Sc_30 rfl (fun _ _ _ h => by cases h; exact Or.inr ⟨rfl, rfl⟩) (by decide) (by decide) sh33 (by decide) (a_dec_at dc_Sc_init 28 rfl) ?_
  refine ev_aload_n (i := 0) rfl rfl (a_dec_at dc_Sc_init 29 rfl) ?_
  refine ev_aload_n (i := 2) rfl rfl (a_dec_at dc_Sc_init 30 rfl) ?_
  refine x_putR fl_Sc_34 rfl (fun _ _ _ h => by cases h; exact Or.inr ⟨rfl, rfl⟩) (by decide) (by decide) sh33 (by decide) (a_dec_at dc_Sc_init 31 rfl) ?_
  exact Ev.retV (a_dec_at dc_Sc_init 32 rfl) rfl ⟨rfl, rfl⟩
def li_8 : List (Nat × Nat × Int32) := li_7
def lr_8 : List (Nat × Nat × Nat) := (42, 1, 54) :: (42, 0, 43) :: (43, 9, 53) :: (43, 8, 52) :: (43, 7, 51) :: (43, 6, 50) :: (43, 5, 49) :: (43, 4, 48) :: (43, 3, 47) :: (43, 2, 46) :: (43, 1, 45) :: (43, 0, 44) :: (1, 11, 41) :: (1, 10, 40) :: (1, 9, 33) :: lr_7
set_option maxRecDepth 20000 in
theorem i_Pa_init_42 {l : Launch} {h : Nat} : Ev l (h + 1) m_Pa_init 0 (a_ent m_Pa_init.2.2.1 [.ref 42], [], CX 43 (li_7) ((1, 11, 41) :: (1, 10, 40) :: (1, 9, 33) :: lr_7) 12 450) (fun v σ => v = none ∧ σ = CX 55 li_8 lr_8 0 0) := by
  show Ev l (h + 1) m_Pa_init 0 ([.ref 42], [], CX 43 (li_7) ((1, 11, 41) :: (1, 10, 40) :: (1, 9, 33) :: lr_7) 12 450) (fun v σ => v = none ∧ σ = CX 55 li_8 lr_8 0 0)
  refine ev_aload_n (i := 0) rfl rfl (a_dec_at dc_Pa_init 0 rfl) ?_
  refine ev_objInit cs_Pa_3 (by decide) (by omega) (by decide) (a_dec_at dc_Pa_init 1 rfl) ?_
  refine ev_aload_n (i := 0) rfl rfl (a_dec_at dc_Pa_init 2 rfl) ?_
  refine ev_bipush (v := 10) rfl (a_dec_at dc_Pa_init 3 rfl) ?_
  refine ev_bipush (v := 40) rfl (a_dec_at dc_Pa_init 4 rfl) ?_
  refine x_mna (bc := 1) (bs := 40) (a_m1 235 rfl rfl) (by decide +kernel) (by decide +kernel) (by decide) (a_dec_at dc_Pa_init 5 rfl) ?_
  refine x_putR fl_Pa_13 rfl (fun _ _ _ h => by cases h; exact Or.inr ⟨rfl, rfl⟩) (by decide) (by decide) sh42 (by decide) (a_dec_at dc_Pa_init 6 rfl) ?_
  refine ev_aload_n (i := 0) rfl rfl (a_dec_at dc_Pa_init 7 rfl) ?_
  refine ev_bipush (v := 40) rfl (a_dec_at dc_Pa_init 8 rfl) ?_
  refine x_newa (kd := 0) (N := 40) (bc := 0) (bs := 0) (by decide) rfl (a_m1 120 rfl rfl) (by decide) (by decide) (by decide) (by decide) sh54 (by decide) (by decide +kernel) (by decide +kernel) (by decide) (a_dec_at dc_Pa_init 9 rfl) ?_
  refine x_putR fl_Pa_18 rfl (fun _ _ _ h => by cases h; exact Or.inr ⟨rfl, rfl⟩) (by decide) (by decide) sh42 (by decide) (a_dec_at dc_Pa_init 10 rfl) ?_
  exact Ev.retV (a_dec_at dc_Pa_init 11 rfl) rfl ⟨rfl, rfl⟩
def li_9 : List (Nat × Nat × Int32) := li_8
def lr_9 : List (Nat × Nat × Nat) := (55, 3, 59) :: (55, 2, 58) :: (55, 1, 57) :: (55, 0, 56) :: (1, 12, 42) :: lr_8
set_option maxRecDepth 20000 in
theorem i_Ma_init_55 {l : Launch} {h : Nat} : Ev l (h + 1) m_Ma_init 0 (a_ent m_Ma_init.2.2.1 [.ref 55], [], CX 56 (li_8) ((1, 12, 42) :: lr_8) 4 20) (fun v σ => v = none ∧ σ = CX 60 li_9 lr_9 0 0) := by
  show Ev l (h + 1) m_Ma_init 0 ([.ref 55], [], CX 56 (li_8) ((1, 12, 42) :: lr_8) 4 20) (fun v σ => v = none ∧ σ = CX 60 li_9 lr_9 0 0)
  refine ev_aload_n (i := 0) rfl rfl (a_dec_at dc_Ma_init 0 rfl) ?_
  refine ev_objInit cs_Ma_3 (by decide) (by omega) (by decide) (a_dec_at dc_Ma_init 1 rfl) ?_
  refine ev_aload_n (i := 0) rfl rfl (a_dec_at dc_Ma_init 2 rfl) ?_
  refine ev_bipush (v := 6) rfl (a_dec_at dc_Ma_init 3 rfl) ?_
  refine x_newa (kd := 0) (N := 6) (bc := 3) (bs := 14) (by decide) rfl (a_m1 120 rfl rfl) (by decide) (by decide) (by decide) (by decide) sh56 (by decide) (by decide +kernel) (by decide +kernel) (by decide) (a_dec_at dc_Ma_init 4 rfl) ?_
  refine x_putR fl_Ma_9 rfl (fun _ _ _ h => by cases h; exact Or.inr ⟨rfl, rfl⟩) (by decide) (by decide) sh55 (by decide) (a_dec_at dc_Ma_init 5 rfl) ?_
  refine ev_aload_n (i := 0) rfl rfl (a_dec_at dc_Ma_init 6 rfl) ?_
  refine ev_iconst (v := 4) rfl (a_dec_at dc_Ma_init 7 rfl) ?_
  refine x_newa (kd := 0) (N := 4) (bc := 2) (bs := 10) (by decide) rfl (a_m1 120 rfl rfl) (by decide) (by decide) (by decide) (by decide) sh57 (by decide) (by decide +kernel) (by decide +kernel) (by decide) (a_dec_at dc_Ma_init 8 rfl) ?_
  refine x_putR fl_Ma_15 rfl (fun _ _ _ h => by cases h; exact Or.inr ⟨rfl, rfl⟩) (by decide) (by decide) sh55 (by decide) (a_dec_at dc_Ma_init 9 rfl) ?_
  refine ev_aload_n (i := 0) rfl rfl (a_dec_at dc_Ma_init 10 rfl) ?_
  refine ev_iconst (v := 4) rfl (a_dec_at dc_Ma_init 11 rfl) ?_
  refine x_newa (kd := 0) (N := 4) (bc := 1) (bs := 6) (by decide) rfl (a_m1 120 rfl rfl) (by decide) (by decide) (by decide) (by decide) sh58 (by decide) (by decide +kernel) (by decide +kernel) (by decide) (a_dec_at dc_Ma_init 12 rfl) ?_
  refine x_putR fl_Ma_18 rfl (fun _ _ _ h => by cases h; exact Or.inr ⟨rfl, rfl⟩) (by decide) (by decide) sh55 (by decide) (a_dec_at dc_Ma_init 13 rfl) ?_
  refine ev_aload_n (i := 0) rfl rfl (a_dec_at dc_Ma_init 14 rfl) ?_
  refine ev_bipush (v := 6) rfl (a_dec_at dc_Ma_init 15 rfl) ?_
  refine x_newa (kd := 0) (N := 6) (bc := 0) (bs := 0) (by decide) rfl (a_m1 120 rfl rfl) (by decide) (by decide) (by decide) (by decide) sh59 (by decide) (by decide +kernel) (by decide +kernel) (by decide) (a_dec_at dc_Ma_init 16 rfl) ?_
  refine x_putR fl_Ma_21 rfl (fun _ _ _ h => by cases h; exact Or.inr ⟨rfl, rfl⟩) (by decide) (by decide) sh55 (by decide) (a_dec_at dc_Ma_init 17 rfl) ?_
  exact Ev.retV (a_dec_at dc_Ma_init 18 rfl) rfl ⟨rfl, rfl⟩
def li_10 : List (Nat × Nat × Int32) := li_9
def lr_10 : List (Nat × Nat × Nat) := (60, 0, 55) :: (60, 13, 67) :: (60, 12, 66) :: (60, 6, 65) :: (60, 5, 64) :: (60, 4, 63) :: (60, 3, 62) :: (60, 2, 61) :: (1, 13, 55) :: lr_9
set_option maxRecDepth 20000 in
theorem i_Sv_init_60 {l : Launch} {h : Nat} : Ev l (h + 1) m_Sv_init 0 (a_ent m_Sv_init.2.2.1 [.ref 60, .ref 55], [], CX 61 (li_9) ((1, 13, 55) :: lr_9) 7 38) (fun v σ => v = none ∧ σ = CX 68 li_10 lr_10 0 0) := by
  show Ev l (h + 1) m_Sv_init 0 ([.ref 60, .ref 55], [], CX 61 (li_9) ((1, 13, 55) :: lr_9) 7 38) (fun v σ => v = none ∧ σ = CX 68 li_10 lr_10 0 0)
  refine ev_aload_n (i := 0) rfl rfl (a_dec_at dc_Sv_init 0 rfl) ?_
  refine ev_objInit cs_Sv_3 (by decide) (by omega) (by decide) (a_dec_at dc_Sv_init 1 rfl) ?_
  refine ev_aload_n (i := 0) rfl rfl (a_dec_at dc_Sv_init 2 rfl) ?_
  refine ev_bipush (v := 6) rfl (a_dec_at dc_Sv_init 3 rfl) ?_
  refine x_newa (kd := 0) (N := 6) (bc := 6) (bs := 32) (by decide) rfl (a_m1 120 rfl rfl) (by decide) (by decide) (by decide) (by decide) sh61 (by decide) (by decide +kernel) (by decide +kernel) (by decide) (a_dec_at dc_Sv_init 4 rfl) ?_
  refine x_putR fl_Sv_9 rfl (fun _ _ _ h => by cases h; exact Or.inr ⟨rfl, rfl⟩) (by decide) (by decide) sh60 (by decide) (a_dec_at dc_Sv_init 5 rfl) ?_
  refine ev_aload_n (i := 0) rfl rfl (a_dec_at dc_Sv_init 6 rfl) ?_
  refine ev_bipush (v := 6) rfl (a_dec_at dc_Sv_init 7 rfl) ?_
  refine x_newa (kd := 0) (N := 6) (bc := 5) (bs := 26) (by decide) rfl (a_m1 120 rfl rfl) (by decide) (by decide) (by decide) (by decide) sh62 (by decide) (by decide +kernel) (by decide +kernel) (by decide) (a_dec_at dc_Sv_init 8 rfl) ?_
  refine x_putR fl_Sv_15 rfl (fun _ _ _ h => by cases h; exact Or.inr ⟨rfl, rfl⟩) (by decide) (by decide) sh60 (by decide) (a_dec_at dc_Sv_init 9 rfl) ?_
  refine ev_aload_n (i := 0) rfl rfl (a_dec_at dc_Sv_init 10 rfl) ?_
  refine ev_bipush (v := 6) rfl (a_dec_at dc_Sv_init 11 rfl) ?_
  refine x_newa (kd := 0) (N := 6) (bc := 4) (bs := 20) (by decide) rfl (a_m1 120 rfl rfl) (by decide) (by decide) (by decide) (by decide) sh63 (by decide) (by decide +kernel) (by decide +kernel) (by decide) (a_dec_at dc_Sv_init 12 rfl) ?_
  refine x_putR fl_Sv_18 rfl (fun _ _ _ h => by cases h; exact Or.inr ⟨rfl, rfl⟩) (by decide) (by decide) sh60 (by decide) (a_dec_at dc_Sv_init 13 rfl) ?_
  refine ev_aload_n (i := 0) rfl rfl (a_dec_at dc_Sv_init 14 rfl) ?_
  refine ev_bipush (v := 6) rfl (a_dec_at dc_Sv_init 15 rfl) ?_
  refine x_newa (kd := 0) (N := 6) (bc := 3) (bs := 14) (by decide) rfl (a_m1 120 rfl rfl) (by decide) (by decide) (by decide) (by decide) sh64 (by decide) (by decide +kernel) (by decide +kernel) (by decide) (a_dec_at dc_Sv_init 16 rfl) ?_
  refine x_putR fl_Sv_21 rfl (fun _ _ _ h => by cases h; exact Or.inr ⟨rfl, rfl⟩) (by decide) (by decide) sh60 (by decide) (a_dec_at dc_Sv_init 17 rfl) ?_
  refine ev_aload_n (i := 0) rfl rfl (a_dec_at dc_Sv_init 18 rfl) ?_
  refine ev_iconst (v := 4) rfl (a_dec_at dc_Sv_init 19 rfl) ?_
  refine x_newa (kd := 0) (N := 4) (bc := 2) (bs := 10) (by decide) rfl (a_m1 120 rfl rfl) (by decide) (by decide) (by decide) (by decide) sh65 (by decide) (by decide +kernel) (by decide +kernel) (by decide) (a_dec_at dc_Sv_init 20 rfl) ?_
  refine x_putR fl_Sv_24 rfl (fun _ _ _ h => by cases h; exact Or.inr ⟨rfl, rfl⟩) (by decide) (by decide) sh60 (by decide) (a_dec_at dc_Sv_init 21 rfl) ?_
  refine ev_aload_n (i := 0) rfl rfl (a_dec_at dc_Sv_init 22 rfl) ?_
  refine ev_bipush (v := 6) rfl (a_dec_at dc_Sv_init 23 rfl) ?_
  refine x_newa (kd := 0) (N := 6) (bc := 1) (bs := 4) (by decide) rfl (a_m1 120 rfl rfl) (by decide) (by decide) (by decide) (by decide) sh66 (by decide) (by decide +kernel) (by decide +kernel) (by decide) (a_dec_at dc_Sv_init 24 rfl) ?_
  refine x_putR fl_Sv_27 rfl (fun _ _ _ h => by cases h; exact Or.inr ⟨rfl, rfl⟩) (by decide) (by decide) sh60 (by decide) (a_dec_at dc_Sv_init 25 rfl) ?_
  refine ev_aload_n (i := 0) rfl rfl (a_dec_at dc_Sv_init 26 rfl) ?_
  refine ev_iconst (v := 4) rfl (a_dec_at dc_Sv_init 27 rfl) ?_
  refine x_newa (kd := 0) (N := 4) (bc := 0) (bs := 0) (by decide) rfl (a_m1 120 rfl rfl) (by decide) (by decide) (by decide) (by decide) sh67 (by decide) (by decide +kernel) (by decide +kernel) (by decide) (a_dec_at dc_Sv_init 28 rfl) ?_
  refine x_putR fl_Sv_30 rfl (fun _ _ _ h => by cases h; exact Or.inr ⟨rfl, rfl⟩) (by decide) (by decide) sh60 (by decide) (a_dec_at dc_Sv_init 29 rfl) ?_
  refine ev_aload_n (i := 0) rfl rfl (a_dec_at dc_Sv_init 30 rfl) ?_
  refine ev_aload_n (i := 1) rfl rfl (a_dec_at dc_Sv_init 31 rfl) ?_
  refine x_putR fl_Sv_33 rfl (fun _ _ _ h => by cases h; exact Or.inr ⟨rfl, rfl⟩) (by decide) (by decide) sh60 (by decide) (a_dec_at dc_Sv_init 32 rfl) ?_
  exact Ev.retV (a_dec_at dc_Sv_init 33 rfl) rfl ⟨rfl, rfl⟩
def li_11 : List (Nat × Nat × Int32) := li_10
def lr_11 : List (Nat × Nat × Nat) := (68, 1, 55) :: (68, 0, 33) :: (68, 10, 74) :: (68, 8, 73) :: (68, 7, 72) :: (68, 6, 71) :: (68, 5, 70) :: (68, 4, 69) :: (1, 14, 60) :: lr_10
set_option maxRecDepth 20000 in
theorem i_Wo_init_68 {l : Launch} {h : Nat} : Ev l (h + 1) m_Wo_init 0 (a_ent m_Wo_init.2.2.1 [.ref 68, .ref 33, .ref 55], [], CX 69 (li_10) ((1, 14, 60) :: lr_10) 6 199) (fun v σ => v = none ∧ σ = CX 75 li_11 lr_11 0 0) := by
  show Ev l (h + 1) m_Wo_init 0 ([.ref 68, .ref 33, .ref 55], [], CX 69 (li_10) ((1, 14, 60) :: lr_10) 6 199) (fun v σ => v = none ∧ σ = CX 75 li_11 lr_11 0 0)
  refine ev_aload_n (i := 0) rfl rfl (a_dec_at dc_Wo_init 0 rfl) ?_
  refine ev_objInit cs_Wo_3 (by decide) (by omega) (by decide) (a_dec_at dc_Wo_init 1 rfl) ?_
  refine ev_aload_n (i := 0) rfl rfl (a_dec_at dc_Wo_init 2 rfl) ?_
  refine ev_bipush (v := 60) rfl (a_dec_at dc_Wo_init 3 rfl) ?_
  refine x_newa (kd := 0) (N := 60) (bc := 5) (bs := 139) (by decide) rfl (a_m1 120 rfl rfl) (by decide) (by decide) (by decide) (by decide) sh69 (by decide) (by decide +kernel) (by decide +kernel) (by decide) (a_dec_at dc_Wo_init 4 rfl) ?_
  refine x_putR fl_Wo_9 rfl (fun _ _ _ h => by cases h; exact Or.inr ⟨rfl, rfl⟩) (by decide) (by decide) sh68 (by decide) (a_dec_at dc_Wo_init 5 rfl) ?_
  refine ev_aload_n (i := 0) rfl rfl (a_dec_at dc_Wo_init 6 rfl) ?_
  refine ev_bipush (v := 60) rfl (a_dec_at dc_Wo_init 7 rfl) ?_
  refine x_newa (kd := 0) (N := 60) (bc := 4) (bs := 79) (by decide) rfl (a_m1 120 rfl rfl) (by decide) (by decide) (by decide) (by decide) sh70 (by decide) (by decide +kernel) (by decide +kernel) (by decide) (a_dec_at dc_Wo_init 8 rfl) ?_
  refine x_putR fl_Wo_15 rfl (fun _ _ _ h => by cases h; exact Or.inr ⟨rfl, rfl⟩) (by decide) (by decide) sh68 (by decide) (a_dec_at dc_Wo_init 9 rfl) ?_
  refine ev_aload_n (i := 0) rfl rfl (a_dec_at dc_Wo_init 10 rfl) ?_
  refine ev_bipush (v := 60) rfl (a_dec_at dc_Wo_init 11 rfl) ?_
  refine x_newa (kd := 0) (N := 60) (bc := 3) (bs := 19) (by decide) rfl (a_m1 120 rfl rfl) (by decide) (by decide) (by decide) (by decide) sh71 (by decide) (by decide +kernel) (by decide +kernel) (by decide) (a_dec_at dc_Wo_init 12 rfl) ?_
  refine x_putR fl_Wo_18 rfl (fun _ _ _ h => by cases h; exact Or.inr ⟨rfl, rfl⟩) (by decide) (by decide) sh68 (by decide) (a_dec_at dc_Wo_init 13 rfl) ?_
  refine ev_aload_n (i := 0) rfl rfl (a_dec_at dc_Wo_init 14 rfl) ?_
  refine ev_bipush (v := 6) rfl (a_dec_at dc_Wo_init 15 rfl) ?_
  refine x_newa (kd := 0) (N := 6) (bc := 2) (bs := 13) (by decide) rfl (a_m1 120 rfl rfl) (by decide) (by decide) (by decide) (by decide) sh72 (by decide) (by decide +kernel) (by decide +kernel) (by decide) (a_dec_at dc_Wo_init 16 rfl) ?_
  refine x_putR fl_Wo_21 rfl (fun _ _ _ h => by cases h; exact Or.inr ⟨rfl, rfl⟩) (by decide) (by decide) sh68 (by decide) (a_dec_at dc_Wo_init 17 rfl) ?_
  refine ev_aload_n (i := 0) rfl rfl (a_dec_at dc_Wo_init 18 rfl) ?_
  refine ev_bipush (v := 7) rfl (a_dec_at dc_Wo_init 19 rfl) ?_
  refine x_newa (kd := 0) (N := 7) (bc := 1) (bs := 6) (by decide) rfl (a_m1 120 rfl rfl) (by decide) (by decide) (by decide) (by decide) sh73 (by decide) (by decide +kernel) (by decide +kernel) (by decide) (a_dec_at dc_Wo_init 20 rfl) ?_
  refine x_putR fl_Wo_24 rfl (fun _ _ _ h => by cases h; exact Or.inr ⟨rfl, rfl⟩) (by decide) (by decide) sh68 (by decide) (a_dec_at dc_Wo_init 21 rfl) ?_
  refine ev_aload_n (i := 0) rfl rfl (a_dec_at dc_Wo_init 22 rfl) ?_
  refine ev_bipush (v := 6) rfl (a_dec_at dc_Wo_init 23 rfl) ?_
  refine x_newa (kd := 0) (N := 6) (bc := 0) (bs := 0) (by decide) rfl (a_m1 120 rfl rfl) (by decide) (by decide) (by decide) (by decide) sh74 (by decide) (by decide +kernel) (by decide +kernel) (by decide) (a_dec_at dc_Wo_init 24 rfl) ?_
  refine x_putR fl_Wo_27 rfl (fun _ _ _ h => by cases h; exact Or.inr ⟨rfl, rfl⟩) (by decide) (by decide) sh68 (by decide) (a_dec_at dc_Wo_init 25 rfl) ?_
  refine ev_aload_n (i := 0) rfl rfl (a_dec_at dc_Wo_init 26 rfl) ?_
  refine ev_aload_n (i := 1) rfl rfl (a_dec_at dc_Wo_init 27 rfl) ?_
  refine x_putR fl_Wo_30 rfl (fun _ _ _ h => by cases h; exact Or.inr ⟨rfl, rfl⟩) (by decide) (by decide) sh68 (by decide) (a_dec_at dc_Wo_init 28 rfl) ?_
  refine ev_aload_n (i := 0) rfl rfl (a_dec_at dc_Wo_init 29 rfl) ?_
  refine ev_aload_n (i := 2) rfl rfl (a_dec_at dc_Wo_init 30 rfl) ?_
  refine x_putR fl_Wo_34 rfl (fun _ _ _ h => by cases h; exact Or.inr ⟨rfl, rfl⟩) (by decide) (by decide) sh68 (by decide) (a_dec_at dc_Wo_init 31 rfl) ?_
  exact Ev.retV (a_dec_at dc_Wo_init 32 rfl) rfl ⟨rfl, rfl⟩
def li_12 : List (Nat × Nat × Int32) := li_11
def lr_12 : List (Nat × Nat × Nat) := (75, 1, 55) :: (75, 0, 33) :: (75, 4, 77) :: (75, 2, 76) :: (1, 15, 68) :: lr_11
set_option maxRecDepth 20000 in
theorem i_Su_init_75 {l : Launch} {h : Nat} : Ev l (h + 1) m_Su_init 0 (a_ent m_Su_init.2.2.1 [.ref 75, .ref 33, .ref 55], [], CX 76 (li_11) ((1, 15, 68) :: lr_11) 2 10) (fun v σ => v = none ∧ σ = CX 78 li_12 lr_12 0 0) := by
  show Ev l (h + 1) m_Su_init 0 ([.ref 75, .ref 33, .ref 55], [], CX 76 (li_11) ((1, 15, 68) :: lr_11) 2 10) (fun v σ => v = none ∧ σ = CX 78 li_12 lr_12 0 0)
  refine ev_aload_n (i := 0) rfl rfl (a_dec_at dc_Su_init 0 rfl) ?_
  refine ev_objInit cs_Su_3 (by decide) (by omega) (by decide) (a_dec_at dc_Su_init 1 rfl) ?_
  refine ev_aload_n (i := 0) rfl rfl (a_dec_at dc_Su_init 2 rfl) ?_
  refine ev_bipush (v := 6) rfl (a_dec_at dc_Su_init 3 rfl) ?_
  refine x_newa (kd := 0) (N := 6) (bc := 1) (bs := 4) (by decide) rfl (a_m1 120 rfl rfl) (by decide) (by decide) (by decide) (by decide) sh76 (by decide) (by decide +kernel) (by decide +kernel) (by decide) (a_dec_at dc_Su_init 4 rfl) ?_
  refine x_putR fl_Su_9 rfl (fun _ _ _ h => by cases h; exact Or.inr ⟨rfl, rfl⟩) (by decide) (by decide) sh75 (by decide) (a_dec_at dc_Su_init 5 rfl) ?_
  refine ev_aload_n (i := 0) rfl rfl (a_dec_at dc_Su_init 6 rfl) ?_
  refine ev_iconst (v := 4) rfl (a_dec_at dc_Su_init 7 rfl) ?_
  refine x_newa (kd := 0) (N := 4) (bc := 0) (bs := 0) (by decide) rfl (a_m1 120 rfl rfl) (by decide) (by decide) (by decide) (by decide) sh77 (by decide) (by decide +kernel) (by decide +kernel) (by decide) (a_dec_at dc_Su_init 8 rfl) ?_
  refine x_putR fl_Su_15 rfl (fun _ _ _ h => by cases h; exact Or.inr ⟨rfl, rfl⟩) (by decide) (by decide) sh75 (by decide) (a_dec_at dc_Su_init 9 rfl) ?_
  refine ev_aload_n (i := 0) rfl rfl (a_dec_at dc_Su_init 10 rfl) ?_
  refine ev_aload_n (i := 1) rfl rfl (a_dec_at dc_Su_init 11 rfl) ?_
  refine x_putR fl_Su_18 rfl (fun _ _ _ h => by cases h; exact Or.inr ⟨rfl, rfl⟩) (by decide) (by decide) sh75 (by decide) (a_dec_at dc_Su_init 12 rfl) ?_
  refine ev_aload_n (i := 0) rfl rfl (a_dec_at dc_Su_init 13 rfl) ?_
  refine ev_aload_n (i := 2) rfl rfl (a_dec_at dc_Su_init 14 rfl) ?_
  refine x_putR fl_Su_22 rfl (fun _ _ _ h => by cases h; exact Or.inr ⟨rfl, rfl⟩) (by decide) (by decide) sh75 (by decide) (a_dec_at dc_Su_init 15 rfl) ?_
  exact Ev.retV (a_dec_at dc_Su_init 16 rfl) rfl ⟨rfl, rfl⟩
def li_13 : List (Nat × Nat × Int32) := (80, 13, (-1)) :: (80, 12, (-1)) :: li_12
def lr_13 : List (Nat × Nat × Nat) := (80, 10, 88) :: (80, 9, 87) :: (80, 8, 86) :: (80, 7, 85) :: (80, 6, 84) :: (80, 5, 83) :: (80, 4, 82) :: (80, 3, 81) :: (1, 17, 78) :: (1, 16, 75) :: lr_12
set_option maxRecDepth 20000 in
theorem i_La_init_80 {l : Launch} {h : Nat} : Ev l (h + 1) m_La_init 0 (a_ent m_La_init.2.2.1 [.ref 80], [], CX 81 (li_12) ((1, 17, 78) :: (1, 16, 75) :: lr_12) 8 936) (fun v σ => v = none ∧ σ = CX 89 li_13 lr_13 0 0) := by
  show Ev l (h + 1) m_La_init 0 ([.ref 80], [], CX 81 (li_12) ((1, 17, 78) :: (1, 16, 75) :: lr_12) 8 936) (fun v σ => v = none ∧ σ = CX 89 li_13 lr_13 0 0)
  refine ev_aload_n (i := 0) rfl rfl (a_dec_at dc_La_init 0 rfl) ?_
  refine ev_objInit cs_La_3 (by decide) (by omega) (by decide) (a_dec_at dc_La_init 1 rfl) ?_
  refine ev_aload_n (i := 0) rfl rfl (a_dec_at dc_La_init 2 rfl) ?_
  refine ev_bipush (v := 6) rfl (a_dec_at dc_La_init 3 rfl) ?_
  refine x_newa (kd := 0) (N := 6) (bc := 7) (bs := 930) (by decide) rfl (a_m1 120 rfl rfl) (by decide) (by decide) (by decide) (by decide) sh81 (by decide) (by decide +kernel) (by decide +kernel) (by decide) (a_dec_at dc_La_init 4 rfl) ?_
  refine x_putR fl_La_9 rfl (fun _ _ _ h => by cases h; exact Or.inr ⟨rfl, rfl⟩) (by decide) (by decide) sh80 (by decide) (a_dec_at dc_La_init 5 rfl) ?_
  refine ev_aload_n (i := 0) rfl rfl (a_dec_at dc_La_init 6 rfl) ?_
  refine ev_bipush (v := 6) rfl (a_dec_at dc_La_init 7 rfl) ?_
  refine x_newa (kd := 0) (N := 6) (bc := 6) (bs := 924) (by decide) rfl (a_m1 120 rfl rfl) (by decide) (by decide) (by decide) (by decide) sh82 (by decide) (by decide +kernel) (by decide +kernel) (by decide) (a_dec_at dc_La_init 8 rfl) ?_
  refine x_putR fl_La_15 rfl (fun _ _ _ h => by cases h; exact Or.inr ⟨rfl, rfl⟩) (by decide) (by decide) sh80 (by decide) (a_dec_at dc_La_init 9 rfl) ?_
  refine ev_aload_n (i := 0) rfl rfl (a_dec_at dc_La_init 10 rfl) ?_
  refine ev_bipush (v := 6) rfl (a_dec_at dc_La_init 11 rfl) ?_
  refine x_newa (kd := 0) (N := 6) (bc := 5) (bs := 918) (by decide) rfl (a_m1 120 rfl rfl) (by decide) (by decide) (by decide) (by decide) sh83 (by decide) (by decide +kernel) (by decide +kernel) (by decide) (a_dec_at dc_La_init 12 rfl) ?_
  refine x_putR fl_La_18 rfl (fun _ _ _ h => by cases h; exact Or.inr ⟨rfl, rfl⟩) (by decide) (by decide) sh80 (by decide) (a_dec_at dc_La_init 13 rfl) ?_
  refine ev_aload_n (i := 0) rfl rfl (a_dec_at dc_La_init 14 rfl) ?_
  refine ev_bipush (v := 6) rfl (a_dec_at dc_La_init 15 rfl) ?_
  refine x_newa (kd := 0) (N := 6) (bc := 4) (bs := 912) (by decide) rfl (a_m1 120 rfl rfl) (by decide) (by decide) (by decide) (by decide) sh84 (by decide) (by decide +kernel) (by decide +kernel) (by decide) (a_dec_at dc_La_init 16 rfl) ?_
  refine x_putR fl_La_21 rfl (fun _ _ _ h => by cases h; exact Or.inr ⟨rfl, rfl⟩) (by decide) (by decide) sh80 (by decide) (a_dec_at dc_La_init 17 rfl) ?_
  refine ev_aload_n (i := 0) rfl rfl (a_dec_at dc_La_init 18 rfl) ?_
  refine ev_iconst (v := 4) rfl (a_dec_at dc_La_init 19 rfl) ?_
  refine x_newa (kd := 0) (N := 4) (bc := 3) (bs := 908) (by decide) rfl (a_m1 120 rfl rfl) (by decide) (by decide) (by decide) (by decide) sh85 (by decide) (by decide +kernel) (by decide +kernel) (by decide) (a_dec_at dc_La_init 20 rfl) ?_
  refine x_putR fl_La_24 rfl (fun _ _ _ h => by cases h; exact Or.inr ⟨rfl, rfl⟩) (by decide) (by decide) sh80 (by decide) (a_dec_at dc_La_init 21 rfl) ?_
  refine ev_aload_n (i := 0) rfl rfl (a_dec_at dc_La_init 22 rfl) ?_
  refine ev_iconst (v := 4) rfl (a_dec_at dc_La_init 23 rfl) ?_
  refine x_newa (kd := 0) (N := 4) (bc := 2) (bs := 904) (by decide) rfl (a_m1 120 rfl rfl) (by decide) (by decide) (by decide) (by decide) sh86 (by decide) (by decide +kernel) (by decide +kernel) (by decide) (a_dec_at dc_La_init 24 rfl) ?_
  refine x_putR fl_La_27 rfl (fun _ _ _ h => by cases h; exact Or.inr ⟨rfl, rfl⟩) (by decide) (by decide) sh80 (by decide) (a_dec_at dc_La_init 25 rfl) ?_
  refine ev_aload_n (i := 0) rfl rfl (a_dec_at dc_La_init 26 rfl) ?_
  refine ev_iconst (v := 4) rfl (a_dec_at dc_La_init 27 rfl) ?_
  refine x_newa (kd := 0) (N := 4) (bc := 1) (bs := 900) (by decide) rfl (a_m1 120 rfl rfl) (by decide) (by decide) (by decide) (by decide) sh87 (by decide) (by decide +kernel) (by decide +kernel) (by decide) (a_dec_at dc_La_init 28 rfl) ?_
  refine x_putR fl_La_30 rfl (fun _ _ _ h => by cases h; exact Or.inr ⟨rfl, rfl⟩) (by decide) (by decide) sh80 (by decide) (a_dec_at dc_La_init 29 rfl) ?_
  refine ev_aload_n (i := 0) rfl rfl (a_dec_at dc_La_init 30 rfl) ?_
  refine ev_sipush (v := 900) rfl (a_dec_at dc_La_init 31 rfl) ?_
  refine x_newa (kd := 0) (N := 900) (bc := 0) (bs := 0) (by decide) rfl (a_m1 120 rfl rfl) (by decide) (by decide) (by decide) (by decide) sh88 (by decide) (by decide +kernel) (by decide +kernel) (by decide) (a_dec_at dc_La_init 32 rfl) ?_
  refine x_putR fl_La_33 rfl (fun _ _ _ h => by cases h; exact Or.inr ⟨rfl, rfl⟩) (by decide) (by decide) sh80 (by decide) (a_dec_at dc_La_init 33 rfl) ?_
  refine ev_aload_n (i := 0) rfl rfl (a_dec_at dc_La_init 34 rfl) ?_
  refine ev_iconst (v := (-1)) rfl (a_dec_at dc_La_init 35 rfl) ?_
  refine x_putI fl_La_36 rfl (fun _ _ _ h => by cases h; exact Or.inl rfl) (by decide) sh80 (a_dec_at dc_La_init 36 rfl) ?_
  refine ev_aload_n (i := 0) rfl rfl (a_dec_at dc_La_init 37 rfl) ?_
  refine ev_iconst (v := (-1)) rfl (a_dec_at dc_La_init 38 rfl) ?_
  refine x_putI fl_La_40 rfl (fun _ _ _ h => by cases h; exact Or.inl rfl) (by decide) sh80 (a_dec_at dc_La_init 39 rfl) ?_
  exact Ev.retV (a_dec_at dc_La_init 40 rfl) rfl ⟨rfl, rfl⟩
def li_14 : List (Nat × Nat × Int32) := li_13
def lr_14 : List (Nat × Nat × Nat) := (79, 1, 14) :: (79, 0, 80) :: (79, 7, 94) :: (79, 6, 93) :: (79, 5, 92) :: (79, 4, 91) :: (79, 3, 90) :: (79, 2, 89) :: lr_13
set_option maxRecDepth 20000 in
theorem i_Sc_init_79 {l : Launch} {h : Nat} : Ev l (h + 1) m_Sc_init 0 (a_ent m_Sc_init.2.2.1 [.ref 79, .ref 80, .ref 14], [], CX 89 (li_13) (lr_13) 6 142) (fun v σ => v = none ∧ σ = CX 95 li_14 lr_14 0 0) := by
  show Ev l (h + 1) m_Sc_init 0 ([.ref 79, .ref 80, .ref 14], [], CX 89 (li_13) (lr_13) 6 142) (fun v σ => v = none ∧ σ = CX 95 li_14 lr_14 0 0)
  refine ev_aload_n (i := 0) rfl rfl (a_dec_at dc_Sc_init 0 rfl) ?_
  refine ev_objInit cs_Sc_5 (by decide) (by omega) (by decide) (a_dec_at dc_Sc_init 1 rfl) ?_
  refine ev_aload_n (i := 0) rfl rfl (a_dec_at dc_Sc_init 2 rfl) ?_
  refine ev_bipush (v := 40) rfl (a_dec_at dc_Sc_init 3 rfl) ?_
  refine x_newa (kd := 0) (N := 40) (bc := 5) (bs := 102) (by decide) rfl (a_m1 120 rfl rfl) (by decide) (by decide) (by decide) (by decide) sh89 (by decide) (by decide +kernel) (by decide +kernel) (by decide) (a_dec_at dc_Sc_init 4 rfl) ?_
  refine x_putR fl_Sc_11 rfl (fun _ _ _ h => by cases h; exact Or.inr ⟨rfl, rfl⟩) (by decide) (by decide) sh79 (by decide) (a_dec_at dc_Sc_init 5 rfl) ?_
  refine ev_aload_n (i := 0) rfl rfl (a_dec_at dc_Sc_init 6 rfl) ?_
  refine ev_bipush (v := 24) rfl (a_dec_at dc_Sc_init 7 rfl) ?_
  refine x_newa (kd := 0) (N := 24) (bc := 4) (bs := 78) (by decide) rfl (a_m1 120 rfl rfl) (by decide) (by decide) (by decide) (by decide) sh90 (by decide) (by decide +kernel) (by decide +kernel) (by decide) (a_dec_at dc_Sc_init 8 rfl) ?_
  refine x_putR fl_Sc_15 rfl (fun _ _ _ h => by cases h; exact Or.inr ⟨rfl, rfl⟩) (by decide) (by decide) sh79 (by decide) (a_dec_at dc_Sc_init 9 rfl) ?_
  refine ev_aload_n (i := 0) rfl rfl (a_dec_at dc_Sc_init 10 rfl) ?_
  refine ev_bipush (v := 24) rfl (a_dec_at dc_Sc_init 11 rfl) ?_
  refine x_newa (kd := 0) (N := 24) (bc := 3) (bs := 54) (by decide) rfl (a_m1 120 rfl rfl) (by decide) (by decide) (by decide) (by decide) sh91 (by decide) (by decide +kernel) (by decide +kernel) (by decide) (a_dec_at dc_Sc_init 12 rfl) ?_
  refine x_putR fl_Sc_18 rfl (fun _ _ _ h => by cases h; exact Or.inr ⟨rfl, rfl⟩) (by decide) (by decide) sh79 (by decide) (a_dec_at dc_Sc_init 13 rfl) ?_
  refine ev_aload_n (i := 0) rfl rfl (a_dec_at dc_Sc_init 14 rfl) ?_
  refine ev_bipush (v := 24) rfl (a_dec_at dc_Sc_init 15 rfl) ?_
  refine x_newa (kd := 0) (N := 24) (bc := 2) (bs := 30) (by decide) rfl (a_m1 120 rfl rfl) (by decide) (by decide) (by decide) (by decide) sh92 (by decide) (by decide +kernel) (by decide +kernel) (by decide) (a_dec_at dc_Sc_init 16 rfl) ?_
  refine x_putR fl_Sc_21 rfl (fun _ _ _ h => by cases h; exact Or.inr ⟨rfl, rfl⟩) (by decide) (by decide) sh79 (by decide) (a_dec_at dc_Sc_init 17 rfl) ?_
  refine ev_aload_n (i := 0) rfl rfl (a_dec_at dc_Sc_init 18 rfl) ?_
  refine ev_bipush (v := 24) rfl (a_dec_at dc_Sc_init 19 rfl) ?_
  refine x_newa (kd := 0) (N := 24) (bc := 1) (bs := 6) (by decide) rfl (a_m1 120 rfl rfl) (by decide) (by decide) (by decide) (by decide) sh93 (by decide) (by decide +kernel) (by decide +kernel) (by decide) (a_dec_at dc_Sc_init 20 rfl) ?_
  refine x_putR fl_Sc_24 rfl (fun _ _ _ h => by cases h; exact Or.inr ⟨rfl, rfl⟩) (by decide) (by decide) sh79 (by decide) (a_dec_at dc_Sc_init 21 rfl) ?_
  refine ev_aload_n (i := 0) rfl rfl (a_dec_at dc_Sc_init 22 rfl) ?_
  refine ev_bipush (v := 6) rfl (a_dec_at dc_Sc_init 23 rfl) ?_
  refine x_newa (kd := 0) (N := 6) (bc := 0) (bs := 0) (by decide) rfl (a_m1 120 rfl rfl) (by decide) (by decide) (by decide) (by decide) sh94 (by decide) (by decide +kernel) (by decide +kernel) (by decide) (a_dec_at dc_Sc_init 24 rfl) ?_
  refine x_putR fl_Sc_27 rfl (fun _ _ _ h => by cases h; exact Or.inr ⟨rfl, rfl⟩) (by decide) (by decide) sh79 (by decide) (a_dec_at dc_Sc_init 25 rfl) ?_
  refine ev_aload_n (i := 0) rfl rfl (a_dec_at dc_Sc_init 26 rfl) ?_
  refine ev_aload_n (i := 1) rfl rfl (a_dec_at dc_Sc_init 27 rfl) ?_
  refine x_putR fl_Sc_30 rfl (fun _ _ _ h => by cases h; exact Or.inr ⟨rfl, rfl⟩) (by decide) (by decide) sh79 (by decide) (a_dec_at dc_Sc_init 28 rfl) ?_
  refine ev_aload_n (i := 0) rfl rfl (a_dec_at dc_Sc_init 29 rfl) ?_
  refine ev_aload_n (i := 2) rfl rfl (a_dec_at dc_Sc_init 30 rfl) ?_
  refine x_putR fl_Sc_34 rfl (fun _ _ _ h => by cases h; exact Or.inr ⟨rfl, rfl⟩) (by decide) (by decide) sh79 (by decide) (a_dec_at dc_Sc_init 31 rfl) ?_
  exact Ev.retV (a_dec_at dc_Sc_init 32 rfl) rfl ⟨rfl, rfl⟩
def li_15 : List (Nat × Nat × Int32) := (96, 13, (-1)) :: (96, 12, (-1)) :: li_14
def lr_15 : List (Nat × Nat × Nat) := (96, 10, 104) :: (96, 9, 103) :: (96, 8, 102) :: (96, 7, 101) :: (96, 6, 100) :: (96, 5, 99) :: (96, 4, 98) :: (96, 3, 97) :: (40, 0, 79) :: lr_14
set_option maxRecDepth 20000 in
theorem i_La_init_96 {l : Launch} {h : Nat} : Ev l (h + 1) m_La_init 0 (a_ent m_La_init.2.2.1 [.ref 96], [], CX 97 (li_14) ((40, 0, 79) :: lr_14) 8 936) (fun v σ => v = none ∧ σ = CX 105 li_15 lr_15 0 0) := by
  show Ev l (h + 1) m_La_init 0 ([.ref 96], [], CX 97 (li_14) ((40, 0, 79) :: lr_14) 8 936) (fun v σ => v = none ∧ σ = CX 105 li_15 lr_15 0 0)
  refine ev_aload_n (i := 0) rfl rfl (a_dec_at dc_La_init 0 rfl) ?_
  refine ev_objInit cs_La_3 (by decide) (by omega) (by decide) (a_dec_at dc_La_init 1 rfl) ?_
  refine ev_aload_n (i := 0) rfl rfl (a_dec_at dc_La_init 2 rfl) ?_
  refine ev_bipush (v := 6) rfl (a_dec_at dc_La_init 3 rfl) ?_
  refine x_newa (kd := 0) (N := 6) (bc := 7) (bs := 930) (by decide) rfl (a_m1 120 rfl rfl) (by decide) (by decide) (by decide) (by decide) sh97 (by decide) (by decide +kernel) (by decide +kernel) (by decide) (a_dec_at dc_La_init 4 rfl) ?_
  refine x_putR fl_La_9 rfl (fun _ _ _ h => by cases h; exact Or.inr ⟨rfl, rfl⟩) (by decide) (by decide) sh96 (by decide) (a_dec_at dc_La_init 5 rfl) ?_
  refine ev_aload_n (i := 0) rfl rfl (a_dec_at dc_La_init 6 rfl) ?_
  refine ev_bipush (v := 6) rfl (a_dec_at dc_La_init 7 rfl) ?_
  refine x_newa (kd := 0) (N := 6) (bc := 6) (bs := 924) (by decide) rfl (a_m1 120 rfl rfl) (by decide) (by decide) (by decide) (by decide) sh98 (by decide) (by decide +kernel) (by decide +kernel) (by decide) (a_dec_at dc_La_init 8 rfl) ?_
  refine x_putR fl_La_15 rfl (fun _ _ _ h => by cases h; exact Or.inr ⟨rfl, rfl⟩) (by decide) (by decide) sh96 (by decide) (a_dec_at dc_La_init 9 rfl) ?_
  refine ev_aload_n (i := 0) rfl rfl (a_dec_at dc_La_init 10 rfl) ?_
  refine ev_bipush (v := 6) rfl (a_dec_at dc_La_init 11 rfl) ?_
  refine x_newa (kd := 0) (N := 6) (bc := 5) (bs := 918) (by decide) rfl (a_m1 120 rfl rfl) (by decide) (by decide) (by decide) (by decide) sh99 (by decide) (by decide +kernel) (by decide +kernel) (by decide) (a_dec_at dc_La_init 12 rfl) ?_
  refine x_putR fl_La_18 rfl (fun _ _ _ h => by cases h; exact Or.inr ⟨rfl, rfl⟩) (by decide) (by decide) sh96 (by decide) (a_dec_at dc_La_init 13 rfl) ?_
  refine ev_aload_n (i := 0) rfl rfl (a_dec_at dc_La_init 14 rfl) ?_
  refine ev_bipush (v := 6) rfl (a_dec_at dc_La_init 15 rfl) ?_
  refine x_newa (kd := 0) (N := 6) (bc := 4) (bs := 912) (by decide) rfl (a_m1 120 rfl rfl) (by decide) (by decide) (by decide) (by decide) sh100 (by decide) (by decide +kernel) (by decide +kernel) (by decide) (a_dec_at dc_La_init 16 rfl) ?_
  refine x_putR fl_La_21 rfl (fun _ _ _ h => by cases h; exact Or.inr ⟨rfl, rfl⟩) (by decide) (by decide) sh96 (by decide) (a_dec_at dc_La_init 17 rfl) ?_
  refine ev_aload_n (i := 0) rfl rfl (a_dec_at dc_La_init 18 rfl) ?_
  refine ev_iconst (v := 4) rfl (a_dec_at dc_La_init 19 rfl) ?_
  refine x_newa (kd := 0) (N := 4) (bc := 3) (bs := 908) (by decide) rfl (a_m1 120 rfl rfl) (by decide) (by decide) (by decide) (by decide) sh101 (by decide) (by decide +kernel) (by decide +kernel) (by decide) (a_dec_at dc_La_init 20 rfl) ?_
  refine x_putR fl_La_24 rfl (fun _ _ _ h => by cases h; exact Or.inr ⟨rfl, rfl⟩) (by decide) (by decide) sh96 (by decide) (a_dec_at dc_La_init 21 rfl) ?_
  refine ev_aload_n (i := 0) rfl rfl (a_dec_at dc_La_init 22 rfl) ?_
  refine ev_iconst (v := 4) rfl (a_dec_at dc_La_init 23 rfl) ?_
  refine x_newa (kd := 0) (N := 4) (bc := 2) (bs := 904) (by decide) rfl (a_m1 120 rfl rfl) (by decide) (by decide) (by decide) (by decide) sh102 (by decide) (by decide +kernel) (by decide +kernel) (by decide) (a_dec_at dc_La_init 24 rfl) ?_
  refine x_putR fl_La_27 rfl (fun _ _ _ h => by cases h; exact Or.inr ⟨rfl, rfl⟩) (by decide) (by decide) sh96 (by decide) (a_dec_at dc_La_init 25 rfl) ?_
  refine ev_aload_n (i := 0) rfl rfl (a_dec_at dc_La_init 26 rfl) ?_
  refine ev_iconst (v := 4) rfl (a_dec_at dc_La_init 27 rfl) ?_
  refine x_newa (kd := 0) (N := 4) (bc := 1) (bs := 900) (by decide) rfl (a_m1 120 rfl rfl) (by decide) (by decide) (by decide) (by decide) sh103 (by decide) (by decide +kernel) (by decide +kernel) (by decide) (a_dec_at dc_La_init 28 rfl) ?_
  refine x_putR fl_La_30 rfl (fun _ _ _ h => by cases h; exact Or.inr ⟨rfl, rfl⟩) (by decide) (by decide) sh96 (by decide) (a_dec_at dc_La_init 29 rfl) ?_
  refine ev_aload_n (i := 0) rfl rfl (a_dec_at dc_La_init 30 rfl) ?_
  refine ev_sipush (v := 900) rfl (a_dec_at dc_La_init 31 rfl) ?_
  refine x_newa (kd := 0) (N := 900) (bc := 0) (bs := 0) (by decide) rfl (a_m1 120 rfl rfl) (by decide) (by decide) (by decide) (by decide) sh104 (by decide) (by decide +kernel) (by decide +kernel) (by decide) (a_dec_at dc_La_init 32 rfl) ?_
  refine x_putR fl_La_33 rfl (fun _ _ _ h => by cases h; exact Or.inr ⟨rfl, rfl⟩) (by decide) (by decide) sh96 (by decide) (a_dec_at dc_La_init 33 rfl) ?_
  refine ev_aload_n (i := 0) rfl rfl (a_dec_at dc_La_init 34 rfl) ?_
  refine ev_iconst (v := (-1)) rfl (a_dec_at dc_La_init 35 rfl) ?_
  refine x_putI fl_La_36 rfl (fun _ _ _ h => by cases h; exact Or.inl rfl) (by decide) sh96 (a_dec_at dc_La_init 36 rfl) ?_
  refine ev_aload_n (i := 0) rfl rfl (a_dec_at dc_La_init 37 rfl) ?_
  refine ev_iconst (v := (-1)) rfl (a_dec_at dc_La_init 38 rfl) ?_
  refine x_putI fl_La_40 rfl (fun _ _ _ h => by cases h; exact Or.inl rfl) (by decide) sh96 (a_dec_at dc_La_init 39 rfl) ?_
  exact Ev.retV (a_dec_at dc_La_init 40 rfl) rfl ⟨rfl, rfl⟩
def li_16 : List (Nat × Nat × Int32) := li_15
def lr_16 : List (Nat × Nat × Nat) := (95, 1, 14) :: (95, 0, 96) :: (95, 7, 110) :: (95, 6, 109) :: (95, 5, 108) :: (95, 4, 107) :: (95, 3, 106) :: (95, 2, 105) :: lr_15
set_option maxRecDepth 20000 in
theorem i_Sc_init_95 {l : Launch} {h : Nat} : Ev l (h + 1) m_Sc_init 0 (a_ent m_Sc_init.2.2.1 [.ref 95, .ref 96, .ref 14], [], CX 105 (li_15) (lr_15) 6 142) (fun v σ => v = none ∧ σ = CX 111 li_16 lr_16 0 0) := by
  show Ev l (h + 1) m_Sc_init 0 ([.ref 95, .ref 96, .ref 14], [], CX 105 (li_15) (lr_15) 6 142) (fun v σ => v = none ∧ σ = CX 111 li_16 lr_16 0 0)
  refine ev_aload_n (i := 0) rfl rfl (a_dec_at dc_Sc_init 0 rfl) ?_
  refine ev_objInit cs_Sc_5 (by decide) (by omega) (by decide) (a_dec_at dc_Sc_init 1 rfl) ?_
  refine ev_aload_n (i := 0) rfl rfl (a_dec_at dc_Sc_init 2 rfl) ?_
  refine ev_bipush (v := 40) rfl (a_dec_at dc_Sc_init 3 rfl) ?_
  refine x_newa (kd := 0) (N := 40) (bc := 5) (bs := 102) (by decide) rfl (a_m1 120 rfl rfl) (by decide) (by decide) (by decide) (by decide) sh105 (by decide) (by decide +kernel) (by decide +kernel) (by decide) (a_dec_at dc_Sc_init 4 rfl) ?_
  refine x_putR fl_Sc_11 rfl (fun _ _ _ h => by cases h; exact Or.inr ⟨rfl, rfl⟩) (by decide) (by decide) sh95 (by decide) (a_dec_at dc_Sc_init 5 rfl) ?_
  refine ev_aload_n (i := 0) rfl rfl (a_dec_at dc_Sc_init 6 rfl) ?_
  refine ev_bipush (v := 24) rfl (a_dec_at dc_Sc_init 7 rfl) ?_
  refine x_newa (kd := 0) (N := 24) (bc := 4) (bs := 78) (by decide) rfl (a_m1 120 rfl rfl) (by decide) (by decide) (by decide) (by decide) sh106 (by decide) (by decide +kernel) (by decide +kernel) (by decide) (a_dec_at dc_Sc_init 8 rfl) ?_
  refine x_putR fl_Sc_15 rfl (fun _ _ _ h => by cases h; exact Or.inr ⟨rfl, rfl⟩) (by decide) (by decide) sh95 (by decide) (a_dec_at dc_Sc_init 9 rfl) ?_
  refine ev_aload_n (i := 0) rfl rfl (a_dec_at dc_Sc_init 10 rfl) ?_
  refine ev_bipush (v := 24) rfl (a_dec_at dc_Sc_init 11 rfl) ?_
  refine x_newa (kd := 0) (N := 24) (bc := 3) (bs := 54) (by decide) rfl (a_m1 120 rfl rfl) (by decide) (by decide) (by decide) (by decide) sh107 (by decide) (by decide +kernel) (by decide +kernel) (by decide) (a_dec_at dc_Sc_init 12 rfl) ?_
  refine x_putR fl_Sc_18 rfl (fun _ _ _ h => by cases h; exact Or.inr ⟨rfl, rfl⟩) (by decide) (by decide) sh95 (by decide) (a_dec_at dc_Sc_init 13 rfl) ?_
  refine ev_aload_n (i := 0) rfl rfl (a_dec_at dc_Sc_init 14 rfl) ?_
  refine ev_bipush (v := 24) rfl (a_dec_at dc_Sc_init 15 rfl) ?_
  refine x_newa (kd := 0) (N := 24) (bc := 2) (bs := 30) (by decide) rfl (a_m1 120 rfl rfl) (by decide) (by decide) (by decide) (by decide) sh108 (by decide) (by decide +kernel) (by decide +kernel) (by decide) (a_dec_at dc_Sc_init 16 rfl) ?_
  refine x_putR fl_Sc_21 rfl (fun _ _ _ h => by cases h; exact Or.inr ⟨rfl, rfl⟩) (by decide) (by decide) sh95 (by decide) (a_dec_at dc_Sc_init 17 rfl) ?_
  refine ev_aload_n (i := 0) rfl rfl (a_dec_at dc_Sc_init 18 rfl) ?_
  refine ev_bipush (v := 24) rfl (a_dec_at dc_Sc_init 19 rfl) ?_
  refine x_newa (kd := 0) (N := 24) (bc := 1) (bs := 6) (by decide) rfl (a_m1 120 rfl rfl) (by decide) (by decide) (by decide) (by decide) sh109 (by decide) (by decide +kernel) (by decide +kernel) (by decide) (a_dec_at dc_Sc_init 20 rfl) ?_
  refine x_putR fl_Sc_24 rfl (fun _ _ _ h => by cases h; exact Or.inr ⟨rfl, rfl⟩) (by decide) (by decide) sh95 (by decide) (a_dec_at dc_Sc_init 21 rfl) ?_
  refine ev_aload_n (i := 0) rfl rfl (a_dec_at dc_Sc_init 22 rfl) ?_
  refine ev_bipush (v := 6) rfl (a_dec_at dc_Sc_init 23 rfl) ?_
  refine x_newa (kd := 0) (N := 6) (bc := 0) (bs := 0) (by decide) rfl (a_m1 120 rfl rfl) (by decide) (by decide) (by decide) (by decide) sh110 (by decide) (by decide +kernel) (by decide +kernel) (by decide) (a_dec_at dc_Sc_init 24 rfl) ?_
  refine x_putR fl_Sc_27 rfl (fun _ _ _ h => by cases h; exact Or.inr ⟨rfl, rfl⟩) (by decide) (by decide) sh95 (by decide) (a_dec_at dc_Sc_init 25 rfl) ?_
  refine ev_aload_n (i := 0) rfl rfl (a_dec_at dc_Sc_init 26 rfl) ?_
  refine ev_aload_n (i := 1) rfl rfl (a_dec_at dc_Sc_init 27 rfl) ?_
  refine x_putR fl_Sc_30 rfl (fun _ _ _ h => by cases h; exact Or.inr ⟨rfl, rfl⟩) (by decide) (by decide) sh95 (by decide) (a_dec_at dc_Sc_init 28 rfl) ?_
  refine ev_aload_n (i := 0) rfl rfl (a_dec_at dc_Sc_init 29 rfl) ?_
  refine ev_aload_n (i := 2) rfl rfl (a_dec_at dc_Sc_init 30 rfl) ?_
  refine x_putR fl_Sc_34 rfl (fun _ _ _ h => by cases h; exact Or.inr ⟨rfl, rfl⟩) (by decide) (by decide) sh95 (by decide) (a_dec_at dc_Sc_init 31 rfl) ?_
  exact Ev.retV (a_dec_at dc_Sc_init 32 rfl) rfl ⟨rfl, rfl⟩
def li_17 : List (Nat × Nat × Int32) := (111, 1, (-1)) :: li_16
def lr_17 : List (Nat × Nat × Nat) := (111, 0, 112) :: (40, 1, 95) :: lr_16
set_option maxRecDepth 20000 in
theorem i_Tr_init_111 {l : Launch} {h : Nat} : Ev l (h + 1) m_Tr_init 0 (a_ent m_Tr_init.2.2.1 [.ref 111], [], CX 112 (li_16) ((40, 1, 95) :: lr_16) 1 40) (fun v σ => v = none ∧ σ = CX 113 li_17 lr_17 0 0) := by
  show Ev l (h + 1) m_Tr_init 0 ([.ref 111], [], CX 112 (li_16) ((40, 1, 95) :: lr_16) 1 40) (fun v σ => v = none ∧ σ = CX 113 li_17 lr_17 0 0)
  refine ev_aload_n (i := 0) rfl rfl (a_dec_at dc_Tr_init 0 rfl) ?_
  refine ev_objInit cs_Tr_3 (by decide) (by omega) (by decide) (a_dec_at dc_Tr_init 1 rfl) ?_
  refine ev_aload_n (i := 0) rfl rfl (a_dec_at dc_Tr_init 2 rfl) ?_
  refine ev_bipush (v := 40) rfl (a_dec_at dc_Tr_init 3 rfl) ?_
  refine x_newa (kd := 3) (N := 40) (bc := 0) (bs := 0) (by decide) rfl (a_m2 181 rfl rfl) (by decide) (by decide) (by decide) (by decide) sh112 (by decide) (by decide +kernel) (by decide +kernel) (by decide) (a_dec_at dc_Tr_init 4 rfl) ?_
  refine x_putR fl_Tr_9 rfl (fun _ _ _ h => by cases h; exact Or.inr ⟨rfl, rfl⟩) (by decide) (by decide) sh111 (by decide) (a_dec_at dc_Tr_init 5 rfl) ?_
  refine ev_aload_n (i := 0) rfl rfl (a_dec_at dc_Tr_init 6 rfl) ?_
  refine ev_iconst (v := (-1)) rfl (a_dec_at dc_Tr_init 7 rfl) ?_
  refine x_putI fl_Tr_15 rfl (fun _ _ _ h => by cases h; exact Or.inl rfl) (by decide) sh111 (a_dec_at dc_Tr_init 8 rfl) ?_
  exact Ev.retV (a_dec_at dc_Tr_init 9 rfl) rfl ⟨rfl, rfl⟩
def li_18 : List (Nat × Nat × Int32) := (113, 1, (-1)) :: li_17
def lr_18 : List (Nat × Nat × Nat) := (113, 0, 114) :: (78, 0, 111) :: lr_17
set_option maxRecDepth 20000 in
theorem i_Tr_init_113 {l : Launch} {h : Nat} : Ev l (h + 1) m_Tr_init 0 (a_ent m_Tr_init.2.2.1 [.ref 113], [], CX 114 (li_17) ((78, 0, 111) :: lr_17) 1 40) (fun v σ => v = none ∧ σ = CX 115 li_18 lr_18 0 0) := by
  show Ev l (h + 1) m_Tr_init 0 ([.ref 113], [], CX 114 (li_17) ((78, 0, 111) :: lr_17) 1 40) (fun v σ => v = none ∧ σ = CX 115 li_18 lr_18 0 0)
  refine ev_aload_n (i := 0) rfl rfl (a_dec_at dc_Tr_init 0 rfl) ?_
  refine ev_objInit cs_Tr_3 (by decide) (by omega) (by decide) (a_dec_at dc_Tr_init 1 rfl) ?_
  refine ev_aload_n (i := 0) rfl rfl (a_dec_at dc_Tr_init 2 rfl) ?_
  refine ev_bipush (v := 40) rfl (a_dec_at dc_Tr_init 3 rfl) ?_
  refine x_newa (kd := 3) (N := 40) (bc := 0) (bs := 0) (by decide) rfl (a_m2 181 rfl rfl) (by decide) (by decide) (by decide) (by decide) sh114 (by decide) (by decide +kernel) (by decide +kernel) (by decide) (a_dec_at dc_Tr_init 4 rfl) ?_
  refine x_putR fl_Tr_9 rfl (fun _ _ _ h => by cases h; exact Or.inr ⟨rfl, rfl⟩) (by decide) (by decide) sh113 (by decide) (a_dec_at dc_Tr_init 5 rfl) ?_
  refine ev_aload_n (i := 0) rfl rfl (a_dec_at dc_Tr_init 6 rfl) ?_
  refine ev_iconst (v := (-1)) rfl (a_dec_at dc_Tr_init 7 rfl) ?_
  refine x_putI fl_Tr_15 rfl (fun _ _ _ h => by cases h; exact Or.inl rfl) (by decide) sh113 (a_dec_at dc_Tr_init 8 rfl) ?_
  exact Ev.retV (a_dec_at dc_Tr_init 9 rfl) rfl ⟨rfl, rfl⟩
def li_19 : List (Nat × Nat × Int32) := (115, 1, (-1)) :: li_18
def lr_19 : List (Nat × Nat × Nat) := (115, 0, 116) :: (78, 1, 113) :: lr_18
set_option maxRecDepth 20000 in
theorem i_Tr_init_115 {l : Launch} {h : Nat} : Ev l (h + 1) m_Tr_init 0 (a_ent m_Tr_init.2.2.1 [.ref 115], [], CX 116 (li_18) ((78, 1, 113) :: lr_18) 1 40) (fun v σ => v = none ∧ σ = CX 117 li_19 lr_19 0 0) := by
  show Ev l (h + 1) m_Tr_init 0 ([.ref 115], [], CX 116 (li_18) ((78, 1, 113) :: lr_18) 1 40) (fun v σ => v = none ∧ σ = CX 117 li_19 lr_19 0 0)
  refine ev_aload_n (i := 0) rfl rfl (a_dec_at dc_Tr_init 0 rfl) ?_
  refine ev_objInit cs_Tr_3 (by decide) (by omega) (by decide) (a_dec_at dc_Tr_init 1 rfl) ?_
  refine ev_aload_n (i := 0) rfl rfl (a_dec_at dc_Tr_init 2 rfl) ?_
  refine ev_bipush (v := 40) rfl (a_dec_at dc_Tr_init 3 rfl) ?_
  refine x_newa (kd := 3) (N := 40) (bc := 0) (bs := 0) (by decide) rfl (a_m2 181 rfl rfl) (by decide) (by decide) (by decide) (by decide) sh116 (by decide) (by decide +kernel) (by decide +kernel) (by decide) (a_dec_at dc_Tr_init 4 rfl) ?_
  refine x_putR fl_Tr_9 rfl (fun _ _ _ h => by cases h; exact Or.inr ⟨rfl, rfl⟩) (by decide) (by decide) sh115 (by decide) (a_dec_at dc_Tr_init 5 rfl) ?_
  refine ev_aload_n (i := 0) rfl rfl (a_dec_at dc_Tr_init 6 rfl) ?_
  refine ev_iconst (v := (-1)) rfl (a_dec_at dc_Tr_init 7 rfl) ?_
  refine x_putI fl_Tr_15 rfl (fun _ _ _ h => by cases h; exact Or.inl rfl) (by decide) sh115 (a_dec_at dc_Tr_init 8 rfl) ?_
  exact Ev.retV (a_dec_at dc_Tr_init 9 rfl) rfl ⟨rfl, rfl⟩
def li_20 : List (Nat × Nat × Int32) := (117, 1, (-1)) :: li_19
def lr_20 : List (Nat × Nat × Nat) := (117, 0, 118) :: (78, 2, 115) :: lr_19
set_option maxRecDepth 20000 in
theorem i_Tr_init_117 {l : Launch} {h : Nat} : Ev l (h + 1) m_Tr_init 0 (a_ent m_Tr_init.2.2.1 [.ref 117], [], CX 118 (li_19) ((78, 2, 115) :: lr_19) 1 40) (fun v σ => v = none ∧ σ = CX 119 li_20 lr_20 0 0) := by
  show Ev l (h + 1) m_Tr_init 0 ([.ref 117], [], CX 118 (li_19) ((78, 2, 115) :: lr_19) 1 40) (fun v σ => v = none ∧ σ = CX 119 li_20 lr_20 0 0)
  refine ev_aload_n (i := 0) rfl rfl (a_dec_at dc_Tr_init 0 rfl) ?_
  refine ev_objInit cs_Tr_3 (by decide) (by omega) (by decide) (a_dec_at dc_Tr_init 1 rfl) ?_
  refine ev_aload_n (i := 0) rfl rfl (a_dec_at dc_Tr_init 2 rfl) ?_
  refine ev_bipush (v := 40) rfl (a_dec_at dc_Tr_init 3 rfl) ?_
  refine x_newa (kd := 3) (N := 40) (bc := 0) (bs := 0) (by decide) rfl (a_m2 181 rfl rfl) (by decide) (by decide) (by decide) (by decide) sh118 (by decide) (by decide +kernel) (by decide +kernel) (by decide) (a_dec_at dc_Tr_init 4 rfl) ?_
  refine x_putR fl_Tr_9 rfl (fun _ _ _ h => by cases h; exact Or.inr ⟨rfl, rfl⟩) (by decide) (by decide) sh117 (by decide) (a_dec_at dc_Tr_init 5 rfl) ?_
  refine ev_aload_n (i := 0) rfl rfl (a_dec_at dc_Tr_init 6 rfl) ?_
  refine ev_iconst (v := (-1)) rfl (a_dec_at dc_Tr_init 7 rfl) ?_
  refine x_putI fl_Tr_15 rfl (fun _ _ _ h => by cases h; exact Or.inl rfl) (by decide) sh117 (a_dec_at dc_Tr_init 8 rfl) ?_
  exact Ev.retV (a_dec_at dc_Tr_init 9 rfl) rfl ⟨rfl, rfl⟩
def li_21 : List (Nat × Nat × Int32) := li_20
def lr_21 : List (Nat × Nat × Nat) := (78, 3, 117) :: lr_20
set_option maxRecDepth 20000 in
theorem i_JA_fill_27 {l : Launch} {h : Nat} : Ev l (h + 1) m_JA_fill 0 (a_ent m_JA_fill.2.2.1 [.ref 27, .int 0], [], CX 119 (li_20) ((78, 3, 117) :: lr_20) 0 0) (fun v σ => v = none ∧ σ = CX 119 li_21 lr_21 0 0) := by
  show Ev l (h + 1) m_JA_fill 0 ([.ref 27, .int 0, .retAddr 0, .retAddr 0], [], CX 119 (li_20) ((78, 3, 117) :: lr_20) 0 0) (fun v σ => v = none ∧ σ = CX 119 li_21 lr_21 0 0)
  refine ev_iconst (v := 0) rfl (a_dec_at dc_JA_fill 0 rfl) ?_
  refine ev_istore_n (i := 2) rfl (by decide) rfl (a_dec_at dc_JA_fill 1 rfl) ?_
  refine ev_aload_n (i := 0) rfl rfl (a_dec_at dc_JA_fill 2 rfl) ?_
  refine x_alen (v := 40) (by decide) (by decide) sh27 (by decide) (a_dec_at dc_JA_fill 3 rfl) ?_
  refine ev_istore_n (i := 3) rfl (by decide) rfl (a_dec_at dc_JA_fill 4 rfl) ?_
  refine ev_iload_n (i := 2) rfl rfl (a_dec_at dc_JA_fill 5 rfl) ?_
  refine ev_iload_n (i := 3) rfl rfl (a_dec_at dc_JA_fill 6 rfl) ?_
  refine ev_icmp_ge (tgt := 20) (a_dec_at dc_JA_fill 7 rfl) (by decide) (fun q => absurd q (by decide)) (fun _ => ?_)
  refine ev_aload_n (i := 0) rfl rfl (a_dec_at dc_JA_fill 8 rfl) ?_
  refine ev_iload_n (i := 2) rfl rfl (a_dec_at dc_JA_fill 9 rfl) ?_
  refine ev_iload_n (i := 1) rfl rfl (a_dec_at dc_JA_fill 10 rfl) ?_
  refine x_iastz (j := 0) (by decide) sh27 (by unfold vp_in; decide) (by decide) (by decide +kernel) (a_dec_at dc_JA_fill 11 rfl) ?_
  refine ev_iinc (v := 1) rfl rfl (by decide) rfl (a_dec_at dc_JA_fill 12 rfl) ?_
  refine ev_goto (tgt := 5) (a_dec_at dc_JA_fill 13 rfl) (by decide) ?_
  refine ev_iload_n (i := 2) rfl rfl (a_dec_at dc_JA_fill 5 rfl) ?_
  refine ev_iload_n (i := 3) rfl rfl (a_dec_at dc_JA_fill 6 rfl) ?_
  refine ev_icmp_ge (tgt := 20) (a_dec_at dc_JA_fill 7 rfl) (by decide) (fun q => absurd q (by decide)) (fun _ => ?_)
  refine ev_aload_n (i := 0) rfl rfl (a_dec_at dc_JA_fill 8 rfl) ?_
  refine ev_iload_n (i := 2) rfl rfl (a_dec_at dc_JA_fill 9 rfl) ?_
  refine ev_iload_n (i := 1) rfl rfl (a_dec_at dc_JA_fill 10 rfl) ?_
  refine x_iastz (j := 1) (by decide) sh27 (by unfold vp_in; decide) (by decide) (by decide +kernel) (a_dec_at dc_JA_fill 11 rfl) ?_
  refine ev_iinc (v := 1) rfl rfl (by decide) rfl (a_dec_at dc_JA_fill 12 rfl) ?_
  refine ev_goto (tgt := 5) (a_dec_at dc_JA_fill 13 rfl) (by decide) ?_
  refine ev_iload_n (i := 2) rfl rfl (a_dec_at dc_JA_fill 5 rfl) ?_
  refine ev_iload_n (i := 3) rfl rfl (a_dec_at dc_JA_fill 6 rfl) ?_
  refine ev_icmp_ge (tgt := 20) (a_dec_at dc_JA_fill 7 rfl) (by decide) (fun q => absurd q (by decide)) (fun _ => ?_)
  refine ev_aload_n (i := 0) rfl rfl (a_dec_at dc_JA_fill 8 rfl) ?_
  refine ev_iload_n (i := 2) rfl rfl (a_dec_at dc_JA_fill 9 rfl) ?_
  refine ev_iload_n (i := 1) rfl rfl (a_dec_at dc_JA_fill 10 rfl) ?_
  refine x_iastz (j := 2) (by decide) sh27 (by unfold vp_in; decide) (by decide) (by decide +kernel) (a_dec_at dc_JA_fill 11 rfl) ?_
  refine ev_iinc (v := 1) rfl rfl (by decide) rfl (a_dec_at dc_JA_fill 12 rfl) ?_
  refine ev_goto (tgt := 5) (a_dec_at dc_JA_fill 13 rfl) (by decide) ?_
  refine ev_iload_n (i := 2) rfl rfl (a_dec_at dc_JA_fill 5 rfl) ?_
  refine ev_iload_n (i := 3) rfl rfl (a_dec_at dc_JA_fill 6 rfl) ?_
  refine ev_icmp_ge (tgt := 20) (a_dec_at dc_JA_fill 7 rfl) (by decide) (fun q => absurd q (by decide)) (fun _ => ?_)
  refine ev_aload_n (i := 0) rfl rfl (a_dec_at dc_JA_fill 8 rfl) ?_
  refine ev_iload_n (i := 2) rfl rfl (a_dec_at dc_JA_fill 9 rfl) ?_
  refine ev_iload_n (i := 1) rfl rfl (a_dec_at dc_JA_fill 10 rfl) ?_
  refine x_iastz (j := 3) (by decide) sh27 (by unfold vp_in; decide) (by decide) (by decide +kernel) (a_dec_at dc_JA_fill 11 rfl) ?_
  refine ev_iinc (v := 1) rfl rfl (by decide) rfl (a_dec_at dc_JA_fill 12 rfl) ?_
  refine ev_goto (tgt := 5) (a_dec_at dc_JA_fill 13 rfl) (by decide) ?_
  refine ev_iload_n (i := 2) rfl rfl (a_dec_at dc_JA_fill 5 rfl) ?_
  refine ev_iload_n (i := 3) rfl rfl (a_dec_at dc_JA_fill 6 rfl) ?_
  refine ev_icmp_ge (tgt := 20) (a_dec_at dc_JA_fill 7 rfl) (by decide) (fun q => absurd q (by decide)) (fun _ => ?_)
  refine ev_aload_n (i := 0) rfl rfl (a_dec_at dc_JA_fill 8 rfl) ?_
  refine ev_iload_n (i := 2) rfl rfl (a_dec_at dc_JA_fill 9 rfl) ?_
  refine ev_iload_n (i := 1) rfl rfl (a_dec_at dc_JA_fill 10 rfl) ?_
  refine x_iastz (j := 4) (by decide) sh27 (by unfold vp_in; decide) (by decide) (by decide +kernel) (a_dec_at dc_JA_fill 11 rfl) ?_
  refine ev_iinc (v := 1) rfl rfl (by decide) rfl (a_dec_at dc_JA_fill 12 rfl) ?_
  refine ev_goto (tgt := 5) (a_dec_at dc_JA_fill 13 rfl) (by decide) ?_
  refine ev_iload_n (i := 2) rfl rfl (a_dec_at dc_JA_fill 5 rfl) ?_
  refine ev_iload_n (i := 3) rfl rfl (a_dec_at dc_JA_fill 6 rfl) ?_
  refine ev_icmp_ge (tgt := 20) (a_dec_at dc_JA_fill 7 rfl) (by decide) (fun q => absurd q (by decide)) (fun _ => ?_)
  refine ev_aload_n (i := 0) rfl rfl (a_dec_at dc_JA_fill 8 rfl) ?_
  refine ev_iload_n (i := 2) rfl rfl (a_dec_at dc_JA_fill 9 rfl) ?_
  refine ev_iload_n (i := 1) rfl rfl (a_dec_at dc_JA_fill 10 rfl) ?_
  refine x_iastz (j := 5) (by decide) sh27 (by unfold vp_in; decide) (by decide) (by decide +kernel) (a_dec_at dc_JA_fill 11 rfl) ?_
  refine ev_iinc (v := 1) rfl rfl (by decide) rfl (a_dec_at dc_JA_fill 12 rfl) ?_
  refine ev_goto (tgt := 5) (a_dec_at dc_JA_fill 13 rfl) (by decide) ?_
  refine ev_iload_n (i := 2) rfl rfl (a_dec_at dc_JA_fill 5 rfl) ?_
  refine ev_iload_n (i := 3) rfl rfl (a_dec_at dc_JA_fill 6 rfl) ?_
  refine ev_icmp_ge (tgt := 20) (a_dec_at dc_JA_fill 7 rfl) (by decide) (fun q => absurd q (by decide)) (fun _ => ?_)
  refine ev_aload_n (i := 0) rfl rfl (a_dec_at dc_JA_fill 8 rfl) ?_
  refine ev_iload_n (i := 2) rfl rfl (a_dec_at dc_JA_fill 9 rfl) ?_
  refine ev_iload_n (i := 1) rfl rfl (a_dec_at dc_JA_fill 10 rfl) ?_
  refine x_iastz (j := 6) (by decide) sh27 (by unfold vp_in; decide) (by decide) (by decide +kernel) (a_dec_at dc_JA_fill 11 rfl) ?_
  refine ev_iinc (v := 1) rfl rfl (by decide) rfl (a_dec_at dc_JA_fill 12 rfl) ?_
  refine ev_goto (tgt := 5) (a_dec_at dc_JA_fill 13 rfl) (by decide) ?_
  refine ev_iload_n (i := 2) rfl rfl (a_dec_at dc_JA_fill 5 rfl) ?_
  refine ev_iload_n (i := 3) rfl rfl (a_dec_at dc_JA_fill 6 rfl) ?_
  refine ev_icmp_ge (tgt := 20) (a_dec_at dc_JA_fill 7 rfl) (by decide) (fun q => absurd q (by decide)) (fun _ => ?_)
  refine ev_aload_n (i := 0) rfl rfl (a_dec_at dc_JA_fill 8 rfl) ?_
  refine ev_iload_n (i := 2) rfl rfl (a_dec_at dc_JA_fill 9 rfl) ?_
  refine ev_iload_n (i := 1) rfl rfl (a_dec_at dc_JA_fill 10 rfl) ?_
  refine x_iastz (j := 7) (by decide) sh27 (by unfold vp_in; decide) (by decide) (by decide +kernel) (a_dec_at dc_JA_fill 11 rfl) ?_
  refine ev_iinc (v := 1) rfl rfl (by decide) rfl (a_dec_at dc_JA_fill 12 rfl) ?_
  refine ev_goto (tgt := 5) (a_dec_at dc_JA_fill 13 rfl) (by decide) ?_
  refine ev_iload_n (i := 2) rfl rfl (a_dec_at dc_JA_fill 5 rfl) ?_
  refine ev_iload_n (i := 3) rfl rfl (a_dec_at dc_JA_fill 6 rfl) ?_
  refine ev_icmp_ge (tgt := 20) (a_dec_at dc_JA_fill 7 rfl) (by decide) (fun q => absurd q (by decide)) (fun _ => ?_)
  refine ev_aload_n (i := 0) rfl rfl (a_dec_at dc_JA_fill 8 rfl) ?_
  refine ev_iload_n (i := 2) rfl rfl (a_dec_at dc_JA_fill 9 rfl) ?_
  refine ev_iload_n (i := 1) rfl rfl (a_dec_at dc_JA_fill 10 rfl) ?_
  refine x_iastz (j := 8) (by decide) sh27 (by unfold vp_in; decide) (by decide) (by decide +kernel) (a_dec_at dc_JA_fill 11 rfl) ?_
  refine ev_iinc (v := 1) rfl rfl (by decide) rfl (a_dec_at dc_JA_fill 12 rfl) ?_
  refine ev_goto (tgt := 5) (a_dec_at dc_JA_fill 13 rfl) (by decide) ?_
  refine ev_iload_n (i := 2) rfl rfl (a_dec_at dc_JA_fill 5 rfl) ?_
  refine ev_iload_n (i := 3) rfl rfl (a_dec_at dc_JA_fill 6 rfl) ?_
  refine ev_icmp_ge (tgt := 20) (a_dec_at dc_JA_fill 7 rfl) (by decide) (fun q => absurd q (by decide)) (fun _ => ?_)
  refine ev_aload_n (i := 0) rfl rfl (a_dec_at dc_JA_fill 8 rfl) ?_
  refine ev_iload_n (i := 2) rfl rfl (a_dec_at dc_JA_fill 9 rfl) ?_
  refine ev_iload_n (i := 1) rfl rfl (a_dec_at dc_JA_fill 10 rfl) ?_
  refine x_iastz (j := 9) (by decide) sh27 (by unfold vp_in; decide) (by decide) (by decide +kernel) (a_dec_at dc_JA_fill 11 rfl) ?_
  refine ev_iinc (v := 1) rfl rfl (by decide) rfl (a_dec_at dc_JA_fill 12 rfl) ?_
  refine ev_goto (tgt := 5) (a_dec_at dc_JA_fill 13 rfl) (by decide) ?_
  refine ev_iload_n (i := 2) rfl rfl (a_dec_at dc_JA_fill 5 rfl) ?_
  refine ev_iload_n (i := 3) rfl rfl (a_dec_at dc_JA_fill 6 rfl) ?_
  refine ev_icmp_ge (tgt := 20) (a_dec_at dc_JA_fill 7 rfl) (by decide) (fun q => absurd q (by decide)) (fun _ => ?_)
  refine ev_aload_n (i := 0) rfl rfl (a_dec_at dc_JA_fill 8 rfl) ?_
  refine ev_iload_n (i := 2) rfl rfl (a_dec_at dc_JA_fill 9 rfl) ?_
  refine ev_iload_n (i := 1) rfl rfl (a_dec_at dc_JA_fill 10 rfl) ?_
  refine x_iastz (j := 10) (by decide) sh27 (by unfold vp_in; decide) (by decide) (by decide +kernel) (a_dec_at dc_JA_fill 11 rfl) ?_
  refine ev_iinc (v := 1) rfl rfl (by decide) rfl (a_dec_at dc_JA_fill 12 rfl) ?_
  refine ev_goto (tgt := 5) (a_dec_at dc_JA_fill 13 rfl) (by decide) ?_
  refine ev_iload_n (i := 2) rfl rfl (a_dec_at dc_JA_fill 5 rfl) ?_
  refine ev_iload_n (i := 3) rfl rfl (a_dec_at dc_JA_fill 6 rfl) ?_
  refine ev_icmp_ge (tgt := 20) (a_dec_at dc_JA_fill 7 rfl) (by decide) (fun q => absurd q (by decide)) (fun _ => ?_)
  refine ev_aload_n (i := 0) rfl rfl (a_dec_at dc_JA_fill 8 rfl) ?_
  refine ev_iload_n (i := 2) rfl rfl (a_dec_at dc_JA_fill 9 rfl) ?_
  refine ev_iload_n (i := 1) rfl rfl (a_dec_at dc_JA_fill 10 rfl) ?_
  refine x_iastz (j := 11) (by decide) sh27 (by unfold vp_in; decide) (by decide) (by decide +kernel) (a_dec_at dc_JA_fill 11 rfl) ?_
  refine ev_iinc (v := 1) rfl rfl (by decide) rfl (a_dec_at dc_JA_fill 12 rfl) ?_
  refine ev_goto (tgt := 5) (a_dec_at dc_JA_fill 13 rfl) (by decide) ?_
  refine ev_iload_n (i := 2) rfl rfl (a_dec_at dc_JA_fill 5 rfl) ?_
  refine ev_iload_n (i := 3) rfl rfl (a_dec_at dc_JA_fill 6 rfl) ?_
  refine ev_icmp_ge (tgt := 20) (a_dec_at dc_JA_fill 7 rfl) (by decide) (fun q => absurd q (by decide)) (fun _ => ?_)
  refine ev_aload_n (i := 0) rfl rfl (a_dec_at dc_JA_fill 8 rfl) ?_
  refine ev_iload_n (i := 2) rfl rfl (a_dec_at dc_JA_fill 9 rfl) ?_
  refine ev_iload_n (i := 1) rfl rfl (a_dec_at dc_JA_fill 10 rfl) ?_
  refine x_iastz (j := 12) (by decide) sh27 (by unfold vp_in; decide) (by decide) (by decide +kernel) (a_dec_at dc_JA_fill 11 rfl) ?_
  refine ev_iinc (v := 1) rfl rfl (by decide) rfl (a_dec_at dc_JA_fill 12 rfl) ?_
  refine ev_goto (tgt := 5) (a_dec_at dc_JA_fill 13 rfl) (by decide) ?_
  refine ev_iload_n (i := 2) rfl rfl (a_dec_at dc_JA_fill 5 rfl) ?_
  refine ev_iload_n (i := 3) rfl rfl (a_dec_at dc_JA_fill 6 rfl) ?_
  refine ev_icmp_ge (tgt := 20) (a_dec_at dc_JA_fill 7 rfl) (by decide) (fun q => absurd q (by decide)) (fun _ => ?_)
  refine ev_aload_n (i := 0) rfl rfl (a_dec_at dc_JA_fill 8 rfl) ?_
  refine ev_iload_n (i := 2) rfl rfl (a_dec_at dc_JA_fill 9 rfl) ?_
  refine ev_iload_n (i := 1) rfl rfl (a_dec_at dc_JA_fill 10 rfl) ?_
  refine x_iastz (j := 13) (by decide) sh27 (by unfold vp_in; decide) (by decide) (by decide +kernel) (a_dec_at dc_JA_fill 11 rfl) ?_
  refine ev_iinc (v := 1) rfl rfl (by decide) rfl (a_dec_at dc_JA_fill 12 rfl) ?_
  refine ev_goto (tgt := 5) (a_dec_at dc_JA_fill 13 rfl) (by decide) ?_
  refine ev_iload_n (i := 2) rfl rfl (a_dec_at dc_JA_fill 5 rfl) ?_
  refine ev_iload_n (i := 3) rfl rfl (a_dec_at dc_JA_fill 6 rfl) ?_
  refine ev_icmp_ge (tgt := 20) (a_dec_at dc_JA_fill 7 rfl) (by decide) (fun q => absurd q (by decide)) (fun _ => ?_)
  refine ev_aload_n (i := 0) rfl rfl (a_dec_at dc_JA_fill 8 rfl) ?_
  refine ev_iload_n (i := 2) rfl rfl (a_dec_at dc_JA_fill 9 rfl) ?_
  refine ev_iload_n (i := 1) rfl rfl (a_dec_at dc_JA_fill 10 rfl) ?_
  refine x_iastz (j := 14) (by decide) sh27 (by unfold vp_in; decide) (by decide) (by decide +kernel) (a_dec_at dc_JA_fill 11 rfl) ?_
  refine ev_iinc (v := 1) rfl rfl (by decide) rfl (a_dec_at dc_JA_fill 12 rfl) ?_
  refine ev_goto (tgt := 5) (a_dec_at dc_JA_fill 13 rfl) (by decide) ?_
  refine ev_iload_n (i := 2) rfl rfl (a_dec_at dc_JA_fill 5 rfl) ?_
  refine ev_iload_n (i := 3) rfl rfl (a_dec_at dc_JA_fill 6 rfl) ?_
  refine ev_icmp_ge (tgt := 20) (a_dec_at dc_JA_fill 7 rfl) (by decide) (fun q => absurd q (by decide)) (fun _ => ?_)
  refine ev_aload_n (i := 0) rfl rfl (a_dec_at dc_JA_fill 8 rfl) ?_
  refine ev_iload_n (i := 2) rfl rfl (a_dec_at dc_JA_fill 9 rfl) ?_
  refine ev_iload_n (i := 1) rfl rfl (a_dec_at dc_JA_fill 10 rfl) ?_
  refine x_iastz (j := 15) (by decide) sh27 (by unfold vp_in; decide) (by decide) (by decide +kernel) (a_dec_at dc_JA_fill 11 rfl) ?_
  refine ev_iinc (v := 1) rfl rfl (by decide) rfl (a_dec_at dc_JA_fill 12 rfl) ?_
  refine ev_goto (tgt := 5) (a_dec_at dc_JA_fill 13 rfl) (by decide) ?_
  refine ev_iload_n (i := 2) rfl rfl (a_dec_at dc_JA_fill 5 rfl) ?_
  refine ev_iload_n (i := 3) rfl rfl (a_dec_at dc_JA_fill 6 rfl) ?_
  refine ev_icmp_ge (tgt := 20) (a_dec_at dc_JA_fill 7 rfl) (by decide) (fun q => absurd q (by decide)) (fun _ => ?_)
  refine ev_aload_n (i := 0) rfl rfl (a_dec_at dc_JA_fill 8 rfl) ?_
  refine ev_iload_n (i := 2) rfl rfl (a_dec_at dc_JA_fill 9 rfl) ?_
  refine ev_iload_n (i := 1) rfl rfl (a_dec_at dc_JA_fill 10 rfl) ?_
  refine x_iastz (j := 16) (by decide) sh27 (by unfold vp_in; decide) (by decide) (by decide +kernel) (a_dec_at dc_JA_fill 11 rfl) ?_
  refine ev_iinc (v := 1) rfl rfl (by decide) rfl (a_dec_at dc_JA_fill 12 rfl) ?_
  refine ev_goto (tgt := 5) (a_dec_at dc_JA_fill 13 rfl) (by decide) ?_
  refine ev_iload_n (i := 2) rfl rfl (a_dec_at dc_JA_fill 5 rfl) ?_
  refine ev_iload_n (i := 3) rfl rfl (a_dec_at dc_JA_fill 6 rfl) ?_
  refine ev_icmp_ge (tgt := 20) (a_dec_at dc_JA_fill 7 rfl) (by decide) (fun q => absurd q (by decide)) (fun _ => ?_)
  refine ev_aload_n (i := 0) rfl rfl (a_dec_at dc_JA_fill 8 rfl) ?_
  refine ev_iload_n (i := 2) rfl rfl (a_dec_at dc_JA_fill 9 rfl) ?_
  refine ev_iload_n (i := 1) rfl rfl (a_dec_at dc_JA_fill 10 rfl) ?_
  refine x_iastz (j := 17) (by decide) sh27 (by unfold vp_in; decide) (by decide) (by decide +kernel) (a_dec_at dc_JA_fill 11 rfl) ?_
  refine ev_iinc (v := 1) rfl rfl (by decide) rfl (a_dec_at dc_JA_fill 12 rfl) ?_
  refine ev_goto (tgt := 5) (a_dec_at dc_JA_fill 13 rfl) (by decide) ?_
  refine ev_iload_n (i := 2) rfl rfl (a_dec_at dc_JA_fill 5 rfl) ?_
  refine ev_iload_n (i := 3) rfl rfl (a_dec_at dc_JA_fill 6 rfl) ?_
  refine ev_icmp_ge (tgt := 20) (a_dec_at dc_JA_fill 7 rfl) (by decide) (fun q => absurd q (by decide)) (fun _ => ?_)
  refine ev_aload_n (i := 0) rfl rfl (a_dec_at dc_JA_fill 8 rfl) ?_
  refine ev_iload_n (i := 2) rfl rfl (a_dec_at dc_JA_fill 9 rfl) ?_
  refine ev_iload_n (i := 1) rfl rfl (a_dec_at dc_JA_fill 10 rfl) ?_
  refine x_iastz (j := 18) (by decide) sh27 (by unfold vp_in; decide) (by decide) (by decide +kernel) (a_dec_at dc_JA_fill 11 rfl) ?_
  refine ev_iinc (v := 1) rfl rfl (by decide) rfl (a_dec_at dc_JA_fill 12 rfl) ?_
  refine ev_goto (tgt := 5) (a_dec_at dc_JA_fill 13 rfl) (by decide) ?_
  refine ev_iload_n (i := 2) rfl rfl (a_dec_at dc_JA_fill 5 rfl) ?_
  refine ev_iload_n (i := 3) rfl rfl (a_dec_at dc_JA_fill 6 rfl) ?_
  refine ev_icmp_ge (tgt := 20) (a_dec_at dc_JA_fill 7 rfl) (by decide) (fun q => absurd q (by decide)) (fun _ => ?_)
  refine ev_aload_n (i := 0) rfl rfl (a_dec_at dc_JA_fill 8 rfl) ?_
  refine ev_iload_n (i := 2) rfl rfl (a_dec_at dc_JA_fill 9 rfl) ?_
  refine ev_iload_n (i := 1) rfl rfl (a_dec_at dc_JA_fill 10 rfl) ?_
  refine x_iastz (j := 19) (by decide) sh27 (by unfold vp_in; decide) (by decide) (by decide +kernel) (a_dec_at dc_JA_fill 11 rfl) ?_
  refine ev_iinc (v := 1) rfl rfl (by decide) rfl (a_dec_at dc_JA_fill 12 rfl) ?_
  refine ev_goto (tgt := 5) (a_dec_at dc_JA_fill 13 rfl) (by decide) ?_
  refine ev_iload_n (i := 2) rfl rfl (a_dec_at dc_JA_fill 5 rfl) ?_
  refine ev_iload_n (i := 3) rfl rfl (a_dec_at dc_JA_fill 6 rfl) ?_
  refine ev_icmp_ge (tgt := 20) (a_dec_at dc_JA_fill 7 rfl) (by decide) (fun q => absurd q (by decide)) (fun _ => ?_)
  refine ev_aload_n (i := 0) rfl rfl (a_dec_at dc_JA_fill 8 rfl) ?_
  refine ev_iload_n (i := 2) rfl rfl (a_dec_at dc_JA_fill 9 rfl) ?_
  refine ev_iload_n (i := 1) rfl rfl (a_dec_at dc_JA_fill 10 rfl) ?_
  refine x_iastz (j := 20) (by decide) sh27 (by unfold vp_in; decide) (by decide) (by decide +kernel) (a_dec_at dc_JA_fill 11 rfl) ?_
  refine ev_iinc (v := 1) rfl rfl (by decide) rfl (a_dec_at dc_JA_fill 12 rfl) ?_
  refine ev_goto (tgt := 5) (a_dec_at dc_JA_fill 13 rfl) (by decide) ?_
  refine ev_iload_n (i := 2) rfl rfl (a_dec_at dc_JA_fill 5 rfl) ?_
  refine ev_iload_n (i := 3) rfl rfl (a_dec_at dc_JA_fill 6 rfl) ?_
  refine ev_icmp_ge (tgt := 20) (a_dec_at dc_JA_fill 7 rfl) (by decide) (fun q => absurd q (by decide)) (fun _ => ?_)
  refine ev_aload_n (i := 0) rfl rfl (a_dec_at dc_JA_fill 8 rfl) ?_
  refine ev_iload_n (i := 2) rfl rfl (a_dec_at dc_JA_fill 9 rfl) ?_
  refine ev_iload_n (i := 1) rfl rfl (a_dec_at dc_JA_fill 10 rfl) ?_
  refine x_iastz (j := 21) (by decide) sh27 (by unfold vp_in; decide) (by decide) (by decide +kernel) (a_dec_at dc_JA_fill 11 rfl) ?_
  refine ev_iinc (v := 1) rfl rfl (by decide) rfl (a_dec_at dc_JA_fill 12 rfl) ?_
  refine ev_goto (tgt := 5) (a_dec_at dc_JA_fill 13 rfl) (by decide) ?_
  refine ev_iload_n (i := 2) rfl rfl (a_dec_at dc_JA_fill 5 rfl) ?_
  refine ev_iload_n (i := 3) rfl rfl (a_dec_at dc_JA_fill 6 rfl) ?_
  refine ev_icmp_ge (tgt := 20) (a_dec_at dc_JA_fill 7 rfl) (by decide) (fun q => absurd q (by decide)) (fun _ => ?_)
  refine ev_aload_n (i := 0) rfl rfl (a_dec_at dc_JA_fill 8 rfl) ?_
  refine ev_iload_n (i := 2) rfl rfl (a_dec_at dc_JA_fill 9 rfl) ?_
  refine ev_iload_n (i := 1) rfl rfl (a_dec_at dc_JA_fill 10 rfl) ?_
  refine x_iastz (j := 22) (by decide) sh27 (by unfold vp_in; decide) (by decide) (by decide +kernel) (a_dec_at dc_JA_fill 11 rfl) ?_
  refine ev_iinc (v := 1) rfl rfl (by decide) rfl (a_dec_at dc_JA_fill 12 rfl) ?_
  refine ev_goto (tgt := 5) (a_dec_at dc_JA_fill 13 rfl) (by decide) ?_
  refine ev_iload_n (i := 2) rfl rfl (a_dec_at dc_JA_fill 5 rfl) ?_
  refine ev_iload_n (i := 3) rfl rfl (a_dec_at dc_JA_fill 6 rfl) ?_
  refine ev_icmp_ge (tgt := 20) (a_dec_at dc_JA_fill 7 rfl) (by decide) (fun q => absurd q (by decide)) (fun _ => ?_)
  refine ev_aload_n (i := 0) rfl rfl (a_dec_at dc_JA_fill 8 rfl) ?_
  refine ev_iload_n (i := 2) rfl rfl (a_dec_at dc_JA_fill 9 rfl) ?_
  refine ev_iload_n (i := 1) rfl rfl (a_dec_at dc_JA_fill 10 rfl) ?_
  refine x_iastz (j := 23) (by decide) sh27 (by unfold vp_in; decide) (by decide) (by decide +kernel) (a_dec_at dc_JA_fill 11 rfl) ?_
  refine ev_iinc (v := 1) rfl rfl (by decide) rfl (a_dec_at dc_JA_fill 12 rfl) ?_
  refine ev_goto (tgt := 5) (a_dec_at dc_JA_fill 13 rfl) (by decide) ?_
  refine ev_iload_n (i := 2) rfl rfl (a_dec_at dc_JA_fill 5 rfl) ?_
  refine ev_iload_n (i := 3) rfl rfl (a_dec_at dc_JA_fill 6 rfl) ?_
  refine ev_icmp_ge (tgt := 20) (a_dec_at dc_JA_fill 7 rfl) (by decide) (fun q => absurd q (by decide)) (fun _ => ?_)
  refine ev_aload_n (i := 0) rfl rfl (a_dec_at dc_JA_fill 8 rfl) ?_
  refine ev_iload_n (i := 2) rfl rfl (a_dec_at dc_JA_fill 9 rfl) ?_
  refine ev_iload_n (i := 1) rfl rfl (a_dec_at dc_JA_fill 10 rfl) ?_
  refine x_iastz (j := 24) (by decide) sh27 (by unfold vp_in; decide) (by decide) (by decide +kernel) (a_dec_at dc_JA_fill 11 rfl) ?_
  refine ev_iinc (v := 1) rfl rfl (by decide) rfl (a_dec_at dc_JA_fill 12 rfl) ?_
  refine ev_goto (tgt := 5) (a_dec_at dc_JA_fill 13 rfl) (by decide) ?_
  refine ev_iload_n (i := 2) rfl rfl (a_dec_at dc_JA_fill 5 rfl) ?_
  refine ev_iload_n (i := 3) rfl rfl (a_dec_at dc_JA_fill 6 rfl) ?_
  refine ev_icmp_ge (tgt := 20) (a_dec_at dc_JA_fill 7 rfl) (by decide) (fun q => absurd q (by decide)) (fun _ => ?_)
  refine ev_aload_n (i := 0) rfl rfl (a_dec_at dc_JA_fill 8 rfl) ?_
  refine ev_iload_n (i := 2) rfl rfl (a_dec_at dc_JA_fill 9 rfl) ?_
  refine ev_iload_n (i := 1) rfl rfl (a_dec_at dc_JA_fill 10 rfl) ?_
  refine x_iastz (j := 25) (by decide) sh27 (by unfold vp_in; decide) (by decide) (by decide +kernel) (a_dec_at dc_JA_fill 11 rfl) ?_
  refine ev_iinc (v := 1) rfl rfl (by decide) rfl (a_dec_at dc_JA_fill 12 rfl) ?_
  refine ev_goto (tgt := 5) (a_dec_at dc_JA_fill 13 rfl) (by decide) ?_
  refine ev_iload_n (i := 2) rfl rfl (a_dec_at dc_JA_fill 5 rfl) ?_
  refine ev_iload_n (i := 3) rfl rfl (a_dec_at dc_JA_fill 6 rfl) ?_
  refine ev_icmp_ge (tgt := 20) (a_dec_at dc_JA_fill 7 rfl) (by decide) (fun q => absurd q (by decide)) (fun _ => ?_)
  refine ev_aload_n (i := 0) rfl rfl (a_dec_at dc_JA_fill 8 rfl) ?_
  refine ev_iload_n (i := 2) rfl rfl (a_dec_at dc_JA_fill 9 rfl) ?_
  refine ev_iload_n (i := 1) rfl rfl (a_dec_at dc_JA_fill 10 rfl) ?_
  refine x_iastz (j := 26) (by decide) sh27 (by unfold vp_in; decide) (by decide) (by decide +kernel) (a_dec_at dc_JA_fill 11 rfl) ?_
  refine ev_iinc (v := 1) rfl rfl (by decide) rfl (a_dec_at dc_JA_fill 12 rfl) ?_
  refine ev_goto (tgt := 5) (a_dec_at dc_JA_fill 13 rfl) (by decide) ?_
  refine ev_iload_n (i := 2) rfl rfl (a_dec_at dc_JA_fill 5 rfl) ?_
  refine ev_iload_n (i := 3) rfl rfl (a_dec_at dc_JA_fill 6 rfl) ?_
  refine ev_icmp_ge (tgt := 20) (a_dec_at dc_JA_fill 7 rfl) (by decide) (fun q => absurd q (by decide)) (fun _ => ?_)
  refine ev_aload_n (i := 0) rfl rfl (a_dec_at dc_JA_fill 8 rfl) ?_
  refine ev_iload_n (i := 2) rfl rfl (a_dec_at dc_JA_fill 9 rfl) ?_
  refine ev_iload_n (i := 1) rfl rfl (a_dec_at dc_JA_fill 10 rfl) ?_
  refine x_iastz (j := 27) (by decide) sh27 (by unfold vp_in; decide) (by decide) (by decide +kernel) (a_dec_at dc_JA_fill 11 rfl) ?_
  refine ev_iinc (v := 1) rfl rfl (by decide) rfl (a_dec_at dc_JA_fill 12 rfl) ?_
  refine ev_goto (tgt := 5) (a_dec_at dc_JA_fill 13 rfl) (by decide) ?_
  refine ev_iload_n (i := 2) rfl rfl (a_dec_at dc_JA_fill 5 rfl) ?_
  refine ev_iload_n (i := 3) rfl rfl (a_dec_at dc_JA_fill 6 rfl) ?_
  refine ev_icmp_ge (tgt := 20) (a_dec_at dc_JA_fill 7 rfl) (by decide) (fun q => absurd q (by decide)) (fun _ => ?_)
  refine ev_aload_n (i := 0) rfl rfl (a_dec_at dc_JA_fill 8 rfl) ?_
  refine ev_iload_n (i := 2) rfl rfl (a_dec_at dc_JA_fill 9 rfl) ?_
  refine ev_iload_n (i := 1) rfl rfl (a_dec_at dc_JA_fill 10 rfl) ?_
  refine x_iastz (j := 28) (by decide) sh27 (by unfold vp_in; decide) (by decide) (by decide +kernel) (a_dec_at dc_JA_fill 11 rfl) ?_
  refine ev_iinc (v := 1) rfl rfl (by decide) rfl (a_dec_at dc_JA_fill 12 rfl) ?_
  refine ev_goto (tgt := 5) (a_dec_at dc_JA_fill 13 rfl) (by decide) ?_
  refine ev_iload_n (i := 2) rfl rfl (a_dec_at dc_JA_fill 5 rfl) ?_
  refine ev_iload_n (i := 3) rfl rfl (a_dec_at dc_JA_fill 6 rfl) ?_
  refine ev_icmp_ge (tgt := 20) (a_dec_at dc_JA_fill 7 rfl) (by decide) (fun q => absurd q (by decide)) (fun _ => ?_)
  refine ev_aload_n (i := 0) rfl rfl (a_dec_at dc_JA_fill 8 rfl) ?_
  refine ev_iload_n (i := 2) rfl rfl (a_dec_at dc_JA_fill 9 rfl) ?_
  refine ev_iload_n (i := 1) rfl rfl (a_dec_at dc_JA_fill 10 rfl) ?_
  refine x_iastz (j := 29) (by decide) sh27 (by unfold vp_in; decide) (by decide) (by decide +kernel) (a_dec_at dc_JA_fill 11 rfl) ?_
  refine ev_iinc (v := 1) rfl rfl (by decide) rfl (a_dec_at dc_JA_fill 12 rfl) ?_
  refine ev_goto (tgt := 5) (a_dec_at dc_JA_fill 13 rfl) (by decide) ?_
  refine ev_iload_n (i := 2) rfl rfl (a_dec_at dc_JA_fill 5 rfl) ?_
  refine ev_iload_n (i := 3) rfl rfl (a_dec_at dc_JA_fill 6 rfl) ?_
  refine ev_icmp_ge (tgt := 20) (a_dec_at dc_JA_fill 7 rfl) (by decide) (fun q => absurd q (by decide)) (fun _ => ?_)
  refine ev_aload_n (i := 0) rfl rfl (a_dec_at dc_JA_fill 8 rfl) ?_
  refine ev_iload_n (i := 2) rfl rfl (a_dec_at dc_JA_fill 9 rfl) ?_
  refine ev_iload_n (i := 1) rfl rfl (a_dec_at dc_JA_fill 10 rfl) ?_
  refine x_iastz (j := 30) (by decide) sh27 (by unfold vp_in; decide) (by decide) (by decide +kernel) (a_dec_at dc_JA_fill 11 rfl) ?_
  refine ev_iinc (v := 1) rfl rfl (by decide) rfl (a_dec_at dc_JA_fill 12 rfl) ?_
  refine ev_goto (tgt := 5) (a_dec_at dc_JA_fill 13 rfl) (by decide) ?_
  refine ev_iload_n (i := 2) rfl rfl (a_dec_at dc_JA_fill 5 rfl) ?_
  refine ev_iload_n (i := 3) rfl rfl (a_dec_at dc_JA_fill 6 rfl) ?_
  refine ev_icmp_ge (tgt := 20) (a_dec_at dc_JA_fill 7 rfl) (by decide) (fun q => absurd q (by decide)) (fun _ => ?_)
  refine ev_aload_n (i := 0) rfl rfl (a_dec_at dc_JA_fill 8 rfl) ?_
  refine ev_iload_n (i := 2) rfl rfl (a_dec_at dc_JA_fill 9 rfl) ?_
  refine ev_iload_n (i := 1) rfl rfl (a_dec_at dc_JA_fill 10 rfl) ?_
  refine x_iastz (j := 31) (by decide) sh27 (by unfold vp_in; decide) (by decide) (by decide +kernel) (a_dec_at dc_JA_fill 11 rfl) ?_
  refine ev_iinc (v := 1) rfl rfl (by decide) rfl (a_dec_at dc_JA_fill 12 rfl) ?_
  refine ev_goto (tgt := 5) (a_dec_at dc_JA_fill 13 rfl) (by decide) ?_
  refine ev_iload_n (i := 2) rfl rfl (a_dec_at dc_JA_fill 5 rfl) ?_
  refine ev_iload_n (i := 3) rfl rfl (a_dec_at dc_JA_fill 6 rfl) ?_
  refine ev_icmp_ge (tgt := 20) (a_dec_at dc_JA_fill 7 rfl) (by decide) (fun q => absurd q (by decide)) (fun _ => ?_)
  refine ev_aload_n (i := 0) rfl rfl (a_dec_at dc_JA_fill 8 rfl) ?_
  refine ev_iload_n (i := 2) rfl rfl (a_dec_at dc_JA_fill 9 rfl) ?_
  refine ev_iload_n (i := 1) rfl rfl (a_dec_at dc_JA_fill 10 rfl) ?_
  refine x_iastz (j := 32) (by decide) sh27 (by unfold vp_in; decide) (by decide) (by decide +kernel) (a_dec_at dc_JA_fill 11 rfl) ?_
  refine ev_iinc (v := 1) rfl rfl (by decide) rfl (a_dec_at dc_JA_fill 12 rfl) ?_
  refine ev_goto (tgt := 5) (a_dec_at dc_JA_fill 13 rfl) (by decide) ?_
  refine ev_iload_n (i := 2) rfl rfl (a_dec_at dc_JA_fill 5 rfl) ?_
  refine ev_iload_n (i := 3) rfl rfl (a_dec_at dc_JA_fill 6 rfl) ?_
  refine ev_icmp_ge (tgt := 20) (a_dec_at dc_JA_fill 7 rfl) (by decide) (fun q => absurd q (by decide)) (fun _ => ?_)
  refine ev_aload_n (i := 0) rfl rfl (a_dec_at dc_JA_fill 8 rfl) ?_
  refine ev_iload_n (i := 2) rfl rfl (a_dec_at dc_JA_fill 9 rfl) ?_
  refine ev_iload_n (i := 1) rfl rfl (a_dec_at dc_JA_fill 10 rfl) ?_
  refine x_iastz (j := 33) (by decide) sh27 (by unfold vp_in; decide) (by decide) (by decide +kernel) (a_dec_at dc_JA_fill 11 rfl) ?_
  refine ev_iinc (v := 1) rfl rfl (by decide) rfl (a_dec_at dc_JA_fill 12 rfl) ?_
  refine ev_goto (tgt := 5) (a_dec_at dc_JA_fill 13 rfl) (by decide) ?_
  refine ev_iload_n (i := 2) rfl rfl (a_dec_at dc_JA_fill 5 rfl) ?_
  refine ev_iload_n (i := 3) rfl rfl (a_dec_at dc_JA_fill 6 rfl) ?_
  refine ev_icmp_ge (tgt := 20) (a_dec_at dc_JA_fill 7 rfl) (by decide) (fun q => absurd q (by decide)) (fun _ => ?_)
  refine ev_aload_n (i := 0) rfl rfl (a_dec_at dc_JA_fill 8 rfl) ?_
  refine ev_iload_n (i := 2) rfl rfl (a_dec_at dc_JA_fill 9 rfl) ?_
  refine ev_iload_n (i := 1) rfl rfl (a_dec_at dc_JA_fill 10 rfl) ?_
  refine x_iastz (j := 34) (by decide) sh27 (by unfold vp_in; decide) (by decide) (by decide +kernel) (a_dec_at dc_JA_fill 11 rfl) ?_
  refine ev_iinc (v := 1) rfl rfl (by decide) rfl (a_dec_at dc_JA_fill 12 rfl) ?_
  refine ev_goto (tgt := 5) (a_dec_at dc_JA_fill 13 rfl) (by decide) ?_
  refine ev_iload_n (i := 2) rfl rfl (a_dec_at dc_JA_fill 5 rfl) ?_
  refine ev_iload_n (i := 3) rfl rfl (a_dec_at dc_JA_fill 6 rfl) ?_
  refine ev_icmp_ge (tgt := 20) (a_dec_at dc_JA_fill 7 rfl) (by decide) (fun q => absurd q (by decide)) (fun _ => ?_)
  refine ev_aload_n (i := 0) rfl rfl (a_dec_at dc_JA_fill 8 rfl) ?_
  refine ev_iload_n (i := 2) rfl rfl (a_dec_at dc_JA_fill 9 rfl) ?_
  refine ev_iload_n (i := 1) rfl rfl (a_dec_at dc_JA_fill 10 rfl) ?_
  refine x_iastz (j := 35) (by decide) sh27 (by unfold vp_in; decide) (by decide) (by decide +kernel) (a_dec_at dc_JA_fill 11 rfl) ?_
  refine ev_iinc (v := 1) rfl rfl (by decide) rfl (a_dec_at dc_JA_fill 12 rfl) ?_
  refine ev_goto (tgt := 5) (a_dec_at dc_JA_fill 13 rfl) (by decide) ?_
  refine ev_iload_n (i := 2) rfl rfl (a_dec_at dc_JA_fill 5 rfl) ?_
  refine ev_iload_n (i := 3) rfl rfl (a_dec_at dc_JA_fill 6 rfl) ?_
  refine ev_icmp_ge (tgt := 20) (a_dec_at dc_JA_fill 7 rfl) (by decide) (fun q => absurd q (by decide)) (fun _ => ?_)
  refine ev_aload_n (i := 0) rfl rfl (a_dec_at dc_JA_fill 8 rfl) ?_
  refine ev_iload_n (i := 2) rfl rfl (a_dec_at dc_JA_fill 9 rfl) ?_
  refine ev_iload_n (i := 1) rfl rfl (a_dec_at dc_JA_fill 10 rfl) ?_
  refine x_iastz (j := 36) (by decide) sh27 (by unfold vp_in; decide) (by decide) (by decide +kernel) (a_dec_at dc_JA_fill 11 rfl) ?_
  refine ev_iinc (v := 1) rfl rfl (by decide) rfl (a_dec_at dc_JA_fill 12 rfl) ?_
  refine ev_goto (tgt := 5) (a_dec_at dc_JA_fill 13 rfl) (by decide) ?_
  refine ev_iload_n (i := 2) rfl rfl (a_dec_at dc_JA_fill 5 rfl) ?_
  refine ev_iload_n (i := 3) rfl rfl (a_dec_at dc_JA_fill 6 rfl) ?_
  refine ev_icmp_ge (tgt := 20) (a_dec_at dc_JA_fill 7 rfl) (by decide) (fun q => absurd q (by decide)) (fun _ => ?_)
  refine ev_aload_n (i := 0) rfl rfl (a_dec_at dc_JA_fill 8 rfl) ?_
  refine ev_iload_n (i := 2) rfl rfl (a_dec_at dc_JA_fill 9 rfl) ?_
  refine ev_iload_n (i := 1) rfl rfl (a_dec_at dc_JA_fill 10 rfl) ?_
  refine x_iastz (j := 37) (by decide) sh27 (by unfold vp_in; decide) (by decide) (by decide +kernel) (a_dec_at dc_JA_fill 11 rfl) ?_
  refine ev_iinc (v := 1) rfl rfl (by decide) rfl (a_dec_at dc_JA_fill 12 rfl) ?_
  refine ev_goto (tgt := 5) (a_dec_at dc_JA_fill 13 rfl) (by decide) ?_
  refine ev_iload_n (i := 2) rfl rfl (a_dec_at dc_JA_fill 5 rfl) ?_
  refine ev_iload_n (i := 3) rfl rfl (a_dec_at dc_JA_fill 6 rfl) ?_
  refine ev_icmp_ge (tgt := 20) (a_dec_at dc_JA_fill 7 rfl) (by decide) (fun q => absurd q (by decide)) (fun _ => ?_)
  refine ev_aload_n (i := 0) rfl rfl (a_dec_at dc_JA_fill 8 rfl) ?_
  refine ev_iload_n (i := 2) rfl rfl (a_dec_at dc_JA_fill 9 rfl) ?_
  refine ev_iload_n (i := 1) rfl rfl (a_dec_at dc_JA_fill 10 rfl) ?_
  refine x_iastz (j := 38) (by decide) sh27 (by unfold vp_in; decide) (by decide) (by decide +kernel) (a_dec_at dc_JA_fill 11 rfl) ?_
  refine ev_iinc (v := 1) rfl rfl (by decide) rfl (a_dec_at dc_JA_fill 12 rfl) ?_
  refine ev_goto (tgt := 5) (a_dec_at dc_JA_fill 13 rfl) (by decide) ?_
  refine ev_iload_n (i := 2) rfl rfl (a_dec_at dc_JA_fill 5 rfl) ?_
  refine ev_iload_n (i := 3) rfl rfl (a_dec_at dc_JA_fill 6 rfl) ?_
  refine ev_icmp_ge (tgt := 20) (a_dec_at dc_JA_fill 7 rfl) (by decide) (fun q => absurd q (by decide)) (fun _ => ?_)
  refine ev_aload_n (i := 0) rfl rfl (a_dec_at dc_JA_fill 8 rfl) ?_
  refine ev_iload_n (i := 2) rfl rfl (a_dec_at dc_JA_fill 9 rfl) ?_
  refine ev_iload_n (i := 1) rfl rfl (a_dec_at dc_JA_fill 10 rfl) ?_
  refine x_iastz (j := 39) (by decide) sh27 (by unfold vp_in; decide) (by decide) (by decide +kernel) (a_dec_at dc_JA_fill 11 rfl) ?_
  refine ev_iinc (v := 1) rfl rfl (by decide) rfl (a_dec_at dc_JA_fill 12 rfl) ?_
  refine ev_goto (tgt := 5) (a_dec_at dc_JA_fill 13 rfl) (by decide) ?_
  refine ev_iload_n (i := 2) rfl rfl (a_dec_at dc_JA_fill 5 rfl) ?_
  refine ev_iload_n (i := 3) rfl rfl (a_dec_at dc_JA_fill 6 rfl) ?_
  refine ev_icmp_ge (tgt := 20) (a_dec_at dc_JA_fill 7 rfl) (by decide) (fun _ => ?_) (fun q => absurd (by decide) q)
  exact Ev.retV (a_dec_at dc_JA_fill 14 rfl) rfl ⟨rfl, rfl⟩
def li_22 : List (Nat × Nat × Int32) := li_21
def lr_22 : List (Nat × Nat × Nat) := lr_21
set_option maxRecDepth 20000 in
theorem i_JA_fill_32 {l : Launch} {h : Nat} : Ev l (h + 1) m_JA_fill 0 (a_ent m_JA_fill.2.2.1 [.ref 32, .int 0], [], CX 119 (li_21) (lr_21) 0 0) (fun v σ => v = none ∧ σ = CX 119 li_22 lr_22 0 0) := by
  show Ev l (h + 1) m_JA_fill 0 ([.ref 32, .int 0, .retAddr 0, .retAddr 0], [], CX 119 (li_21) (lr_21) 0 0) (fun v σ => v = none ∧ σ = CX 119 li_22 lr_22 0 0)
  refine ev_iconst (v := 0) rfl (a_dec_at dc_JA_fill 0 rfl) ?_
  refine ev_istore_n (i := 2) rfl (by decide) rfl (a_dec_at dc_JA_fill 1 rfl) ?_
  refine ev_aload_n (i := 0) rfl rfl (a_dec_at dc_JA_fill 2 rfl) ?_
  refine x_alen (v := 6) (by decide) (by decide) sh32 (by decide) (a_dec_at dc_JA_fill 3 rfl) ?_
  refine ev_istore_n (i := 3) rfl (by decide) rfl (a_dec_at dc_JA_fill 4 rfl) ?_
  refine ev_iload_n (i := 2) rfl rfl (a_dec_at dc_JA_fill 5 rfl) ?_
  refine ev_iload_n (i := 3) rfl rfl (a_dec_at dc_JA_fill 6 rfl) ?_
  refine ev_icmp_ge (tgt := 20) (a_dec_at dc_JA_fill 7 rfl) (by decide) (fun q => absurd q (by decide)) (fun _ => ?_)
  refine ev_aload_n (i := 0) rfl rfl (a_dec_at dc_JA_fill 8 rfl) ?_
  refine ev_iload_n (i := 2) rfl rfl (a_dec_at dc_JA_fill 9 rfl) ?_
  refine ev_iload_n (i := 1) rfl rfl (a_dec_at dc_JA_fill 10 rfl) ?_
  refine x_iastz (j := 0) (by decide) sh32 (by unfold vp_in; decide) (by decide) (by decide +kernel) (a_dec_at dc_JA_fill 11 rfl) ?_
  refine ev_iinc (v := 1) rfl rfl (by decide) rfl (a_dec_at dc_JA_fill 12 rfl) ?_
  refine ev_goto (tgt := 5) (a_dec_at dc_JA_fill 13 rfl) (by decide) ?_
  refine ev_iload_n (i := 2) rfl rfl (a_dec_at dc_JA_fill 5 rfl) ?_
  refine ev_iload_n (i := 3) rfl rfl (a_dec_at dc_JA_fill 6 rfl) ?_
  refine ev_icmp_ge (tgt := 20) (a_dec_at dc_JA_fill 7 rfl) (by decide) (fun q => absurd q (by decide)) (fun _ => ?_)
  refine ev_aload_n (i := 0) rfl rfl (a_dec_at dc_JA_fill 8 rfl) ?_
  refine ev_iload_n (i := 2) rfl rfl (a_dec_at dc_JA_fill 9 rfl) ?_
  refine ev_iload_n (i := 1) rfl rfl (a_dec_at dc_JA_fill 10 rfl) ?_
  refine x_iastz (j := 1) (by decide) sh32 (by unfold vp_in; decide) (by decide) (by decide +kernel) (a_dec_at dc_JA_fill 11 rfl) ?_
  refine ev_iinc (v := 1) rfl rfl (by decide) rfl (a_dec_at dc_JA_fill 12 rfl) ?_
  refine ev_goto (tgt := 5) (a_dec_at dc_JA_fill 13 rfl) (by decide) ?_
  refine ev_iload_n (i := 2) rfl rfl (a_dec_at dc_JA_fill 5 rfl) ?_
  refine ev_iload_n (i := 3) rfl rfl (a_dec_at dc_JA_fill 6 rfl) ?_
  refine ev_icmp_ge (tgt := 20) (a_dec_at dc_JA_fill 7 rfl) (by decide) (fun q => absurd q (by decide)) (fun _ => ?_)
  refine ev_aload_n (i := 0) rfl rfl (a_dec_at dc_JA_fill 8 rfl) ?_
  refine ev_iload_n (i := 2) rfl rfl (a_dec_at dc_JA_fill 9 rfl) ?_
  refine ev_iload_n (i := 1) rfl rfl (a_dec_at dc_JA_fill 10 rfl) ?_
  refine x_iastz (j := 2) (by decide) sh32 (by unfold vp_in; decide) (by decide) (by decide +kernel) (a_dec_at dc_JA_fill 11 rfl) ?_
  refine ev_iinc (v := 1) rfl rfl (by decide) rfl (a_dec_at dc_JA_fill 12 rfl) ?_
  refine ev_goto (tgt := 5) (a_dec_at dc_JA_fill 13 rfl) (by decide) ?_
  refine ev_iload_n (i := 2) rfl rfl (a_dec_at dc_JA_fill 5 rfl) ?_
  refine ev_iload_n (i := 3) rfl rfl (a_dec_at dc_JA_fill 6 rfl) ?_
  refine ev_icmp_ge (tgt := 20) (a_dec_at dc_JA_fill 7 rfl) (by decide) (fun q => absurd q (by decide)) (fun _ => ?_)
  refine ev_aload_n (i := 0) rfl rfl (a_dec_at dc_JA_fill 8 rfl) ?_
  refine ev_iload_n (i := 2) rfl rfl (a_dec_at dc_JA_fill 9 rfl) ?_
  refine ev_iload_n (i := 1) rfl rfl (a_dec_at dc_JA_fill 10 rfl) ?_
  refine x_iastz (j := 3) (by decide) sh32 (by unfold vp_in; decide) (by decide) (by decide +kernel) (a_dec_at dc_JA_fill 11 rfl) ?_
  refine ev_iinc (v := 1) rfl rfl (by decide) rfl (a_dec_at dc_JA_fill 12 rfl) ?_
  refine ev_goto (tgt := 5) (a_dec_at dc_JA_fill 13 rfl) (by decide) ?_
  refine ev_iload_n (i := 2) rfl rfl (a_dec_at dc_JA_fill 5 rfl) ?_
  refine ev_iload_n (i := 3) rfl rfl (a_dec_at dc_JA_fill 6 rfl) ?_
  refine ev_icmp_ge (tgt := 20) (a_dec_at dc_JA_fill 7 rfl) (by decide) (fun q => absurd q (by decide)) (fun _ => ?_)
  refine ev_aload_n (i := 0) rfl rfl (a_dec_at dc_JA_fill 8 rfl) ?_
  refine ev_iload_n (i := 2) rfl rfl (a_dec_at dc_JA_fill 9 rfl) ?_
  refine ev_iload_n (i := 1) rfl rfl (a_dec_at dc_JA_fill 10 rfl) ?_
  refine x_iastz (j := 4) (by decide) sh32 (by unfold vp_in; decide) (by decide) (by decide +kernel) (a_dec_at dc_JA_fill 11 rfl) ?_
  refine ev_iinc (v := 1) rfl rfl (by decide) rfl (a_dec_at dc_JA_fill 12 rfl) ?_
  refine ev_goto (tgt := 5) (a_dec_at dc_JA_fill 13 rfl) (by decide) ?_
  refine ev_iload_n (i := 2) rfl rfl (a_dec_at dc_JA_fill 5 rfl) ?_
  refine ev_iload_n (i := 3) rfl rfl (a_dec_at dc_JA_fill 6 rfl) ?_
  refine ev_icmp_ge (tgt := 20) (a_dec_at dc_JA_fill 7 rfl) (by decide) (fun q => absurd q (by decide)) (fun _ => ?_)
  refine ev_aload_n (i := 0) rfl rfl (a_dec_at dc_JA_fill 8 rfl) ?_
  refine ev_iload_n (i := 2) rfl rfl (a_dec_at dc_JA_fill 9 rfl) ?_
  refine ev_iload_n (i := 1) rfl rfl (a_dec_at dc_JA_fill 10 rfl) ?_
  refine x_iastz (j := 5) (by decide) sh32 (by unfold vp_in; decide) (by decide) (by decide +kernel) (a_dec_at dc_JA_fill 11 rfl) ?_
  refine ev_iinc (v := 1) rfl rfl (by decide) rfl (a_dec_at dc_JA_fill 12 rfl) ?_
  refine ev_goto (tgt := 5) (a_dec_at dc_JA_fill 13 rfl) (by decide) ?_
  refine ev_iload_n (i := 2) rfl rfl (a_dec_at dc_JA_fill 5 rfl) ?_
  refine ev_iload_n (i := 3) rfl rfl (a_dec_at dc_JA_fill 6 rfl) ?_
  refine ev_icmp_ge (tgt := 20) (a_dec_at dc_JA_fill 7 rfl) (by decide) (fun _ => ?_) (fun q => absurd (by decide) q)
  exact Ev.retV (a_dec_at dc_JA_fill 14 rfl) rfl ⟨rfl, rfl⟩
def li_23 : List (Nat × Nat × Int32) := (27, 5, (-1)) :: (27, 4, (-1)) :: (27, 3, (-1)) :: (27, 2, (-1)) :: (27, 1, (-1)) :: (27, 0, (-1)) :: li_22
def lr_23 : List (Nat × Nat × Nat) := lr_22
set_option maxRecDepth 20000 in
theorem i_Sc_measureAll_17 {l : Launch} {h : Nat} : Ev l (h + 1) m_Sc_measureAll 0 (a_ent m_Sc_measureAll.2.2.1 [.ref 17], [], CX 119 ((27, 5, (-1)) :: (27, 4, (-1)) :: (27, 3, (-1)) :: (27, 2, (-1)) :: (27, 1, (-1)) :: (27, 0, (-1)) :: li_22) (lr_22) 0 0) (fun v σ => v = none ∧ σ = CX 119 li_23 lr_23 0 0) := by
  show Ev l (h + 1) m_Sc_measureAll 0 ([.ref 17, .retAddr 0], [], CX 119 ((27, 5, (-1)) :: (27, 4, (-1)) :: (27, 3, (-1)) :: (27, 2, (-1)) :: (27, 1, (-1)) :: (27, 0, (-1)) :: li_22) (lr_22) 0 0) (fun v σ => v = none ∧ σ = CX 119 li_23 lr_23 0 0)
  refine ev_iconst (v := 0) rfl (a_dec_at dc_Sc_measureAll 0 rfl) ?_
  refine ev_istore_n (i := 1) rfl (by decide) rfl (a_dec_at dc_Sc_measureAll 1 rfl) ?_
  refine ev_iload_n (i := 1) rfl rfl (a_dec_at dc_Sc_measureAll 2 rfl) ?_
  refine ev_aload_n (i := 0) rfl rfl (a_dec_at dc_Sc_measureAll 3 rfl) ?_
  refine x_getR (y := 18) fl_Sc_30 rfl (by decide) sh17 (by decide +kernel) (by decide) (a_dec_at dc_Sc_measureAll 4 rfl) ?_
  refine x_getI (v := 0) fl_Sc_44 rfl (by decide) sh18 (by decide +kernel) (a_dec_at dc_Sc_measureAll 5 rfl) ?_
  refine ev_icmp_ge (tgt := 33) (a_dec_at dc_Sc_measureAll 6 rfl) (by decide) (fun _ => ?_) (fun q => absurd (by decide) q)
  exact Ev.retV (a_dec_at dc_Sc_measureAll 17 rfl) rfl ⟨rfl, rfl⟩
def li_24 : List (Nat × Nat × Int32) := li_23
def lr_24 : List (Nat × Nat × Nat) := lr_23
set_option maxRecDepth 20000 in
theorem i_Sc_begin_17 {l : Launch} {h : Nat} : Ev l (h + 2) m_Sc_begin 0 (a_ent m_Sc_begin.2.2.1 [.ref 17], [], CX 119 (li_20) ((78, 3, 117) :: lr_20) 0 0) (fun v σ => v = none ∧ σ = CX 119 li_24 lr_24 0 0) := by
  show Ev l (h + 2) m_Sc_begin 0 ([.ref 17, .retAddr 0], [], CX 119 (li_20) ((78, 3, 117) :: lr_20) 0 0) (fun v σ => v = none ∧ σ = CX 119 li_24 lr_24 0 0)
  refine ev_aload_n (i := 0) rfl rfl (a_dec_at dc_Sc_begin 0 rfl) ?_
  refine x_getR (y := 27) fl_Sc_11 rfl (by decide) sh17 (by decide +kernel) (by decide) (a_dec_at dc_Sc_begin 1 rfl) ?_
  refine ev_iconst (v := 0) rfl (a_dec_at dc_Sc_begin 2 rfl) ?_
  refine x_callS (As := [.ref 27, .int 0]) cs_Sc_38 rfl (by decide) (by decide) (by decide) (a_dec_at dc_Sc_begin 3 rfl) (i_JA_fill_27 (h := h + 0)) ?_
  refine ev_aload_n (i := 0) rfl rfl (a_dec_at dc_Sc_begin 4 rfl) ?_
  refine x_getR (y := 32) fl_Sc_27 rfl (by decide) sh17 (by decide +kernel) (by decide) (a_dec_at dc_Sc_begin 5 rfl) ?_
  refine ev_iconst (v := 0) rfl (a_dec_at dc_Sc_begin 6 rfl) ?_
  refine x_callS (As := [.ref 32, .int 0]) cs_Sc_38 rfl (by decide) (by decide) (by decide) (a_dec_at dc_Sc_begin 7 rfl) (i_JA_fill_32 (h := h + 0)) ?_
  refine ev_iconst (v := 0) rfl (a_dec_at dc_Sc_begin 8 rfl) ?_
  refine ev_istore_n (i := 1) rfl (by decide) rfl (a_dec_at dc_Sc_begin 9 rfl) ?_
  refine ev_iload_n (i := 1) rfl rfl (a_dec_at dc_Sc_begin 10 rfl) ?_
  refine ev_bipush (v := 6) rfl (a_dec_at dc_Sc_begin 11 rfl) ?_
  refine ev_icmp_ge (tgt := 60) (a_dec_at dc_Sc_begin 12 rfl) (by decide) (fun q => absurd q (by decide)) (fun _ => ?_)
  refine ev_aload_n (i := 0) rfl rfl (a_dec_at dc_Sc_begin 13 rfl) ?_
  refine x_getR (y := 27) fl_Sc_11 rfl (by decide) sh17 (by decide +kernel) (by decide) (a_dec_at dc_Sc_begin 14 rfl) ?_
  refine ev_iload_n (i := 1) rfl rfl (a_dec_at dc_Sc_begin 15 rfl) ?_
  refine ev_iload_n (i := 1) rfl rfl (a_dec_at dc_Sc_begin 16 rfl) ?_
  refine ev_aload_n (i := 0) rfl rfl (a_dec_at dc_Sc_begin 17 rfl) ?_
  refine x_getR (y := 18) fl_Sc_30 rfl (by decide) sh17 (by decide +kernel) (by decide) (a_dec_at dc_Sc_begin 18 rfl) ?_
  refine x_getI (v := 0) fl_Sc_44 rfl (by decide) sh18 (by decide +kernel) (a_dec_at dc_Sc_begin 19 rfl) ?_
  refine ev_icmp_ge (tgt := 52) (a_dec_at dc_Sc_begin 20 rfl) (by decide) (fun _ => ?_) (fun q => absurd (by decide) q)
  refine ev_iconst (v := (-1)) rfl (a_dec_at dc_Sc_begin 27 rfl) ?_
  refine x_iast (j := 0) (by decide) sh27 (by unfold vp_in; decide) (by decide) (a_dec_at dc_Sc_begin 28 rfl) ?_
  refine ev_iinc (v := 1) rfl rfl (by decide) rfl (a_dec_at dc_Sc_begin 29 rfl) ?_
  refine ev_goto (tgt := 18) (a_dec_at dc_Sc_begin 30 rfl) (by decide) ?_
  refine ev_iload_n (i := 1) rfl rfl (a_dec_at dc_Sc_begin 10 rfl) ?_
  refine ev_bipush (v := 6) rfl (a_dec_at dc_Sc_begin 11 rfl) ?_
  refine ev_icmp_ge (tgt := 60) (a_dec_at dc_Sc_begin 12 rfl) (by decide) (fun q => absurd q (by decide)) (fun _ => ?_)
  refine ev_aload_n (i := 0) rfl rfl (a_dec_at dc_Sc_begin 13 rfl) ?_
  refine x_getR (y := 27) fl_Sc_11 rfl (by decide) sh17 (by decide +kernel) (by decide) (a_dec_at dc_Sc_begin 14 rfl) ?_
  refine ev_iload_n (i := 1) rfl rfl (a_dec_at dc_Sc_begin 15 rfl) ?_
  refine ev_iload_n (i := 1) rfl rfl (a_dec_at dc_Sc_begin 16 rfl) ?_
  refine ev_aload_n (i := 0) rfl rfl (a_dec_at dc_Sc_begin 17 rfl) ?_
  refine x_getR (y := 18) fl_Sc_30 rfl (by decide) sh17 (by decide +kernel) (by decide) (a_dec_at dc_Sc_begin 18 rfl) ?_
  refine x_getI (v := 0) fl_Sc_44 rfl (by decide) sh18 (by decide +kernel) (a_dec_at dc_Sc_begin 19 rfl) ?_
  refine ev_icmp_ge (tgt := 52) (a_dec_at dc_Sc_begin 20 rfl) (by decide) (fun _ => ?_) (fun q => absurd (by decide) q)
  refine ev_iconst (v := (-1)) rfl (a_dec_at dc_Sc_begin 27 rfl) ?_
  refine x_iast (j := 1) (by decide) sh27 (by unfold vp_in; decide) (by decide) (a_dec_at dc_Sc_begin 28 rfl) ?_
  refine ev_iinc (v := 1) rfl rfl (by decide) rfl (a_dec_at dc_Sc_begin 29 rfl) ?_
  refine ev_goto (tgt := 18) (a_dec_at dc_Sc_begin 30 rfl) (by decide) ?_
  refine ev_iload_n (i := 1) rfl rfl (a_dec_at dc_Sc_begin 10 rfl) ?_
  refine ev_bipush (v := 6) rfl (a_dec_at dc_Sc_begin 11 rfl) ?_
  refine ev_icmp_ge (tgt := 60) (a_dec_at dc_Sc_begin 12 rfl) (by decide) (fun q => absurd q (by decide)) (fun _ => ?_)
  refine ev_aload_n (i := 0) rfl rfl (a_dec_at dc_Sc_begin 13 rfl) ?_
  refine x_getR (y := 27) fl_Sc_11 rfl (by decide) sh17 (by decide +kernel) (by decide) (a_dec_at dc_Sc_begin 14 rfl) ?_
  refine ev_iload_n (i := 1) rfl rfl (a_dec_at dc_Sc_begin 15 rfl) ?_
  refine ev_iload_n (i := 1) rfl rfl (a_dec_at dc_Sc_begin 16 rfl) ?_
  refine ev_aload_n (i := 0) rfl rfl (a_dec_at dc_Sc_begin 17 rfl) ?_
  refine x_getR (y := 18) fl_Sc_30 rfl (by decide) sh17 (by decide +kernel) (by decide) (a_dec_at dc_Sc_begin 18 rfl) ?_
  refine x_getI (v := 0) fl_Sc_44 rfl (by decide) sh18 (by decide +kernel) (a_dec_at dc_Sc_begin 19 rfl) ?_
  refine ev_icmp_ge (tgt := 52) (a_dec_at dc_Sc_begin 20 rfl) (by decide) (fun _ => ?_) (fun q => absurd (by decide) q)
  refine ev_iconst (v := (-1)) rfl (a_dec_at dc_Sc_begin 27 rfl) ?_
  refine x_iast (j := 2) (by decide) sh27 (by unfold vp_in; decide) (by decide) (a_dec_at dc_Sc_begin 28 rfl) ?_
  refine ev_iinc (v := 1) rfl rfl (by decide) rfl (a_dec_at dc_Sc_begin 29 rfl) ?_
  refine ev_goto (tgt := 18) (a_dec_at dc_Sc_begin 30 rfl) (by decide) ?_
  refine ev_iload_n (i := 1) rfl rfl (a_dec_at dc_Sc_begin 10 rfl) ?_
  refine ev_bipush (v := 6) rfl (a_dec_at dc_Sc_begin 11 rfl) ?_
  refine ev_icmp_ge (tgt := 60) (a_dec_at dc_Sc_begin 12 rfl) (by decide) (fun q => absurd q (by decide)) (fun _ => ?_)
  refine ev_aload_n (i := 0) rfl rfl (a_dec_at dc_Sc_begin 13 rfl) ?_
  refine x_getR (y := 27) fl_Sc_11 rfl (by decide) sh17 (by decide +kernel) (by decide) (a_dec_at dc_Sc_begin 14 rfl) ?_
  refine ev_iload_n (i := 1) rfl rfl (a_dec_at dc_Sc_begin 15 rfl) ?_
  refine ev_iload_n (i := 1) rfl rfl (a_dec_at dc_Sc_begin 16 rfl) ?_
  refine ev_aload_n (i := 0) rfl rfl (a_dec_at dc_Sc_begin 17 rfl) ?_
  refine x_getR (y := 18) fl_Sc_30 rfl (by decide) sh17 (by decide +kernel) (by decide) (a_dec_at dc_Sc_begin 18 rfl) ?_
  refine x_getI (v := 0) fl_Sc_44 rfl (by decide) sh18 (by decide +kernel) (a_dec_at dc_Sc_begin 19 rfl) ?_
  refine ev_icmp_ge (tgt := 52) (a_dec_at dc_Sc_begin 20 rfl) (by decide) (fun _ => ?_) (fun q => absurd (by decide) q)
  refine ev_iconst (v := (-1)) rfl (a_dec_at dc_Sc_begin 27 rfl) ?_
  refine x_iast (j := 3) (by decide) sh27 (by unfold vp_in; decide) (by decide) (a_dec_at dc_Sc_begin 28 rfl) ?_
  refine ev_iinc (v := 1) rfl rfl (by decide) rfl (a_dec_at dc_Sc_begin 29 rfl) ?_
  refine ev_goto (tgt := 18) (a_dec_at dc_Sc_begin 30 rfl) (by decide) ?_
  refine ev_iload_n (i := 1) rfl rfl (a_dec_at dc_Sc_begin 10 rfl) ?_
  refine ev_bipush (v := 6) rfl (a_dec_at dc_Sc_begin 11 rfl) ?_
  refine ev_icmp_ge (tgt := 60) (a_dec_at dc_Sc_begin 12 rfl) (by decide) (fun q => absurd q (by decide)) (fun _ => ?_)
  refine ev_aload_n (i := 0) rfl rfl (a_dec_at dc_Sc_begin 13 rfl) ?_
  refine x_getR (y := 27) fl_Sc_11 rfl (by decide) sh17 (by decide +kernel) (by decide) (a_dec_at dc_Sc_begin 14 rfl) ?_
  refine ev_iload_n (i := 1) rfl rfl (a_dec_at dc_Sc_begin 15 rfl) ?_
  refine ev_iload_n (i := 1) rfl rfl (a_dec_at dc_Sc_begin 16 rfl) ?_
  refine ev_aload_n (i := 0) rfl rfl (a_dec_at dc_Sc_begin 17 rfl) ?_
  refine x_getR (y := 18) fl_Sc_30 rfl (by decide) sh17 (by decide +kernel) (by decide) (a_dec_at dc_Sc_begin 18 rfl) ?_
  refine x_getI (v := 0) fl_Sc_44 rfl (by decide) sh18 (by decide +kernel) (a_dec_at dc_Sc_begin 19 rfl) ?_
  refine ev_icmp_ge (tgt := 52) (a_dec_at dc_Sc_begin 20 rfl) (by decide) (fun _ => ?_) (fun q => absurd (by decide) q)
  refine ev_iconst (v := (-1)) rfl (a_dec_at dc_Sc_begin 27 rfl) ?_
  refine x_iast (j := 4) (by decide) sh27 (by unfold vp_in; decide) (by decide) (a_dec_at dc_Sc_begin 28 rfl) ?_
  refine ev_iinc (v := 1) rfl rfl (by decide) rfl (a_dec_at dc_Sc_begin 29 rfl) ?_
  refine ev_goto (tgt := 18) (a_dec_at dc_Sc_begin 30 rfl) (by decide) ?_
  refine ev_iload_n (i := 1) rfl rfl (a_dec_at dc_Sc_begin 10 rfl) ?_
  refine ev_bipush (v := 6) rfl (a_dec_at dc_Sc_begin 11 rfl) ?_
  refine ev_icmp_ge (tgt := 60) (a_dec_at dc_Sc_begin 12 rfl) (by decide) (fun q => absurd q (by decide)) (fun _ => ?_)
  refine ev_aload_n (i := 0) rfl rfl (a_dec_at dc_Sc_begin 13 rfl) ?_
  refine x_getR (y := 27) fl_Sc_11 rfl (by decide) sh17 (by decide +kernel) (by decide) (a_dec_at dc_Sc_begin 14 rfl) ?_
  refine ev_iload_n (i := 1) rfl rfl (a_dec_at dc_Sc_begin 15 rfl) ?_
  refine ev_iload_n (i := 1) rfl rfl (a_dec_at dc_Sc_begin 16 rfl) ?_
  refine ev_aload_n (i := 0) rfl rfl (a_dec_at dc_Sc_begin 17 rfl) ?_
  refine x_getR (y := 18) fl_Sc_30 rfl (by decide) sh17 (by decide +kernel) (by decide) (a_dec_at dc_Sc_begin 18 rfl) ?_
  refine x_getI (v := 0) fl_Sc_44 rfl (by decide) sh18 (by decide +kernel) (a_dec_at dc_Sc_begin 19 rfl) ?_
  refine ev_icmp_ge (tgt := 52) (a_dec_at dc_Sc_begin 20 rfl) (by decide) (fun _ => ?_) (fun q => absurd (by decide) q)
  refine ev_iconst (v := (-1)) rfl (a_dec_at dc_Sc_begin 27 rfl) ?_
  refine x_iast (j := 5) (by decide) sh27 (by unfold vp_in; decide) (by decide) (a_dec_at dc_Sc_begin 28 rfl) ?_
  refine ev_iinc (v := 1) rfl rfl (by decide) rfl (a_dec_at dc_Sc_begin 29 rfl) ?_
  refine ev_goto (tgt := 18) (a_dec_at dc_Sc_begin 30 rfl) (by decide) ?_
  refine ev_iload_n (i := 1) rfl rfl (a_dec_at dc_Sc_begin 10 rfl) ?_
  refine ev_bipush (v := 6) rfl (a_dec_at dc_Sc_begin 11 rfl) ?_
  refine ev_icmp_ge (tgt := 60) (a_dec_at dc_Sc_begin 12 rfl) (by decide) (fun _ => ?_) (fun q => absurd (by decide) q)
  refine ev_aload_n (i := 0) rfl rfl (a_dec_at dc_Sc_begin 31 rfl) ?_
  refine x_getR (y := 18) fl_Sc_30 rfl (by decide) sh17 (by decide +kernel) (by decide) (a_dec_at dc_Sc_begin 32 rfl) ?_
  refine x_getR (y := 19) fl_Sc_53 rfl (by decide) sh18 (by decide +kernel) (by decide) (a_dec_at dc_Sc_begin 33 rfl) ?_
  refine ev_iconst (v := 0) rfl (a_dec_at dc_Sc_begin 34 rfl) ?_
  refine ev_aload_n (i := 0) rfl rfl (a_dec_at dc_Sc_begin 35 rfl) ?_
  refine x_getR (y := 27) fl_Sc_11 rfl (by decide) sh17 (by decide +kernel) (by decide) (a_dec_at dc_Sc_begin 36 rfl) ?_
  refine ev_bipush (v := 6) rfl (a_dec_at dc_Sc_begin 37 rfl) ?_
  refine ev_aload_n (i := 0) rfl rfl (a_dec_at dc_Sc_begin 38 rfl) ?_
  refine x_getR (y := 18) fl_Sc_30 rfl (by decide) sh17 (by decide +kernel) (by decide) (a_dec_at dc_Sc_begin 39 rfl) ?_
  refine x_getI (v := 0) fl_Sc_44 rfl (by decide) sh18 (by decide +kernel) (a_dec_at dc_Sc_begin 40 rfl) ?_
  refine x_copy0 cs_Sc_56 (by decide) (by decide) sh19 sh27 (by decide) (by decide) (by decide) (by omega) (a_dec_at dc_Sc_begin 41 rfl) ?_
  refine ev_aload_n (i := 0) rfl rfl (a_dec_at dc_Sc_begin 42 rfl) ?_
  refine x_getR (y := 18) fl_Sc_30 rfl (by decide) sh17 (by decide +kernel) (by decide) (a_dec_at dc_Sc_begin 43 rfl) ?_
  refine x_getR (y := 23) fl_Sc_62 rfl (by decide) sh18 (by decide +kernel) (by decide) (a_dec_at dc_Sc_begin 44 rfl) ?_
  refine ev_iconst (v := 0) rfl (a_dec_at dc_Sc_begin 45 rfl) ?_
  refine ev_aload_n (i := 0) rfl rfl (a_dec_at dc_Sc_begin 46 rfl) ?_
  refine x_getR (y := 27) fl_Sc_11 rfl (by decide) sh17 (by decide +kernel) (by decide) (a_dec_at dc_Sc_begin 47 rfl) ?_
  refine ev_bipush (v := 12) rfl (a_dec_at dc_Sc_begin 48 rfl) ?_
  refine ev_aload_n (i := 0) rfl rfl (a_dec_at dc_Sc_begin 49 rfl) ?_
  refine x_getR (y := 18) fl_Sc_30 rfl (by decide) sh17 (by decide +kernel) (by decide) (a_dec_at dc_Sc_begin 50 rfl) ?_
  refine x_getI (v := 0) fl_Sc_65 rfl (by decide) sh18 (by decide +kernel) (a_dec_at dc_Sc_begin 51 rfl) ?_
  refine x_copy0 cs_Sc_56 (by decide) (by decide) sh23 sh27 (by decide) (by decide) (by decide) (by omega) (a_dec_at dc_Sc_begin 52 rfl) ?_
  refine ev_aload_n (i := 0) rfl rfl (a_dec_at dc_Sc_begin 53 rfl) ?_
  refine x_callV (As := []) cs_Sc_68 (by decide) sh17 rfl (by decide) (by decide) (by decide) (a_dec_at dc_Sc_begin 54 rfl) (i_Sc_measureAll_17 (h := h + 0)) ?_
  exact Ev.retV (a_dec_at dc_Sc_begin 55 rfl) rfl ⟨rfl, rfl⟩
def li_25 : List (Nat × Nat × Int32) := li_24
def lr_25 : List (Nat × Nat × Nat) := lr_24
set_option maxRecDepth 20000 in
theorem i_B_init_1 {l : Launch} {h : Nat} : Ev l (h + 3) m_B_init 0 (a_ent m_B_init.2.2.1 [.ref 1], [], CX 2 ([]) ([]) 117 6319) (fun v σ => v = none ∧ σ = CX 119 li_25 lr_25 0 0) := by
  show Ev l (h + 3) m_B_init 0 ([.ref 1, .retAddr 0], [], CX 2 ([]) ([]) 117 6319) (fun v σ => v = none ∧ σ = CX 119 li_25 lr_25 0 0)
  refine ev_aload_n (i := 0) rfl rfl (a_dec_at dc_B_init 0 rfl) ?_
  refine ev_objInit cs_B_3 (by decide) (by omega) (by decide) (a_dec_at dc_B_init 1 rfl) ?_
  refine ev_aload_n (i := 0) rfl rfl (a_dec_at dc_B_init 2 rfl) ?_
  refine ev_sipush (v := 900) rfl (a_dec_at dc_B_init 3 rfl) ?_
  refine x_newa (kd := 1) (N := 900) (bc := 116) (bs := 5419) (by decide) rfl (a_m1 119 rfl rfl) (by decide) (by decide) (by decide) (by decide) sh2 (by decide) (by decide +kernel) (by decide +kernel) (by decide) (a_dec_at dc_B_init 4 rfl) ?_
  refine x_putR fl_B_9 rfl (fun _ _ _ h => by cases h; exact Or.inr ⟨rfl, rfl⟩) (by decide) (by decide) sh1 (by decide) (a_dec_at dc_B_init 5 rfl) ?_
  refine ev_aload_n (i := 0) rfl rfl (a_dec_at dc_B_init 6 rfl) ?_
  refine x_new (ci := 0) (bc := 115) (bs := 5405) rfl (a_m1 31 rfl rfl) (a_m1 32 rfl rfl) (a_m1 2 rfl rfl) (by decide) sh3 (by decide) (by decide +kernel) (by decide +kernel) (by decide) (a_dec_at dc_B_init 7 rfl) ?_
  refine ev_dup rfl (a_dec_at dc_B_init 8 rfl) ?_
  refine x_callIN (As := []) (b1 := 8) (s1 := 936) (bc := 107) (bs := 4469) cal_La_init rfl cs_B_15 (a_m1 34 rfl rfl) rfl (by decide) rfl (by decide) (by decide) (by decide) (by decide) (by decide) (a_dec_at dc_B_init 9 rfl) (i_La_init_3 (h := h + 1)) ?_
  refine x_putR fl_B_16 rfl (fun _ _ _ h => by cases h; exact Or.inr ⟨rfl, rfl⟩) (by decide) (by decide) sh1 (by decide) (a_dec_at dc_B_init 10 rfl) ?_
  refine ev_aload_n (i := 0) rfl rfl (a_dec_at dc_B_init 11 rfl) ?_
  refine x_new (ci := 8) (bc := 106) (bs := 4461) rfl (a_m1 121 rfl rfl) (a_m1 122 rfl rfl) (a_m1 3 rfl rfl) (by decide) sh12 (by decide) (by decide +kernel) (by decide +kernel) (by decide) (a_dec_at dc_B_init 12 rfl) ?_
  refine ev_dup rfl (a_dec_at dc_B_init 13 rfl) ?_
  refine ev_aload_n (i := 0) rfl rfl (a_dec_at dc_B_init 14 rfl) ?_
  refine x_getR (y := 2) fl_B_9 rfl (by decide) sh1 (by decide +kernel) (by decide) (a_dec_at dc_B_init 15 rfl) ?_
  refine x_callI (As := [.ref 2]) (b1 := 0) (s1 := 0) (bc := 106) (bs := 4461) cal_To_init rfl cs_B_22 (a_m1 124 rfl rfl) rfl (by decide) rfl (by decide) (by decide) (by decide) (by decide) (by decide) (a_dec_at dc_B_init 16 rfl) (i_To_init_12 (h := h + 1)) ?_
  refine x_putR fl_B_25 rfl (fun _ _ _ h => by cases h; exact Or.inr ⟨rfl, rfl⟩) (by decide) (by decide) sh1 (by decide) (a_dec_at dc_B_init 17 rfl) ?_
  refine ev_aload_n (i := 0) rfl rfl (a_dec_at dc_B_init 18 rfl) ?_
  refine x_new (ci := 4) (bc := 105) (bs := 4459) rfl (a_m1 156 rfl rfl) (a_m1 157 rfl rfl) (a_m1 4 rfl rfl) (by decide) sh13 (by decide) (by decide +kernel) (by decide +kernel) (by decide) (a_dec_at dc_B_init 19 rfl) ?_
  refine ev_dup rfl (a_dec_at dc_B_init 20 rfl) ?_
  refine ev_aload_n (i := 0) rfl rfl (a_dec_at dc_B_init 21 rfl) ?_
  refine x_getR (y := 12) fl_B_25 rfl (by decide) sh1 (by decide +kernel) (by decide) (a_dec_at dc_B_init 22 rfl) ?_
  refine ev_aload_n (i := 0) rfl rfl (a_dec_at dc_B_init 23 rfl) ?_
  refine x_getR (y := 3) fl_B_16 rfl (by decide) sh1 (by decide +kernel) (by decide) (a_dec_at dc_B_init 24 rfl) ?_
  refine x_callI (As := [.ref 12, .ref 3]) (b1 := 0) (s1 := 0) (bc := 105) (bs := 4459) cal_Re_init rfl cs_B_31 (a_m1 159 rfl rfl) rfl (by decide) rfl (by decide) (by decide) (by decide) (by decide) (by decide) (a_dec_at dc_B_init 25 rfl) (i_Re_init_13 (h := h + 1)) ?_
  refine x_putR fl_B_34 rfl (fun _ _ _ h => by cases h; exact Or.inr ⟨rfl, rfl⟩) (by decide) (by decide) sh1 (by decide) (a_dec_at dc_B_init 26 rfl) ?_
  refine ev_aload_n (i := 0) rfl rfl (a_dec_at dc_B_init 27 rfl) ?_
  refine ev_iconst (v := (-1)) rfl (a_dec_at dc_B_init 28 rfl) ?_
  refine x_putI fl_B_38 rfl (fun _ _ _ h => by cases h; exact Or.inl rfl) (by decide) sh1 (a_dec_at dc_B_init 29 rfl) ?_
  refine ev_aload_n (i := 0) rfl rfl (a_dec_at dc_B_init 30 rfl) ?_
  refine x_new (ci := 1) (bc := 104) (bs := 4457) rfl (a_m1 169 rfl rfl) (a_m1 170 rfl rfl) (a_m1 5 rfl rfl) (by decide) sh14 (by decide) (by decide +kernel) (by decide +kernel) (by decide) (a_dec_at dc_B_init 31 rfl) ?_
  refine ev_dup rfl (a_dec_at dc_B_init 32 rfl) ?_
  refine x_callIN (As := []) (b1 := 2) (s1 := 70) (bc := 102) (bs := 4387) cal_Lw_init rfl cs_B_44 (a_m1 172 rfl rfl) rfl (by decide) rfl (by decide) (by decide) (by decide) (by decide) (by decide) (a_dec_at dc_B_init 33 rfl) (i_Lw_init_14 (h := h + 1)) ?_
  refine x_putR fl_B_45 rfl (fun _ _ _ h => by cases h; exact Or.inr ⟨rfl, rfl⟩) (by decide) (by decide) sh1 (by decide) (a_dec_at dc_B_init 34 rfl) ?_
  refine ev_aload_n (i := 0) rfl rfl (a_dec_at dc_B_init 35 rfl) ?_
  refine x_new (ci := 5) (bc := 101) (bs := 4379) rfl (a_m1 182 rfl rfl) (a_m1 183 rfl rfl) (a_m1 6 rfl rfl) (by decide) sh17 (by decide) (by decide +kernel) (by decide +kernel) (by decide) (a_dec_at dc_B_init 36 rfl) ?_
  refine ev_dup rfl (a_dec_at dc_B_init 37 rfl) ?_
  refine x_new (ci := 0) (bc := 100) (bs := 4365) rfl (a_m1 31 rfl rfl) (a_m1 32 rfl rfl) (a_m1 2 rfl rfl) (by decide) sh18 (by decide) (by decide +kernel) (by decide +kernel) (by decide) (a_dec_at dc_B_init 38 rfl) ?_
  refine ev_dup rfl (a_dec_at dc_B_init 39 rfl) ?_
  refine x_callIN (As := []) (b1 := 8) (s1 := 936) (bc := 92) (bs := 3429) cal_La_init rfl cs_B_15 (a_m1 34 rfl rfl) rfl (by decide) rfl (by decide) (by decide) (by decide) (by decide) (by decide) (a_dec_at dc_B_init 40 rfl) (i_La_init_18 (h := h + 1)) ?_
  refine ev_aload_n (i := 0) rfl rfl (a_dec_at dc_B_init 41 rfl) ?_
  refine x_getR (y := 14) fl_B_45 rfl (by decide) sh1 (by decide +kernel) (by decide) (a_dec_at dc_B_init 42 rfl) ?_
  refine x_callI (As := [.ref 18, .ref 14]) (b1 := 6) (s1 := 142) (bc := 86) (bs := 3287) cal_Sc_init rfl cs_B_51 (a_m1 185 rfl rfl) rfl (by decide) rfl (by decide) (by decide) (by decide) (by decide) (by decide) (a_dec_at dc_B_init 43 rfl) (i_Sc_init_17 (h := h + 1)) ?_
  refine x_putR fl_B_54 rfl (fun _ _ _ h => by cases h; exact Or.inr ⟨rfl, rfl⟩) (by decide) (by decide) sh1 (by decide) (a_dec_at dc_B_init 44 rfl) ?_
  refine ev_aload_n (i := 0) rfl rfl (a_dec_at dc_B_init 45 rfl) ?_
  refine x_new (ci := 5) (bc := 85) (bs := 3279) rfl (a_m1 182 rfl rfl) (a_m1 183 rfl rfl) (a_m1 6 rfl rfl) (by decide) sh33 (by decide) (by decide +kernel) (by decide +kernel) (by decide) (a_dec_at dc_B_init 46 rfl) ?_
  refine ev_dup rfl (a_dec_at dc_B_init 47 rfl) ?_
  refine ev_aload_n (i := 0) rfl rfl (a_dec_at dc_B_init 48 rfl) ?_
  refine x_getR (y := 17) fl_B_54 rfl (by decide) sh1 (by decide +kernel) (by decide) (a_dec_at dc_B_init 49 rfl) ?_
  refine x_getR (y := 18) fl_B_58 rfl (by decide) sh17 (by decide +kernel) (by decide) (a_dec_at dc_B_init 50 rfl) ?_
  refine ev_aload_n (i := 0) rfl rfl (a_dec_at dc_B_init 51 rfl) ?_
  refine x_getR (y := 14) fl_B_45 rfl (by decide) sh1 (by decide +kernel) (by decide) (a_dec_at dc_B_init 52 rfl) ?_
  refine x_callI (As := [.ref 18, .ref 14]) (b1 := 6) (s1 := 142) (bc := 79) (bs := 3137) cal_Sc_init rfl cs_B_51 (a_m1 185 rfl rfl) rfl (by decide) rfl (by decide) (by decide) (by decide) (by decide) (by decide) (a_dec_at dc_B_init 53 rfl) (i_Sc_init_33 (h := h + 1)) ?_
  refine x_putR fl_B_61 rfl (fun _ _ _ h => by cases h; exact Or.inr ⟨rfl, rfl⟩) (by decide) (by decide) sh1 (by decide) (a_dec_at dc_B_init 54 rfl) ?_
  refine ev_aload_n (i := 0) rfl rfl (a_dec_at dc_B_init 55 rfl) ?_
  refine ev_iconst (v := 2) rfl (a_dec_at dc_B_init 56 rfl) ?_
  refine x_newq (kd := 4) (C := "BeckChoice$Scene") (N := 2) (bc := 78) (bs := 3135) (by decide) (a_m1 182 rfl rfl) (by decide) (by decide) (by decide) (by decide) sh40 (by decide) (by decide +kernel) (by decide +kernel) (by decide) (a_dec_at dc_B_init 57 rfl) ?_
  refine x_putR fl_B_64 rfl (fun _ _ _ h => by cases h; exact Or.inr ⟨rfl, rfl⟩) (by decide) (by decide) sh1 (by decide) (a_dec_at dc_B_init 58 rfl) ?_
  refine ev_aload_n (i := 0) rfl rfl (a_dec_at dc_B_init 59 rfl) ?_
  refine ev_iconst (v := 2) rfl (a_dec_at dc_B_init 60 rfl) ?_
  refine x_newa (kd := 2) (N := 2) (bc := 77) (bs := 3133) (by decide) rfl (a_m2 11 rfl rfl) (by decide) (by decide) (by decide) (by decide) sh41 (by decide) (by decide +kernel) (by decide +kernel) (by decide) (a_dec_at dc_B_init 61 rfl) ?_
  refine x_putR fl_B_68 rfl (fun _ _ _ h => by cases h; exact Or.inr ⟨rfl, rfl⟩) (by decide) (by decide) sh1 (by decide) (a_dec_at dc_B_init 62 rfl) ?_
  refine ev_aload_n (i := 0) rfl rfl (a_dec_at dc_B_init 63 rfl) ?_
  refine x_new (ci := 3) (bc := 76) (bs := 3129) rfl (a_m1 229 rfl rfl) (a_m1 230 rfl rfl) (a_m1 7 rfl rfl) (by decide) sh42 (by decide) (by decide +kernel) (by decide +kernel) (by decide) (a_dec_at dc_B_init 64 rfl) ?_
  refine ev_dup rfl (a_dec_at dc_B_init 65 rfl) ?_
  refine x_callIN (As := []) (b1 := 12) (s1 := 450) (bc := 64) (bs := 2679) cal_Pa_init rfl cs_B_74 (a_m1 232 rfl rfl) rfl (by decide) rfl (by decide) (by decide) (by decide) (by decide) (by decide) (a_dec_at dc_B_init 66 rfl) (i_Pa_init_42 (h := h + 1)) ?_
  refine x_putR fl_B_75 rfl (fun _ _ _ h => by cases h; exact Or.inr ⟨rfl, rfl⟩) (by decide) (by decide) sh1 (by decide) (a_dec_at dc_B_init 67 rfl) ?_
  refine ev_aload_n (i := 0) rfl rfl (a_dec_at dc_B_init 68 rfl) ?_
  refine x_new (ci := 2) (bc := 63) (bs := 2675) rfl (a_m2 12 rfl rfl) (a_m2 13 rfl rfl) (a_m1 8 rfl rfl) (by decide) sh55 (by decide) (by decide +kernel) (by decide +kernel) (by decide) (a_dec_at dc_B_init 69 rfl) ?_
  refine ev_dup rfl (a_dec_at dc_B_init 70 rfl) ?_
  refine x_callIN (As := []) (b1 := 4) (s1 := 20) (bc := 59) (bs := 2655) cal_Ma_init rfl cs_B_81 (a_m2 15 rfl rfl) rfl (by decide) rfl (by decide) (by decide) (by decide) (by decide) (by decide) (a_dec_at dc_B_init 71 rfl) (i_Ma_init_55 (h := h + 1)) ?_
  refine x_putR fl_B_82 rfl (fun _ _ _ h => by cases h; exact Or.inr ⟨rfl, rfl⟩) (by decide) (by decide) sh1 (by decide) (a_dec_at dc_B_init 72 rfl) ?_
  refine ev_aload_n (i := 0) rfl rfl (a_dec_at dc_B_init 73 rfl) ?_
  refine x_new (ci := 7) (bc := 58) (bs := 2641) rfl (a_m2 35 rfl rfl) (a_m2 36 rfl rfl) (a_m1 9 rfl rfl) (by decide) sh60 (by decide) (by decide +kernel) (by decide +kernel) (by decide) (a_dec_at dc_B_init 74 rfl) ?_
  refine ev_dup rfl (a_dec_at dc_B_init 75 rfl) ?_
  refine ev_aload_n (i := 0) rfl rfl (a_dec_at dc_B_init 76 rfl) ?_
  refine x_getR (y := 55) fl_B_82 rfl (by decide) sh1 (by decide +kernel) (by decide) (a_dec_at dc_B_init 77 rfl) ?_
  refine x_callI (As := [.ref 55]) (b1 := 7) (s1 := 38) (bc := 51) (bs := 2603) cal_Sv_init rfl cs_B_88 (a_m2 38 rfl rfl) rfl (by decide) rfl (by decide) (by decide) (by decide) (by decide) (by decide) (a_dec_at dc_B_init 78 rfl) (i_Sv_init_60 (h := h + 1)) ?_
  refine x_putR fl_B_91 rfl (fun _ _ _ h => by cases h; exact Or.inr ⟨rfl, rfl⟩) (by decide) (by decide) sh1 (by decide) (a_dec_at dc_B_init 79 rfl) ?_
  refine ev_aload_n (i := 0) rfl rfl (a_dec_at dc_B_init 80 rfl) ?_
  refine x_new (ci := 10) (bc := 50) (bs := 2592) rfl (a_m2 91 rfl rfl) (a_m2 92 rfl rfl) (a_m1 10 rfl rfl) (by decide) sh68 (by decide) (by decide +kernel) (by decide +kernel) (by decide) (a_dec_at dc_B_init 81 rfl) ?_
  refine ev_dup rfl (a_dec_at dc_B_init 82 rfl) ?_
  refine ev_aload_n (i := 0) rfl rfl (a_dec_at dc_B_init 83 rfl) ?_
  refine x_getR (y := 33) fl_B_61 rfl (by decide) sh1 (by decide +kernel) (by decide) (a_dec_at dc_B_init 84 rfl) ?_
  refine ev_aload_n (i := 0) rfl rfl (a_dec_at dc_B_init 85 rfl) ?_
  refine x_getR (y := 55) fl_B_82 rfl (by decide) sh1 (by decide +kernel) (by decide) (a_dec_at dc_B_init 86 rfl) ?_
  refine x_callI (As := [.ref 33, .ref 55]) (b1 := 6) (s1 := 199) (bc := 44) (bs := 2393) cal_Wo_init rfl cs_B_97 (a_m2 94 rfl rfl) rfl (by decide) rfl (by decide) (by decide) (by decide) (by decide) (by decide) (a_dec_at dc_B_init 87 rfl) (i_Wo_init_68 (h := h + 1)) ?_
  refine x_putR fl_B_100 rfl (fun _ _ _ h => by cases h; exact Or.inr ⟨rfl, rfl⟩) (by decide) (by decide) sh1 (by decide) (a_dec_at dc_B_init 88 rfl) ?_
  refine ev_aload_n (i := 0) rfl rfl (a_dec_at dc_B_init 89 rfl) ?_
  refine x_new (ci := 6) (bc := 43) (bs := 2386) rfl (a_m2 132 rfl rfl) (a_m2 133 rfl rfl) (a_m1 11 rfl rfl) (by decide) sh75 (by decide) (by decide +kernel) (by decide +kernel) (by decide) (a_dec_at dc_B_init 90 rfl) ?_
  refine ev_dup rfl (a_dec_at dc_B_init 91 rfl) ?_
  refine ev_aload_n (i := 0) rfl rfl (a_dec_at dc_B_init 92 rfl) ?_
  refine x_getR (y := 33) fl_B_61 rfl (by decide) sh1 (by decide +kernel) (by decide) (a_dec_at dc_B_init 93 rfl) ?_
  refine ev_aload_n (i := 0) rfl rfl (a_dec_at dc_B_init 94 rfl) ?_
  refine x_getR (y := 55) fl_B_82 rfl (by decide) sh1 (by decide +kernel) (by decide) (a_dec_at dc_B_init 95 rfl) ?_
  refine x_callI (As := [.ref 33, .ref 55]) (b1 := 2) (s1 := 10) (bc := 41) (bs := 2376) cal_Su_init rfl cs_B_106 (a_m2 135 rfl rfl) rfl (by decide) rfl (by decide) (by decide) (by decide) (by decide) (by decide) (a_dec_at dc_B_init 96 rfl) (i_Su_init_75 (h := h + 1)) ?_
  refine x_putR fl_B_107 rfl (fun _ _ _ h => by cases h; exact Or.inr ⟨rfl, rfl⟩) (by decide) (by decide) sh1 (by decide) (a_dec_at dc_B_init 97 rfl) ?_
  refine ev_aload_n (i := 0) rfl rfl (a_dec_at dc_B_init 98 rfl) ?_
  refine ev_iconst (v := 4) rfl (a_dec_at dc_B_init 99 rfl) ?_
  refine x_newq (kd := 5) (C := "BeckChoice$Tray") (N := 4) (bc := 40) (bs := 2372) (by decide) (a_m2 162 rfl rfl) (by decide) (by decide) (by decide) (by decide) sh78 (by decide) (by decide +kernel) (by decide +kernel) (by decide) (a_dec_at dc_B_init 100 rfl) ?_
  refine x_putR fl_B_113 rfl (fun _ _ _ h => by cases h; exact Or.inr ⟨rfl, rfl⟩) (by decide) (by decide) sh1 (by decide) (a_dec_at dc_B_init 101 rfl) ?_
  refine ev_iconst (v := 0) rfl (a_dec_at dc_B_init 102 rfl) ?_
  refine ev_istore_n (i := 1) rfl (by decide) rfl (a_dec_at dc_B_init 103 rfl) ?_
  refine ev_iload_n (i := 1) rfl rfl (a_dec_at dc_B_init 104 rfl) ?_
  refine ev_iconst (v := 2) rfl (a_dec_at dc_B_init 105 rfl) ?_
  refine ev_icmp_ge (tgt := 253) (a_dec_at dc_B_init 106 rfl) (by decide) (fun q => absurd q (by decide)) (fun _ => ?_)
  refine ev_aload_n (i := 0) rfl rfl (a_dec_at dc_B_init 107 rfl) ?_
  refine x_getR (y := 40) fl_B_64 rfl (by decide) sh1 (by decide +kernel) (by decide) (a_dec_at dc_B_init 108 rfl) ?_
  refine ev_iload_n (i := 1) rfl rfl (a_dec_at dc_B_init 109 rfl) ?_
  refine x_new (ci := 5) (bc := 39) (bs := 2364) rfl (a_m1 182 rfl rfl) (a_m1 183 rfl rfl) (a_m1 6 rfl rfl) (by decide) sh79 (by decide) (by decide +kernel) (by decide +kernel) (by decide) (a_dec_at dc_B_init 110 rfl) ?_
  refine ev_dup rfl (a_dec_at dc_B_init 111 rfl) ?_
  refine x_new (ci := 0) (bc := 38) (bs := 2350) rfl (a_m1 31 rfl rfl) (a_m1 32 rfl rfl) (a_m1 2 rfl rfl) (by decide) sh80 (by decide) (by decide +kernel) (by decide +kernel) (by decide) (a_dec_at dc_B_init 112 rfl) ?_
  refine ev_dup rfl (a_dec_at dc_B_init 113 rfl) ?_
  refine x_callIN (As := []) (b1 := 8) (s1 := 936) (bc := 30) (bs := 1414) cal_La_init rfl cs_B_15 (a_m1 34 rfl rfl) rfl (by decide) rfl (by decide) (by decide) (by decide) (by decide) (by decide) (a_dec_at dc_B_init 114 rfl) (i_La_init_80 (h := h + 1)) ?_
  refine ev_aload_n (i := 0) rfl rfl (a_dec_at dc_B_init 115 rfl) ?_
  refine x_getR (y := 14) fl_B_45 rfl (by decide) sh1 (by decide +kernel) (by decide) (a_dec_at dc_B_init 116 rfl) ?_
  refine x_callI (As := [.ref 80, .ref 14]) (b1 := 6) (s1 := 142) (bc := 24) (bs := 1272) cal_Sc_init rfl cs_B_51 (a_m1 185 rfl rfl) rfl (by decide) rfl (by decide) (by decide) (by decide) (by decide) (by decide) (a_dec_at dc_B_init 117 rfl) (i_Sc_init_79 (h := h + 1)) ?_
  refine x_aast (j := 0) (by decide) (by decide) sh40 (by unfold vp_in; decide) (by decide) (by decide) sh79 (a_dec_at dc_B_init 118 rfl) ?_
  refine ev_iinc (v := 1) rfl rfl (by decide) rfl (a_dec_at dc_B_init 119 rfl) ?_
  refine ev_goto (tgt := 218) (a_dec_at dc_B_init 120 rfl) (by decide) ?_
  refine ev_iload_n (i := 1) rfl rfl (a_dec_at dc_B_init 104 rfl) ?_
  refine ev_iconst (v := 2) rfl (a_dec_at dc_B_init 105 rfl) ?_
  refine ev_icmp_ge (tgt := 253) (a_dec_at dc_B_init 106 rfl) (by decide) (fun q => absurd q (by decide)) (fun _ => ?_)
  refine ev_aload_n (i := 0) rfl rfl (a_dec_at dc_B_init 107 rfl) ?_
  refine x_getR (y := 40) fl_B_64 rfl (by decide) sh1 (by decide +kernel) (by decide) (a_dec_at dc_B_init 108 rfl) ?_
  refine ev_iload_n (i := 1) rfl rfl (a_dec_at dc_B_init 109 rfl) ?_
  refine x_new (ci := 5) (bc := 23) (bs := 1264) rfl (a_m1 182 rfl rfl) (a_m1 183 rfl rfl) (a_m1 6 rfl rfl) (by decide) sh95 (by decide) (by decide +kernel) (by decide +kernel) (by decide) (a_dec_at dc_B_init 110 rfl) ?_
  refine ev_dup rfl (a_dec_at dc_B_init 111 rfl) ?_
  refine x_new (ci := 0) (bc := 22) (bs := 1250) rfl (a_m1 31 rfl rfl) (a_m1 32 rfl rfl) (a_m1 2 rfl rfl) (by decide) sh96 (by decide) (by decide +kernel) (by decide +kernel) (by decide) (a_dec_at dc_B_init 112 rfl) ?_
  refine ev_dup rfl (a_dec_at dc_B_init 113 rfl) ?_
  refine x_callIN (As := []) (b1 := 8) (s1 := 936) (bc := 14) (bs := 314) cal_La_init rfl cs_B_15 (a_m1 34 rfl rfl) rfl (by decide) rfl (by decide) (by decide) (by decide) (by decide) (by decide) (a_dec_at dc_B_init 114 rfl) (i_La_init_96 (h := h + 1)) ?_
  refine ev_aload_n (i := 0) rfl rfl (a_dec_at dc_B_init 115 rfl) ?_
  refine x_getR (y := 14) fl_B_45 rfl (by decide) sh1 (by decide +kernel) (by decide) (a_dec_at dc_B_init 116 rfl) ?_
  refine x_callI (As := [.ref 96, .ref 14]) (b1 := 6) (s1 := 142) (bc := 8) (bs := 172) cal_Sc_init rfl cs_B_51 (a_m1 185 rfl rfl) rfl (by decide) rfl (by decide) (by decide) (by decide) (by decide) (by decide) (a_dec_at dc_B_init 117 rfl) (i_Sc_init_95 (h := h + 1)) ?_
  refine x_aast (j := 1) (by decide) (by decide) sh40 (by unfold vp_in; decide) (by decide) (by decide) sh95 (a_dec_at dc_B_init 118 rfl) ?_
  refine ev_iinc (v := 1) rfl rfl (by decide) rfl (a_dec_at dc_B_init 119 rfl) ?_
  refine ev_goto (tgt := 218) (a_dec_at dc_B_init 120 rfl) (by decide) ?_
  refine ev_iload_n (i := 1) rfl rfl (a_dec_at dc_B_init 104 rfl) ?_
  refine ev_iconst (v := 2) rfl (a_dec_at dc_B_init 105 rfl) ?_
  refine ev_icmp_ge (tgt := 253) (a_dec_at dc_B_init 106 rfl) (by decide) (fun _ => ?_) (fun q => absurd (by decide) q)
  refine ev_iconst (v := 0) rfl (a_dec_at dc_B_init 121 rfl) ?_
  refine ev_istore_n (i := 1) rfl (by decide) rfl (a_dec_at dc_B_init 122 rfl) ?_
  refine ev_iload_n (i := 1) rfl rfl (a_dec_at dc_B_init 123 rfl) ?_
  refine ev_iconst (v := 4) rfl (a_dec_at dc_B_init 124 rfl) ?_
  refine ev_icmp_ge (tgt := 279) (a_dec_at dc_B_init 125 rfl) (by decide) (fun q => absurd q (by decide)) (fun _ => ?_)
  refine ev_aload_n (i := 0) rfl rfl (a_dec_at dc_B_init 126 rfl) ?_
  refine x_getR (y := 78) fl_B_113 rfl (by decide) sh1 (by decide +kernel) (by decide) (a_dec_at dc_B_init 127 rfl) ?_
  refine ev_iload_n (i := 1) rfl rfl (a_dec_at dc_B_init 128 rfl) ?_
  refine x_new (ci := 9) (bc := 7) (bs := 169) rfl (a_m2 162 rfl rfl) (a_m2 164 rfl rfl) (a_m1 12 rfl rfl) (by decide) sh111 (by decide) (by decide +kernel) (by decide +kernel) (by decide) (a_dec_at dc_B_init 129 rfl) ?_
  refine ev_dup rfl (a_dec_at dc_B_init 130 rfl) ?_
  refine x_callIN (As := []) (b1 := 1) (s1 := 40) (bc := 6) (bs := 129) cal_Tr_init rfl cs_B_117 (a_m2 166 rfl rfl) rfl (by decide) rfl (by decide) (by decide) (by decide) (by decide) (by decide) (a_dec_at dc_B_init 131 rfl) (i_Tr_init_111 (h := h + 1)) ?_
  refine x_aast (j := 0) (by decide) (by decide) sh78 (by unfold vp_in; decide) (by decide) (by decide) sh111 (a_dec_at dc_B_init 132 rfl) ?_
  refine ev_iinc (v := 1) rfl rfl (by decide) rfl (a_dec_at dc_B_init 133 rfl) ?_
  refine ev_goto (tgt := 255) (a_dec_at dc_B_init 134 rfl) (by decide) ?_
  refine ev_iload_n (i := 1) rfl rfl (a_dec_at dc_B_init 123 rfl) ?_
  refine ev_iconst (v := 4) rfl (a_dec_at dc_B_init 124 rfl) ?_
  refine ev_icmp_ge (tgt := 279) (a_dec_at dc_B_init 125 rfl) (by decide) (fun q => absurd q (by decide)) (fun _ => ?_)
  refine ev_aload_n (i := 0) rfl rfl (a_dec_at dc_B_init 126 rfl) ?_
  refine x_getR (y := 78) fl_B_113 rfl (by decide) sh1 (by decide +kernel) (by decide) (a_dec_at dc_B_init 127 rfl) ?_
  refine ev_iload_n (i := 1) rfl rfl (a_dec_at dc_B_init 128 rfl) ?_
  refine x_new (ci := 9) (bc := 5) (bs := 126) rfl (a_m2 162 rfl rfl) (a_m2 164 rfl rfl) (a_m1 12 rfl rfl) (by decide) sh113 (by decide) (by decide +kernel) (by decide +kernel) (by decide) (a_dec_at dc_B_init 129 rfl) ?_
  refine ev_dup rfl (a_dec_at dc_B_init 130 rfl) ?_
  refine x_callIN (As := []) (b1 := 1) (s1 := 40) (bc := 4) (bs := 86) cal_Tr_init rfl cs_B_117 (a_m2 166 rfl rfl) rfl (by decide) rfl (by decide) (by decide) (by decide) (by decide) (by decide) (a_dec_at dc_B_init 131 rfl) (i_Tr_init_113 (h := h + 1)) ?_
  refine x_aast (j := 1) (by decide) (by decide) sh78 (by unfold vp_in; decide) (by decide) (by decide) sh113 (a_dec_at dc_B_init 132 rfl) ?_
  refine ev_iinc (v := 1) rfl rfl (by decide) rfl (a_dec_at dc_B_init 133 rfl) ?_
  refine ev_goto (tgt := 255) (a_dec_at dc_B_init 134 rfl) (by decide) ?_
  refine ev_iload_n (i := 1) rfl rfl (a_dec_at dc_B_init 123 rfl) ?_
  refine ev_iconst (v := 4) rfl (a_dec_at dc_B_init 124 rfl) ?_
  refine ev_icmp_ge (tgt := 279) (a_dec_at dc_B_init 125 rfl) (by decide) (fun q => absurd q (by decide)) (fun _ => ?_)
  refine ev_aload_n (i := 0) rfl rfl (a_dec_at dc_B_init 126 rfl) ?_
  refine x_getR (y := 78) fl_B_113 rfl (by decide) sh1 (by decide +kernel) (by decide) (a_dec_at dc_B_init 127 rfl) ?_
  refine ev_iload_n (i := 1) rfl rfl (a_dec_at dc_B_init 128 rfl) ?_
  refine x_new (ci := 9) (bc := 3) (bs := 83) rfl (a_m2 162 rfl rfl) (a_m2 164 rfl rfl) (a_m1 12 rfl rfl) (by decide) sh115 (by decide) (by decide +kernel) (by decide +kernel) (by decide) (a_dec_at dc_B_init 129 rfl) ?_
  refine ev_dup rfl (a_dec_at dc_B_init 130 rfl) ?_
  refine x_callIN (As := []) (b1 := 1) (s1 := 40) (bc := 2) (bs := 43) cal_Tr_init rfl cs_B_117 (a_m2 166 rfl rfl) rfl (by decide) rfl (by decide) (by decide) (by decide) (by decide) (by decide) (a_dec_at dc_B_init 131 rfl) (i_Tr_init_115 (h := h + 1)) ?_
  refine x_aast (j := 2) (by decide) (by decide) sh78 (by unfold vp_in; decide) (by decide) (by decide) sh115 (a_dec_at dc_B_init 132 rfl) ?_
  refine ev_iinc (v := 1) rfl rfl (by decide) rfl (a_dec_at dc_B_init 133 rfl) ?_
  refine ev_goto (tgt := 255) (a_dec_at dc_B_init 134 rfl) (by decide) ?_
  refine ev_iload_n (i := 1) rfl rfl (a_dec_at dc_B_init 123 rfl) ?_
  refine ev_iconst (v := 4) rfl (a_dec_at dc_B_init 124 rfl) ?_
  refine ev_icmp_ge (tgt := 279) (a_dec_at dc_B_init 125 rfl) (by decide) (fun q => absurd q (by decide)) (fun _ => ?_)
  refine ev_aload_n (i := 0) rfl rfl (a_dec_at dc_B_init 126 rfl) ?_
  refine x_getR (y := 78) fl_B_113 rfl (by decide) sh1 (by decide +kernel) (by decide) (a_dec_at dc_B_init 127 rfl) ?_
  refine ev_iload_n (i := 1) rfl rfl (a_dec_at dc_B_init 128 rfl) ?_
  refine x_new (ci := 9) (bc := 1) (bs := 40) rfl (a_m2 162 rfl rfl) (a_m2 164 rfl rfl) (a_m1 12 rfl rfl) (by decide) sh117 (by decide) (by decide +kernel) (by decide +kernel) (by decide) (a_dec_at dc_B_init 129 rfl) ?_
  refine ev_dup rfl (a_dec_at dc_B_init 130 rfl) ?_
  refine x_callIN (As := []) (b1 := 1) (s1 := 40) (bc := 0) (bs := 0) cal_Tr_init rfl cs_B_117 (a_m2 166 rfl rfl) rfl (by decide) rfl (by decide) (by decide) (by decide) (by decide) (by decide) (a_dec_at dc_B_init 131 rfl) (i_Tr_init_117 (h := h + 1)) ?_
  refine x_aast (j := 3) (by decide) (by decide) sh78 (by unfold vp_in; decide) (by decide) (by decide) sh117 (a_dec_at dc_B_init 132 rfl) ?_
  refine ev_iinc (v := 1) rfl rfl (by decide) rfl (a_dec_at dc_B_init 133 rfl) ?_
  refine ev_goto (tgt := 255) (a_dec_at dc_B_init 134 rfl) (by decide) ?_
  refine ev_iload_n (i := 1) rfl rfl (a_dec_at dc_B_init 123 rfl) ?_
  refine ev_iconst (v := 4) rfl (a_dec_at dc_B_init 124 rfl) ?_
  refine ev_icmp_ge (tgt := 279) (a_dec_at dc_B_init 125 rfl) (by decide) (fun _ => ?_) (fun q => absurd (by decide) q)
  refine ev_aload_n (i := 0) rfl rfl (a_dec_at dc_B_init 135 rfl) ?_
  refine x_getR (y := 17) fl_B_54 rfl (by decide) sh1 (by decide +kernel) (by decide) (a_dec_at dc_B_init 136 rfl) ?_
  refine x_callV (As := []) cs_B_118 (by decide) sh17 rfl (by decide) (by decide) (by decide) (a_dec_at dc_B_init 137 rfl) (i_Sc_begin_17 (h := h + 0)) ?_
  exact Ev.retV (a_dec_at dc_B_init 138 rfl) rfl ⟨rfl, rfl⟩
def li_26 : List (Nat × Nat × Int32) := (134, 3, (-1)) :: (134, 2, (-1)) :: (134, 1, (-1)) :: (134, 0, (-1)) :: (119, 27, (-1)) :: (119, 14, (-1)) :: li_25
def lr_26 : List (Nat × Nat × Nat) := (119, 34, 136) :: (119, 33, 135) :: (119, 32, 134) :: (119, 31, 133) :: (119, 28, 132) :: (119, 26, 131) :: (119, 24, 130) :: (119, 23, 129) :: (119, 19, 128) :: (119, 18, 127) :: (119, 17, 126) :: (119, 16, 125) :: (119, 15, 124) :: (119, 4, 123) :: (119, 3, 122) :: (119, 2, 121) :: (119, 1, 120) :: lr_25
set_option maxRecDepth 20000 in
theorem i_R_init_119 {l : Launch} {h : Nat} {Q : Option Value → ASt → Prop} (H : Ev l (h + 1) m_R_init 172 ([.ref 119], [.ref 120], CX 137 li_26 lr_26 0 0) Q) : Ev l (h + 1) m_R_init 0 (a_ent m_R_init.2.2.1 [.ref 119], [], CX 120 (li_25) (lr_25) 17 23195) Q := by
  show Ev l (h + 1) m_R_init 0 ([.ref 119], [], CX 120 (li_25) (lr_25) 17 23195) Q
  refine ev_aload_n (i := 0) rfl rfl (a_dec_at dc_R_init 0 rfl) ?_
  refine ev_objInit cs_R_7 (by decide) (by omega) (by decide) (a_dec_at dc_R_init 1 rfl) ?_
  refine ev_aload_n (i := 0) rfl rfl (a_dec_at dc_R_init 2 rfl) ?_
  refine ev_sipush (v := 4113) rfl (a_dec_at dc_R_init 3 rfl) ?_
  refine x_newa (kd := 0) (N := 4113) (bc := 16) (bs := 19082) (by decide) rfl (a_m1 120 rfl rfl) (by decide) (by decide) (by decide) (by decide) sh120 (by decide) (by decide +kernel) (by decide +kernel) (by decide) (a_dec_at dc_R_init 4 rfl) ?_
  refine x_putR fl_R_13 rfl (fun _ _ _ h => by cases h; exact Or.inr ⟨rfl, rfl⟩) (by decide) (by decide) sh119 (by decide) (a_dec_at dc_R_init 5 rfl) ?_
  refine ev_aload_n (i := 0) rfl rfl (a_dec_at dc_R_init 6 rfl) ?_
  refine ev_iconst (v := 2) rfl (a_dec_at dc_R_init 7 rfl) ?_
  refine x_newa (kd := 2) (N := 2) (bc := 15) (bs := 19080) (by decide) rfl (a_m2 11 rfl rfl) (by decide) (by decide) (by decide) (by decide) sh121 (by decide) (by decide +kernel) (by decide +kernel) (by decide) (a_dec_at dc_R_init 8 rfl) ?_
  refine x_putR fl_R_17 rfl (fun _ _ _ h => by cases h; exact Or.inr ⟨rfl, rfl⟩) (by decide) (by decide) sh119 (by decide) (a_dec_at dc_R_init 9 rfl) ?_
  refine ev_aload_n (i := 0) rfl rfl (a_dec_at dc_R_init 10 rfl) ?_
  refine ev_sipush (v := 900) rfl (a_dec_at dc_R_init 11 rfl) ?_
  refine x_newa (kd := 0) (N := 900) (bc := 14) (bs := 18180) (by decide) rfl (a_m1 120 rfl rfl) (by decide) (by decide) (by decide) (by decide) sh122 (by decide) (by decide +kernel) (by decide +kernel) (by decide) (a_dec_at dc_R_init 12 rfl) ?_
  refine x_putR fl_R_21 rfl (fun _ _ _ h => by cases h; exact Or.inr ⟨rfl, rfl⟩) (by decide) (by decide) sh119 (by decide) (a_dec_at dc_R_init 13 rfl) ?_
  refine ev_aload_n (i := 0) rfl rfl (a_dec_at dc_R_init 14 rfl) ?_
  refine ev_sipush (v := 1371) rfl (a_dec_at dc_R_init 15 rfl) ?_
  refine x_newa (kd := 0) (N := 1371) (bc := 13) (bs := 16809) (by decide) rfl (a_m1 120 rfl rfl) (by decide) (by decide) (by decide) (by decide) sh123 (by decide) (by decide +kernel) (by decide +kernel) (by decide) (a_dec_at dc_R_init 16 rfl) ?_
  refine x_putR fl_R_24 rfl (fun _ _ _ h => by cases h; exact Or.inr ⟨rfl, rfl⟩) (by decide) (by decide) sh119 (by decide) (a_dec_at dc_R_init 17 rfl) ?_
  refine ev_aload_n (i := 0) rfl rfl (a_dec_at dc_R_init 18 rfl) ?_
  refine ev_iconst (v := (-1)) rfl (a_dec_at dc_R_init 19 rfl) ?_
  refine x_putI fl_R_27 rfl (fun _ _ _ h => by cases h; exact Or.inl rfl) (by decide) sh119 (a_dec_at dc_R_init 20 rfl) ?_
  refine ev_aload_n (i := 0) rfl rfl (a_dec_at dc_R_init 21 rfl) ?_
  refine ev_sipush (v := 900) rfl (a_dec_at dc_R_init 22 rfl) ?_
  refine x_newa (kd := 0) (N := 900) (bc := 12) (bs := 15909) (by decide) rfl (a_m1 120 rfl rfl) (by decide) (by decide) (by decide) (by decide) sh124 (by decide) (by decide +kernel) (by decide +kernel) (by decide) (a_dec_at dc_R_init 23 rfl) ?_
  refine x_putR fl_R_30 rfl (fun _ _ _ h => by cases h; exact Or.inr ⟨rfl, rfl⟩) (by decide) (by decide) sh119 (by decide) (a_dec_at dc_R_init 24 rfl) ?_
  refine ev_aload_n (i := 0) rfl rfl (a_dec_at dc_R_init 25 rfl) ?_
  refine ev_bipush (v := 6) rfl (a_dec_at dc_R_init 26 rfl) ?_
  refine x_newa (kd := 0) (N := 6) (bc := 11) (bs := 15903) (by decide) rfl (a_m1 120 rfl rfl) (by decide) (by decide) (by decide) (by decide) sh125 (by decide) (by decide +kernel) (by decide +kernel) (by decide) (a_dec_at dc_R_init 27 rfl) ?_
  refine x_putR fl_R_33 rfl (fun _ _ _ h => by cases h; exact Or.inr ⟨rfl, rfl⟩) (by decide) (by decide) sh119 (by decide) (a_dec_at dc_R_init 28 rfl) ?_
  refine ev_aload_n (i := 0) rfl rfl (a_dec_at dc_R_init 29 rfl) ?_
  refine ev_bipush (v := 24) rfl (a_dec_at dc_R_init 30 rfl) ?_
  refine x_newa (kd := 0) (N := 24) (bc := 10) (bs := 15879) (by decide) rfl (a_m1 120 rfl rfl) (by decide) (by decide) (by decide) (by decide) sh126 (by decide) (by decide +kernel) (by decide +kernel) (by decide) (a_dec_at dc_R_init 31 rfl) ?_
  refine x_putR fl_R_36 rfl (fun _ _ _ h => by cases h; exact Or.inr ⟨rfl, rfl⟩) (by decide) (by decide) sh119 (by decide) (a_dec_at dc_R_init 32 rfl) ?_
  refine ev_aload_n (i := 0) rfl rfl (a_dec_at dc_R_init 33 rfl) ?_
  refine ev_bipush (v := 24) rfl (a_dec_at dc_R_init 34 rfl) ?_
  refine x_newa (kd := 0) (N := 24) (bc := 9) (bs := 15855) (by decide) rfl (a_m1 120 rfl rfl) (by decide) (by decide) (by decide) (by decide) sh127 (by decide) (by decide +kernel) (by decide +kernel) (by decide) (a_dec_at dc_R_init 35 rfl) ?_
  refine x_putR fl_R_39 rfl (fun _ _ _ h => by cases h; exact Or.inr ⟨rfl, rfl⟩) (by decide) (by decide) sh119 (by decide) (a_dec_at dc_R_init 36 rfl) ?_
  refine ev_aload_n (i := 0) rfl rfl (a_dec_at dc_R_init 37 rfl) ?_
  refine ev_bipush (v := 40) rfl (a_dec_at dc_R_init 38 rfl) ?_
  refine x_newa (kd := 0) (N := 40) (bc := 8) (bs := 15815) (by decide) rfl (a_m1 120 rfl rfl) (by decide) (by decide) (by decide) (by decide) sh128 (by decide) (by decide +kernel) (by decide +kernel) (by decide) (a_dec_at dc_R_init 39 rfl) ?_
  refine x_putR fl_R_42 rfl (fun _ _ _ h => by cases h; exact Or.inr ⟨rfl, rfl⟩) (by decide) (by decide) sh119 (by decide) (a_dec_at dc_R_init 40 rfl) ?_
  refine ev_aload_n (i := 0) rfl rfl (a_dec_at dc_R_init 41 rfl) ?_
  refine ev_bipush (v := 6) rfl (a_dec_at dc_R_init 42 rfl) ?_
  refine x_newa (kd := 0) (N := 6) (bc := 7) (bs := 15809) (by decide) rfl (a_m1 120 rfl rfl) (by decide) (by decide) (by decide) (by decide) sh129 (by decide) (by decide +kernel) (by decide +kernel) (by decide) (a_dec_at dc_R_init 43 rfl) ?_
  refine x_putR fl_R_45 rfl (fun _ _ _ h => by cases h; exact Or.inr ⟨rfl, rfl⟩) (by decide) (by decide) sh119 (by decide) (a_dec_at dc_R_init 44 rfl) ?_
  refine ev_aload_n (i := 0) rfl rfl (a_dec_at dc_R_init 45 rfl) ?_
  refine ev_sipush (v := 15625) rfl (a_dec_at dc_R_init 46 rfl) ?_
  refine x_newa (kd := 0) (N := 15625) (bc := 6) (bs := 184) (by decide) rfl (a_m1 120 rfl rfl) (by decide) (by decide) (by decide) (by decide) sh130 (by decide) (by decide +kernel) (by decide +kernel) (by decide) (a_dec_at dc_R_init 47 rfl) ?_
  refine x_putR fl_R_48 rfl (fun _ _ _ h => by cases h; exact Or.inr ⟨rfl, rfl⟩) (by decide) (by decide) sh119 (by decide) (a_dec_at dc_R_init 48 rfl) ?_
  refine ev_aload_n (i := 0) rfl rfl (a_dec_at dc_R_init 49 rfl) ?_
  refine ev_bipush (v := 6) rfl (a_dec_at dc_R_init 50 rfl) ?_
  refine x_newa (kd := 0) (N := 6) (bc := 5) (bs := 178) (by decide) rfl (a_m1 120 rfl rfl) (by decide) (by decide) (by decide) (by decide) sh131 (by decide) (by decide +kernel) (by decide +kernel) (by decide) (a_dec_at dc_R_init 51 rfl) ?_
  refine x_putR fl_R_51 rfl (fun _ _ _ h => by cases h; exact Or.inr ⟨rfl, rfl⟩) (by decide) (by decide) sh119 (by decide) (a_dec_at dc_R_init 52 rfl) ?_
  refine ev_aload_n (i := 0) rfl rfl (a_dec_at dc_R_init 53 rfl) ?_
  refine ev_iconst (v := (-1)) rfl (a_dec_at dc_R_init 54 rfl) ?_
  refine x_putI fl_R_54 rfl (fun _ _ _ h => by cases h; exact Or.inl rfl) (by decide) sh119 (a_dec_at dc_R_init 55 rfl) ?_
  refine ev_aload_n (i := 0) rfl rfl (a_dec_at dc_R_init 56 rfl) ?_
  refine ev_iconst (v := 4) rfl (a_dec_at dc_R_init 57 rfl) ?_
  refine x_newa (kd := 0) (N := 4) (bc := 4) (bs := 174) (by decide) rfl (a_m1 120 rfl rfl) (by decide) (by decide) (by decide) (by decide) sh132 (by decide) (by decide +kernel) (by decide +kernel) (by decide) (a_dec_at dc_R_init 58 rfl) ?_
  refine x_putR fl_R_57 rfl (fun _ _ _ h => by cases h; exact Or.inr ⟨rfl, rfl⟩) (by decide) (by decide) sh119 (by decide) (a_dec_at dc_R_init 59 rfl) ?_
  refine ev_aload_n (i := 0) rfl rfl (a_dec_at dc_R_init 60 rfl) ?_
  refine ev_bipush (v := 6) rfl (a_dec_at dc_R_init 61 rfl) ?_
  refine x_newa (kd := 0) (N := 6) (bc := 3) (bs := 168) (by decide) rfl (a_m1 120 rfl rfl) (by decide) (by decide) (by decide) (by decide) sh133 (by decide) (by decide +kernel) (by decide +kernel) (by decide) (a_dec_at dc_R_init 62 rfl) ?_
  refine x_putR fl_R_60 rfl (fun _ _ _ h => by cases h; exact Or.inr ⟨rfl, rfl⟩) (by decide) (by decide) sh119 (by decide) (a_dec_at dc_R_init 63 rfl) ?_
  refine ev_aload_n (i := 0) rfl rfl (a_dec_at dc_R_init 64 rfl) ?_
  refine ev_iconst (v := 4) rfl (a_dec_at dc_R_init 65 rfl) ?_
  refine x_newa (kd := 0) (N := 4) (bc := 2) (bs := 164) (by decide) rfl (a_m1 120 rfl rfl) (by decide) (by decide) (by decide) (by decide) sh134 (by decide) (by decide +kernel) (by decide +kernel) (by decide) (a_dec_at dc_R_init 66 rfl) ?_
  refine ev_dup rfl (a_dec_at dc_R_init 67 rfl) ?_
  refine ev_iconst (v := 0) rfl (a_dec_at dc_R_init 68 rfl) ?_
  refine ev_iconst (v := (-1)) rfl (a_dec_at dc_R_init 69 rfl) ?_
  refine x_iast (j := 0) (by decide) sh134 (by unfold vp_in; decide) (by decide) (a_dec_at dc_R_init 70 rfl) ?_
  refine ev_dup rfl (a_dec_at dc_R_init 71 rfl) ?_
  refine ev_iconst (v := 1) rfl (a_dec_at dc_R_init 72 rfl) ?_
  refine ev_iconst (v := (-1)) rfl (a_dec_at dc_R_init 73 rfl) ?_
  refine x_iast (j := 1) (by decide) sh134 (by unfold vp_in; decide) (by decide) (a_dec_at dc_R_init 74 rfl) ?_
  refine ev_dup rfl (a_dec_at dc_R_init 75 rfl) ?_
  refine ev_iconst (v := 2) rfl (a_dec_at dc_R_init 76 rfl) ?_
  refine ev_iconst (v := (-1)) rfl (a_dec_at dc_R_init 77 rfl) ?_
  refine x_iast (j := 2) (by decide) sh134 (by unfold vp_in; decide) (by decide) (a_dec_at dc_R_init 78 rfl) ?_
  refine ev_dup rfl (a_dec_at dc_R_init 79 rfl) ?_
  refine ev_iconst (v := 3) rfl (a_dec_at dc_R_init 80 rfl) ?_
  refine ev_iconst (v := (-1)) rfl (a_dec_at dc_R_init 81 rfl) ?_
  refine x_iast (j := 3) (by decide) sh134 (by unfold vp_in; decide) (by decide) (a_dec_at dc_R_init 82 rfl) ?_
  refine x_putR fl_R_63 rfl (fun _ _ _ h => by cases h; exact Or.inr ⟨rfl, rfl⟩) (by decide) (by decide) sh119 (by decide) (a_dec_at dc_R_init 83 rfl) ?_
  refine ev_aload_n (i := 0) rfl rfl (a_dec_at dc_R_init 84 rfl) ?_
  refine ev_iconst (v := 4) rfl (a_dec_at dc_R_init 85 rfl) ?_
  refine x_newa (kd := 0) (N := 4) (bc := 1) (bs := 160) (by decide) rfl (a_m1 120 rfl rfl) (by decide) (by decide) (by decide) (by decide) sh135 (by decide) (by decide +kernel) (by decide +kernel) (by decide) (a_dec_at dc_R_init 86 rfl) ?_
  refine x_putR fl_R_66 rfl (fun _ _ _ h => by cases h; exact Or.inr ⟨rfl, rfl⟩) (by decide) (by decide) sh119 (by decide) (a_dec_at dc_R_init 87 rfl) ?_
  refine ev_aload_n (i := 0) rfl rfl (a_dec_at dc_R_init 88 rfl) ?_
  refine ev_sipush (v := 160) rfl (a_dec_at dc_R_init 89 rfl) ?_
  refine x_newa (kd := 3) (N := 160) (bc := 0) (bs := 0) (by decide) rfl (a_m2 181 rfl rfl) (by decide) (by decide) (by decide) (by decide) sh136 (by decide) (by decide +kernel) (by decide +kernel) (by decide) (a_dec_at dc_R_init 90 rfl) ?_
  refine x_putR fl_R_69 rfl (fun _ _ _ h => by cases h; exact Or.inr ⟨rfl, rfl⟩) (by decide) (by decide) sh119 (by decide) (a_dec_at dc_R_init 91 rfl) ?_
  refine ev_aload_n (i := 0) rfl rfl (a_dec_at dc_R_init 92 rfl) ?_
  refine x_getR (y := 120) fl_R_13 rfl (by decide) sh119 (by decide +kernel) (by decide) (a_dec_at dc_R_init 93 rfl) ?_
  exact H
