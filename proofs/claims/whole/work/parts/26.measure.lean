/-! ===== measuring: likes and takes of a scene by the laws ===== -/
def wds (b : Nat) (fl mk : Int32) (r : Nat) (nm gf : Int32) (k : Nat) : Int32 := match k with
  | 0 => nI b
  | 1 => fl
  | 2 => mk
  | 3 => nI r
  | 4 => nm
  | _ => gf
theorem wdR_wds (g : Nat → Int32) (b r : Nat) : wdR g b r = wds b (g (35 + b)) (g (9 + b)) r (g (21 + r)) (g (45 + 6 * r + b)) := by
  funext k
  match k with
  | 0 => rfl
  | 1 => rfl
  | 2 => rfl
  | 3 => rfl
  | 4 => rfl
  | k + 5 => rfl
/-- the land that is -/
def Ld (mi : TMi) (B R : Nat) (fL fT : (Nat → Int32) → Int32) : Prop := mi 18 0 = nI B ∧ B ≤ 6 ∧ mi 18 1 = nI R ∧ R ≤ 4 ∧ CLaw (mi 26) (mi 18 12) fL ∧ CLaw (mi 26) (mi 18 13) fT
theorem Ld.fr {mi mi' : TMi} {B R : Nat} {fL fT : (Nat → Int32) → Int32} (h : Ld mi B R fL fT) (e1 : mi' 18 = mi 18) (e2 : mi' 26 = mi 26) : Ld mi' B R fL fT := by
  unfold Ld
  rw [e1, e2]
  exact h
def Ms (mi : TMi) (c : Nat) (fL fT : (Nat → Int32) → Int32) (L T : Nat → Nat → Int) (b r : Nat) (mk gf : Int32) : Prop := okW (wds b (mi c (6 + b)) mk r (mi 24 r) gf) ∧ L b r = (fL (wds b (mi c (6 + b)) mk r (mi 24 r) gf)).toInt ∧ T b r = (fT (wds b (mi c (6 + b)) mk r (mi 24 r) gf)).toInt
theorem SLp.mono {mi : TMi} {lk tk bo ro mu B R : Nat} {P P' : Nat → Nat → Prop} {L T : Nat → Nat → Int} (h : SLp mi lk tk bo ro mu B R P L T) (k : ∀ b r, b < B → r < R → P' b r → P b r) : SLp mi lk tk bo ro mu B R P' L T :=
  ⟨fun b r hb hr hp => h.1 b r hb hr (k b r hb hr hp), fun b hb => by
    obtain ⟨m, h1, h2, h3⟩ := h.2 b hb
    exact ⟨m, h1, h2, fun r hr hp => h3 r hr (k b r hb hr hp)⟩⟩
theorem up15 {n : Nat} (h : n ≠ 15) (m : TMi) (k : Nat) (x : Int32) : up m 15 k x n = m n := up_ne m k x h
theorem c_Sc_measure_17 {l : Launch} {h : Nat} {mi : TMi} {ml : TMl} {z : Nat} {b r B R : Nat} {mk gf : Int32} {fL fT : (Nat → Int32) → Int32} {P : Nat → Nat → Prop} {L T : Nat → Nat → Int} {Q : TMi → TMl → Nat → Prop} (hl : Ld mi B R fL fT) (hb : b < B) (hr : r < R) (hm : Ms mi 27 fL fT L T b r mk gf) (hs : SLp mi 28 29 30 31 32 B R P L T)
    (hq : ∀ mi', Fr [15, 16, 28, 29, 30, 31, 32] mi mi' → SLp mi' 28 29 30 31 32 B R (fun b' r' => P b' r' ∨ (b' = b ∧ r' = r)) L T → Q mi' ml z) : CV l (h + 3) m_Sc_measure [.ref 17, .int (nI b), .int (nI r), .int mk, .int gf] mi ml z Q := by
  obtain ⟨hB, hB6, hR, hR4, hL, hT⟩ := hl
  obtain ⟨hW, hx, hy⟩ := hm
  refine t_Sc_measure_17 mi ml z _ _ _ _ (t_Sc_flowOf_17 _ _ _ _ ⟨in_addL (a := 6) (by omega) (by decide), ?_⟩)
  rw [addL_cl 6 b (by omega)]
  refine t_Lw_setBeck _ _ _ _ _ _ ⟨in_nI (by omega) (by decide), t_Lw_setRiver _ _ _ _ _ _ ?_⟩
  rw [cl_nI (by omega)]
  simp only [up15 (show 24 ≠ 15 by decide), up15 (show 18 ≠ 15 by decide)]
  have F4 : Fr [15] mi (up (up (up (up (up (up mi 15 0 (nI b)) 15 1 (mi 27 (6 + b))) 15 2 mk) 15 3 (nI r)) 15 4 (mi 24 r)) 15 5 gf) := fun n hn => by
    have : n ≠ 15 := by simpa using hn
    simp only [up15 this]
  have W4 : ∀ j, j < 6 → (up (up (up (up (up (up mi 15 0 (nI b)) 15 1 (mi 27 (6 + b))) 15 2 mk) 15 3 (nI r)) 15 4 (mi 24 r)) 15 5 gf) 15 j = wds b (mi 27 (6 + b)) mk r (mi 24 r) gf j := by
    intro j hj
    match j, hj with
    | 0, _ => simp [up_eq, wds]
    | 1, _ => simp [up_eq, wds]
    | 2, _ => simp [up_eq, wds]
    | 3, _ => simp [up_eq, wds]
    | 4, _ => simp [up_eq, wds]
    | 5, _ => simp [up_eq, wds]
  generalize (up (up (up (up (up (up mi 15 0 (nI b)) 15 1 (mi 27 (6 + b))) 15 2 mk) 15 3 (nI r)) 15 4 (mi 24 r)) 15 5 gf) = mi4 at F4 W4 ⊢
  refine c_Lw_value hW W4 (by rw [F4 26 (by decide)]; exact hL) (fun mi5 F5 => ?_)
  rw [F5 18 (by decide), F4 18 (by decide)]
  refine c_Lw_value hW (fun j hj => by rw [F5 15 (by decide)]; exact W4 j hj) (by rw [F5 26 (by decide), F4 26 (by decide)]; exact hT) (fun mi6 F6 => ?_)
  have F : ∀ n, n ≠ 15 → n ≠ 16 → mi6 n = mi n := fun n h1 h2 => by rw [F6 n (by simpa using h2), F5 n (by simpa using h2), F4 n (by simpa using h1)]
  refine c_Sc_setLiking_17 hB6 hR4 (hs.fr (F _ (by decide) (by decide)) (F _ (by decide) (by decide)) (F _ (by decide) (by decide)) (F _ (by decide) (by decide)) (F _ (by decide) (by decide))) hb hr hx.symm hy.symm (by rw [hx]; exact CLaw_bd hL hW) (by rw [hy]; exact CLaw_bd hT hW) (fun mi7 F7 h7 => hq mi7 (fun n hn => ?_) h7)
  simp only [List.mem_cons, List.mem_nil_iff, or_false, not_or] at hn
  rw [F7 n (by simp only [List.mem_cons, List.mem_nil_iff, or_false, not_or]; exact hn.2.2), F n hn.1 hn.2.1]
theorem c_Sc_measureBeck_17 {l : Launch} {h : Nat} {mi : TMi} {ml : TMl} {z : Nat} {b B R : Nat} {mk : Int32} {fL fT : (Nat → Int32) → Int32} {P : Nat → Nat → Prop} {L T : Nat → Nat → Int} {Q : TMi → TMl → Nat → Prop} (hl : Ld mi B R fL fT) (hb : b < B) (hm : ∀ r, r < R → Ms mi 27 fL fT L T b r mk (mi 27 (16 + (4 * b + r)))) (hs : SLp mi 28 29 30 31 32 B R P L T)
    (hq : ∀ mi', Fr [15, 16, 28, 29, 30, 31, 32] mi mi' → SLp mi' 28 29 30 31 32 B R (fun b' r' => P b' r' ∨ b' = b) L T → Q mi' ml z) : CV l (h + 4) m_Sc_measureBeck [.ref 17, .int (nI b), .int mk] mi ml z Q := by
  have hB6 := hl.2.1
  have hR4 := hl.2.2.2.1
  refine t_Sc_measureBeck_17 mi ml z _ _ ?_
  have key : ∀ k i m, i + k = R → Fr [15, 16, 28, 29, 30, 31, 32] mi m → SLp m 28 29 30 31 32 B R (fun b' r' => P b' r' ∨ (b' = b ∧ r' < i)) L T → Ev l (h + 4) m_Sc_measureBeck 2 ([.ref 17, .int (nI b), .int mk, .int (nI i)], [], st m ml z) (qV Q) := by
    intro k
    induction k with
    | zero =>
      intro i m hi F hs'
      have : i = R := by omega
      subst this
      exact t_Sc_measureBeck_17_2 m ml z _ _ _ ⟨fun _ => hq m F (hs'.mono (fun b' r' _ hr' hp => hp.imp id (fun e => ⟨e, hr'⟩))), fun c => absurd (by rw [F 18 (by decide), hl.2.2.1]; exact nI_le (Nat.le_refl _) (by omega)) c⟩
    | succ k ih =>
      intro i m hi F hs'
      have hir : i < R := by omega
      refine t_Sc_measureBeck_17_2 m ml z _ _ _ ⟨fun c => ?_, fun _ => t_Sc_giftsOf_17 _ _ _ _ _ (t_B_pair _ _ _ _ _ ?_)⟩
      · rw [F 18 (by decide), hl.2.2.1] at c
        exact absurd c (nI_ge (by omega) (by omega))
      · rw [mul4]
        refine ⟨in_addL (a := 16) (by omega) (by decide), ?_⟩
        rw [addL_cl 16 _ (by omega), F 27 (by decide)]
        refine c_Sc_measure_17 (hl.fr (F 18 (by decide)) (F 26 (by decide))) hb hir (by unfold Ms; rw [F 27 (by decide), F 24 (by decide)]; exact hm i hir) hs' (fun m' F' h' => ?_)
        rw [nI_1]
        refine ih (i + 1) m' (by omega) (F.step F') (h'.mono (fun b' r' _ _ hp => ?_))
        rcases hp with q | ⟨q1, q2⟩
        · exact Or.inl (Or.inl q)
        · rcases (show r' = i ∨ r' < i by omega) with q3 | q3
          · exact Or.inr ⟨q1, q3⟩
          · exact Or.inl (Or.inr ⟨q1, q3⟩)
  exact key R 0 mi (by omega) (Fr.refl _ _) (hs.mono (fun b' r' _ _ hp => hp.elim id (fun e => absurd e.2 (Nat.not_lt_zero _))))
theorem c_Sc_measureAll_17 {l : Launch} {h : Nat} {mi : TMi} {ml : TMl} {z : Nat} {B R : Nat} {fL fT : (Nat → Int32) → Int32} {P : Nat → Nat → Prop} {L T : Nat → Nat → Int} {Q : TMi → TMl → Nat → Prop} (hl : Ld mi B R fL fT) (hm : ∀ b r, b < B → r < R → Ms mi 27 fL fT L T b r (mi 20 b) (mi 27 (16 + (4 * b + r)))) (hs : SLp mi 28 29 30 31 32 B R P L T)
    (hq : ∀ mi', Fr [15, 16, 28, 29, 30, 31, 32] mi mi' → SLp mi' 28 29 30 31 32 B R allP L T → Q mi' ml z) : CV l (h + 5) m_Sc_measureAll [.ref 17] mi ml z Q := by
  have hB6 := hl.2.1
  have hR4 := hl.2.2.2.1
  refine t_Sc_measureAll_17 mi ml z ?_
  have key : ∀ k i m, i + k = B → Fr [15, 16, 28, 29, 30, 31, 32] mi m → SLp m 28 29 30 31 32 B R (fun b' _ => b' < i) L T → Ev l (h + 5) m_Sc_measureAll 2 ([.ref 17, .int (nI i)], [], st m ml z) (qV Q) := by
    intro k
    induction k with
    | zero =>
      intro i m hi F hs'
      have : i = B := by omega
      subst this
      exact t_Sc_measureAll_17_2 m ml z _ ⟨fun _ => hq m F (hs'.mono (fun b' r' hb' _ _ => hb')), fun c => absurd (by rw [F 18 (by decide), hl.1]; exact nI_le (Nat.le_refl _) (by omega)) c⟩
    | succ k ih =>
      intro i m hi F hs'
      have hib : i < B := by omega
      refine t_Sc_measureAll_17_2 m ml z _ ⟨fun c => ?_, fun _ => ⟨in_nI (by omega) (by decide), ?_⟩⟩
      · rw [F 18 (by decide), hl.1] at c
        exact absurd c (nI_ge (by omega) (by omega))
      · rw [cl_nI (by omega), F 20 (by decide)]
        refine c_Sc_measureBeck_17 (hl.fr (F 18 (by decide)) (F 26 (by decide))) hib (fun r hr => by unfold Ms; rw [F 27 (by decide), F 24 (by decide)]; exact hm i r hib hr) hs' (fun m' F' h' => ?_)
        rw [nI_1]
        exact ih (i + 1) m' (by omega) (F.step F') (h'.mono (fun b' r' _ _ hp => by omega))
  exact key B 0 mi (by omega) (Fr.refl _ _) (hs.mono (fun b' r' _ _ hp => absurd hp (Nat.not_lt_zero _)))
theorem c_Sc_measure_33 {l : Launch} {h : Nat} {mi : TMi} {ml : TMl} {z : Nat} {b r B R : Nat} {mk gf : Int32} {fL fT : (Nat → Int32) → Int32} {P : Nat → Nat → Prop} {L T : Nat → Nat → Int} {Q : TMi → TMl → Nat → Prop} (hl : Ld mi B R fL fT) (hb : b < B) (hr : r < R) (hm : Ms mi 34 fL fT L T b r mk gf) (hs : SLp mi 35 36 37 38 39 B R P L T)
    (hq : ∀ mi', Fr [15, 16, 35, 36, 37, 38, 39] mi mi' → SLp mi' 35 36 37 38 39 B R (fun b' r' => P b' r' ∨ (b' = b ∧ r' = r)) L T → Q mi' ml z) : CV l (h + 3) m_Sc_measure [.ref 33, .int (nI b), .int (nI r), .int mk, .int gf] mi ml z Q := by
  obtain ⟨hB, hB6, hR, hR4, hL, hT⟩ := hl
  obtain ⟨hW, hx, hy⟩ := hm
  refine t_Sc_measure_33 mi ml z _ _ _ _ (t_Sc_flowOf_33 _ _ _ _ ⟨in_addL (a := 6) (by omega) (by decide), ?_⟩)
  rw [addL_cl 6 b (by omega)]
  refine t_Lw_setBeck _ _ _ _ _ _ ⟨in_nI (by omega) (by decide), t_Lw_setRiver _ _ _ _ _ _ ?_⟩
  rw [cl_nI (by omega)]
  simp only [up15 (show 24 ≠ 15 by decide), up15 (show 18 ≠ 15 by decide)]
  have F4 : Fr [15] mi (up (up (up (up (up (up mi 15 0 (nI b)) 15 1 (mi 34 (6 + b))) 15 2 mk) 15 3 (nI r)) 15 4 (mi 24 r)) 15 5 gf) := fun n hn => by
    have : n ≠ 15 := by simpa using hn
    simp only [up15 this]
  have W4 : ∀ j, j < 6 → (up (up (up (up (up (up mi 15 0 (nI b)) 15 1 (mi 34 (6 + b))) 15 2 mk) 15 3 (nI r)) 15 4 (mi 24 r)) 15 5 gf) 15 j = wds b (mi 34 (6 + b)) mk r (mi 24 r) gf j := by
    intro j hj
    match j, hj with
    | 0, _ => simp [up_eq, wds]
    | 1, _ => simp [up_eq, wds]
    | 2, _ => simp [up_eq, wds]
    | 3, _ => simp [up_eq, wds]
    | 4, _ => simp [up_eq, wds]
    | 5, _ => simp [up_eq, wds]
  generalize (up (up (up (up (up (up mi 15 0 (nI b)) 15 1 (mi 34 (6 + b))) 15 2 mk) 15 3 (nI r)) 15 4 (mi 24 r)) 15 5 gf) = mi4 at F4 W4 ⊢
  refine c_Lw_value hW W4 (by rw [F4 26 (by decide)]; exact hL) (fun mi5 F5 => ?_)
  rw [F5 18 (by decide), F4 18 (by decide)]
  refine c_Lw_value hW (fun j hj => by rw [F5 15 (by decide)]; exact W4 j hj) (by rw [F5 26 (by decide), F4 26 (by decide)]; exact hT) (fun mi6 F6 => ?_)
  have F : ∀ n, n ≠ 15 → n ≠ 16 → mi6 n = mi n := fun n h1 h2 => by rw [F6 n (by simpa using h2), F5 n (by simpa using h2), F4 n (by simpa using h1)]
  refine c_Sc_setLiking_33 hB6 hR4 (hs.fr (F _ (by decide) (by decide)) (F _ (by decide) (by decide)) (F _ (by decide) (by decide)) (F _ (by decide) (by decide)) (F _ (by decide) (by decide))) hb hr hx.symm hy.symm (by rw [hx]; exact CLaw_bd hL hW) (by rw [hy]; exact CLaw_bd hT hW) (fun mi7 F7 h7 => hq mi7 (fun n hn => ?_) h7)
  simp only [List.mem_cons, List.mem_nil_iff, or_false, not_or] at hn
  rw [F7 n (by simp only [List.mem_cons, List.mem_nil_iff, or_false, not_or]; exact hn.2.2), F n hn.1 hn.2.1]
theorem c_Sc_measureBeck_33 {l : Launch} {h : Nat} {mi : TMi} {ml : TMl} {z : Nat} {b B R : Nat} {mk : Int32} {fL fT : (Nat → Int32) → Int32} {P : Nat → Nat → Prop} {L T : Nat → Nat → Int} {Q : TMi → TMl → Nat → Prop} (hl : Ld mi B R fL fT) (hb : b < B) (hm : ∀ r, r < R → Ms mi 34 fL fT L T b r mk (mi 34 (16 + (4 * b + r)))) (hs : SLp mi 35 36 37 38 39 B R P L T)
    (hq : ∀ mi', Fr [15, 16, 35, 36, 37, 38, 39] mi mi' → SLp mi' 35 36 37 38 39 B R (fun b' r' => P b' r' ∨ b' = b) L T → Q mi' ml z) : CV l (h + 4) m_Sc_measureBeck [.ref 33, .int (nI b), .int mk] mi ml z Q := by
  have hB6 := hl.2.1
  have hR4 := hl.2.2.2.1
  refine t_Sc_measureBeck_33 mi ml z _ _ ?_
  have key : ∀ k i m, i + k = R → Fr [15, 16, 35, 36, 37, 38, 39] mi m → SLp m 35 36 37 38 39 B R (fun b' r' => P b' r' ∨ (b' = b ∧ r' < i)) L T → Ev l (h + 4) m_Sc_measureBeck 2 ([.ref 33, .int (nI b), .int mk, .int (nI i)], [], st m ml z) (qV Q) := by
    intro k
    induction k with
    | zero =>
      intro i m hi F hs'
      have : i = R := by omega
      subst this
      exact t_Sc_measureBeck_33_2 m ml z _ _ _ ⟨fun _ => hq m F (hs'.mono (fun b' r' _ hr' hp => hp.imp id (fun e => ⟨e, hr'⟩))), fun c => absurd (by rw [F 18 (by decide), hl.2.2.1]; exact nI_le (Nat.le_refl _) (by omega)) c⟩
    | succ k ih =>
      intro i m hi F hs'
      have hir : i < R := by omega
      refine t_Sc_measureBeck_33_2 m ml z _ _ _ ⟨fun c => ?_, fun _ => t_Sc_giftsOf_33 _ _ _ _ _ (t_B_pair _ _ _ _ _ ?_)⟩
      · rw [F 18 (by decide), hl.2.2.1] at c
        exact absurd c (nI_ge (by omega) (by omega))
      · rw [mul4]
        refine ⟨in_addL (a := 16) (by omega) (by decide), ?_⟩
        rw [addL_cl 16 _ (by omega), F 34 (by decide)]
        refine c_Sc_measure_33 (hl.fr (F 18 (by decide)) (F 26 (by decide))) hb hir (by unfold Ms; rw [F 34 (by decide), F 24 (by decide)]; exact hm i hir) hs' (fun m' F' h' => ?_)
        rw [nI_1]
        refine ih (i + 1) m' (by omega) (F.step F') (h'.mono (fun b' r' _ _ hp => ?_))
        rcases hp with q | ⟨q1, q2⟩
        · exact Or.inl (Or.inl q)
        · rcases (show r' = i ∨ r' < i by omega) with q3 | q3
          · exact Or.inr ⟨q1, q3⟩
          · exact Or.inl (Or.inr ⟨q1, q3⟩)
  exact key R 0 mi (by omega) (Fr.refl _ _) (hs.mono (fun b' r' _ _ hp => hp.elim id (fun e => absurd e.2 (Nat.not_lt_zero _))))
theorem c_Sc_measureAll_33 {l : Launch} {h : Nat} {mi : TMi} {ml : TMl} {z : Nat} {B R : Nat} {fL fT : (Nat → Int32) → Int32} {P : Nat → Nat → Prop} {L T : Nat → Nat → Int} {Q : TMi → TMl → Nat → Prop} (hl : Ld mi B R fL fT) (hm : ∀ b r, b < B → r < R → Ms mi 34 fL fT L T b r (mi 20 b) (mi 34 (16 + (4 * b + r)))) (hs : SLp mi 35 36 37 38 39 B R P L T)
    (hq : ∀ mi', Fr [15, 16, 35, 36, 37, 38, 39] mi mi' → SLp mi' 35 36 37 38 39 B R allP L T → Q mi' ml z) : CV l (h + 5) m_Sc_measureAll [.ref 33] mi ml z Q := by
  have hB6 := hl.2.1
  have hR4 := hl.2.2.2.1
  refine t_Sc_measureAll_33 mi ml z ?_
  have key : ∀ k i m, i + k = B → Fr [15, 16, 35, 36, 37, 38, 39] mi m → SLp m 35 36 37 38 39 B R (fun b' _ => b' < i) L T → Ev l (h + 5) m_Sc_measureAll 2 ([.ref 33, .int (nI i)], [], st m ml z) (qV Q) := by
    intro k
    induction k with
    | zero =>
      intro i m hi F hs'
      have : i = B := by omega
      subst this
      exact t_Sc_measureAll_33_2 m ml z _ ⟨fun _ => hq m F (hs'.mono (fun b' r' hb' _ _ => hb')), fun c => absurd (by rw [F 18 (by decide), hl.1]; exact nI_le (Nat.le_refl _) (by omega)) c⟩
    | succ k ih =>
      intro i m hi F hs'
      have hib : i < B := by omega
      refine t_Sc_measureAll_33_2 m ml z _ ⟨fun c => ?_, fun _ => ⟨in_nI (by omega) (by decide), ?_⟩⟩
      · rw [F 18 (by decide), hl.1] at c
        exact absurd c (nI_ge (by omega) (by omega))
      · rw [cl_nI (by omega), F 20 (by decide)]
        refine c_Sc_measureBeck_33 (hl.fr (F 18 (by decide)) (F 26 (by decide))) hib (fun r hr => by unfold Ms; rw [F 34 (by decide), F 24 (by decide)]; exact hm i r hib hr) hs' (fun m' F' h' => ?_)
        rw [nI_1]
        exact ih (i + 1) m' (by omega) (F.step F') (h'.mono (fun b' r' _ _ hp => by omega))
  exact key B 0 mi (by omega) (Fr.refl _ _) (hs.mono (fun b' r' _ _ hp => absurd hp (Nat.not_lt_zero _)))
