/-! ===== the class reads lines ===== -/
def LQ (tp : Nat → Nat) (n : Nat) (mi mi' : TMi) (s : PS) (r : PS × Ln × Dt) : Prop := CP mi' tp n r.1 ∧ Fr DN mi mi' ∧ zQ s ≤ zQ r.1 ∧ (zF r.1 = 0 → zF s = 0 ∧ DC mi' r.2.1 r.2.2 (zQ r.1) ∧ okz r.2.1 r.2.2)
theorem LQ_seq {tp : Nat → Nat} {n : Nat} {mi m1 m2 : TMi} {s s1 : PS} {r : PS × Ln × Dt} (F : Fr DN mi m1) (q : zQ s ≤ zQ s1) (g : zF s1 = 0 → zF s = 0) (C : LQ tp n m1 m2 s1 r) : LQ tp n mi m2 s r := ⟨C.1, F.step C.2.1, by have := C.2.2.1; omega, fun k => ⟨g (C.2.2.2 k).1, (C.2.2.2 k).2⟩⟩
theorem DC.sM {mi : TMi} {a : Ln} {d : Dt} {q b v : Nat} (h : DC mi a d q) : DC (up mi 5 b (nI v)) (setM a b v) d q := by
  obtain ⟨h1, h2, h3, h4, h5, h6⟩ := h
  have e : ∀ k, k ≠ 5 → up mi 5 b (nI v) k = mi k := fun k hk => up_ne _ _ _ hk
  refine ⟨by rw [e 3 (by decide)]; exact h1, by rw [e 3 (by decide)]; exact h2, by rw [e 3 (by decide)]; exact h3, fun i hi => ?_, fun r hr => by rw [e 8 (by decide), e 9 (by decide), e 10 (by decide)]; exact h5 r hr, by unfold DK at h6 ⊢; rw [e 3 (by decide), e 11 (by decide)]; exact h6⟩
  obtain ⟨k1, k2, k3, k4⟩ := h4 i hi
  refine ⟨by rw [e 4 (by decide)]; exact k1, ?_, by rw [e 6 (by decide)]; exact k3, by rw [e 7 (by decide)]; exact k4⟩
  show _ = nI (if i = b then v else nM a i)
  by_cases c : i = b
  · rw [c, up_at, if_pos rfl]
  · rw [up_nk _ _ _ c, if_neg c]; exact k2
theorem DC.sD {mi : TMi} {a : Ln} {d : Dt} {q b v : Nat} (h : DC mi a d q) : DC (up mi 6 b (nI v)) (setD a b v) d q := by
  obtain ⟨h1, h2, h3, h4, h5, h6⟩ := h
  have e : ∀ k, k ≠ 6 → up mi 6 b (nI v) k = mi k := fun k hk => up_ne _ _ _ hk
  refine ⟨by rw [e 3 (by decide)]; exact h1, by rw [e 3 (by decide)]; exact h2, by rw [e 3 (by decide)]; exact h3, fun i hi => ?_, fun r hr => by rw [e 8 (by decide), e 9 (by decide), e 10 (by decide)]; exact h5 r hr, by unfold DK at h6 ⊢; rw [e 3 (by decide), e 11 (by decide)]; exact h6⟩
  obtain ⟨k1, k2, k3, k4⟩ := h4 i hi
  refine ⟨by rw [e 4 (by decide)]; exact k1, by rw [e 5 (by decide)]; exact k2, ?_, by rw [e 7 (by decide)]; exact k4⟩
  show _ = nI (if i = b then v else nD a i)
  by_cases c : i = b
  · rw [c, up_at, if_pos rfl]
  · rw [up_nk _ _ _ c, if_neg c]; exact k3
theorem DC.sW {mi : TMi} {a : Ln} {d : Dt} {q b : Nat} {x : Option Nat} (h : DC mi a d q) : DC (up mi 7 b (oI x)) a (setW d b x) q := by
  obtain ⟨h1, h2, h3, h4, h5, h6⟩ := h
  have e : ∀ k, k ≠ 7 → up mi 7 b (oI x) k = mi k := fun k hk => up_ne _ _ _ hk
  refine ⟨by rw [e 3 (by decide)]; exact h1, by rw [e 3 (by decide)]; exact h2, by rw [e 3 (by decide)]; exact h3, fun i hi => ?_, fun r hr => by rw [e 8 (by decide), e 9 (by decide), e 10 (by decide)]; exact h5 r hr, by unfold DK at h6 ⊢; rw [e 3 (by decide), e 11 (by decide)]; exact h6⟩
  obtain ⟨k1, k2, k3, k4⟩ := h4 i hi
  refine ⟨by rw [e 4 (by decide)]; exact k1, by rw [e 5 (by decide)]; exact k2, by rw [e 6 (by decide)]; exact k3, ?_⟩
  show _ = oI (if i = b then x else dW d i)
  by_cases c : i = b
  · rw [c, up_at, if_pos rfl]
  · rw [up_nk _ _ _ c, if_neg c]; exact k4
theorem DC.sNm {mi : TMi} {a : Ln} {d : Dt} {q b v : Nat} (h : DC mi a d q) : DC (up mi 9 b (nI v)) (setNm a b v) d q := by
  obtain ⟨h1, h2, h3, h4, h5, h6⟩ := h
  have e : ∀ k, k ≠ 9 → up mi 9 b (nI v) k = mi k := fun k hk => up_ne _ _ _ hk
  refine ⟨by rw [e 3 (by decide)]; exact h1, by rw [e 3 (by decide)]; exact h2, by rw [e 3 (by decide)]; exact h3, fun i hi => by rw [e 4 (by decide), e 5 (by decide), e 6 (by decide), e 7 (by decide)]; exact h4 i hi, fun i hi => ?_, by unfold DK at h6 ⊢; rw [e 3 (by decide), e 11 (by decide)]; exact h6⟩
  obtain ⟨k1, k2, k3⟩ := h5 i hi
  refine ⟨by rw [e 8 (by decide)]; exact k1, ?_, by rw [e 10 (by decide)]; exact k3⟩
  show _ = nI (if i = b then v else nNm a i)
  by_cases c : i = b
  · rw [c, up_at, if_pos rfl]
  · rw [up_nk _ _ _ c, if_neg c]; exact k2
theorem DC.sBs {mi : TMi} {a : Ln} {d : Dt} {q b v : Nat} (h : DC mi a d q) : DC (up mi 10 b (nI v)) (setBs a b v) d q := by
  obtain ⟨h1, h2, h3, h4, h5, h6⟩ := h
  have e : ∀ k, k ≠ 10 → up mi 10 b (nI v) k = mi k := fun k hk => up_ne _ _ _ hk
  refine ⟨by rw [e 3 (by decide)]; exact h1, by rw [e 3 (by decide)]; exact h2, by rw [e 3 (by decide)]; exact h3, fun i hi => by rw [e 4 (by decide), e 5 (by decide), e 6 (by decide), e 7 (by decide)]; exact h4 i hi, fun i hi => ?_, by unfold DK at h6 ⊢; rw [e 3 (by decide), e 11 (by decide)]; exact h6⟩
  obtain ⟨k1, k2, k3⟩ := h5 i hi
  refine ⟨by rw [e 8 (by decide)]; exact k1, by rw [e 9 (by decide)]; exact k2, ?_⟩
  show _ = nI (if i = b then v else nBs a i)
  by_cases c : i = b
  · rw [c, up_at, if_pos rfl]
  · rw [up_nk _ _ _ c, if_neg c]; exact k3
theorem c_xNum {l : Launch} {h : Nat} {mi : TMi} {ml : TMl} {z n k lim : Nat} {tp : Nat → Nat} {s : PS} {Q : Int32 → TMi → TMl → Nat → Prop} (e : k + 1 = lim) (hP : CP mi tp n s) (hk : k < 1000) (hq : ∀ mi', Fr [12] mi mi' → CP mi' tp n (zNum tp n lim s).1 → Q (nI (zNum tp n lim s).2) mi' ml z) : CI l (h + 7) m_To_expectNumber [.ref 12, .int (nI k)] mi ml z Q := by
  subst e
  exact c_To_expectNumber hP hk hq
theorem oI_eq {x : Option Nat} {r : Nat} (hx : ∀ k, x = some k → k < 2 ^ 31) (hr : r < 2 ^ 31) : oI x = nI r ↔ x = some r := by
  cases x with
  | none => exact ⟨fun e => absurd e.symm (neg1_ne hr), fun e => by cases e⟩
  | some k => exact ⟨fun e => by rw [nI_inj (hx k rfl) hr e], fun e => by rw [e]; rfl⟩
theorem c_hasRoomFor {l : Launch} {h : Nat} {mi : TMi} {ml : TMl} {z r B R : Nat} {wo : Nat → Option Nat} {rm : Nat → Nat} {Q : Int32 → TMi → TMl → Nat → Prop} (hr : r < 1000) (h0 : mi 3 0 = nI B) (hB : B ≤ 6) (h1 : mi 3 1 = nI R) (hR : R ≤ 4) (hw : ∀ b, b < B → mi 7 b = oI (wo b)) (hw2 : ∀ b k, wo b = some k → k < 4) (hm : ∀ x, x < R → mi 8 x = nI (rm x) ∧ rm x < 100)
    (hq1 : r < R → cnt (inn wo r) B < rm r → Q 1 mi ml z) (hq0 : ¬ (r < R ∧ cnt (inn wo r) B < rm r) → Q 0 mi ml z) : CI l (h + 2) m_La_hasRoomFor [.ref 3, .int (nI r)] mi ml z Q := by
  refine t_La_hasRoomFor_3 mi ml z _ ?_
  refine loop (P := fun i => Ev l (h + 2) m_La_hasRoomFor 4 ([.ref 3, .int (nI r), .int (nI (cnt (inn wo r) i)), .int (nI i)], [], st mi ml z) (qI Q)) B ?_ (fun i hi ih => ?_)
  · refine t_La_hasRoomFor_3_4 mi ml z _ _ _ ⟨fun _ => ?_, fun c => absurd (by rw [h0]; exact nI_le (Nat.le_refl _) (by omega)) c⟩
    refine t_La_hasRiver_3 mi ml z _ ⟨fun c => ?_, fun _ => ?_⟩
    · rw [i32_lt0, nI_toInt (by omega)] at c; omega
    · rw [h1, nI_leI (by omega) (by omega)]
      refine ⟨fun c => ⟨fun _ => hq0 (fun k => by omega), fun e => absurd rfl e⟩, fun c => ⟨fun e => absurd e (by decide), fun _ => ⟨in_nI (by omega) (by decide), ?_⟩⟩⟩
      obtain ⟨m1, m2⟩ := hm r (by omega)
      have c6 := cnt_le (inn wo r) B
      rw [cl_nI (by omega), m1, nI_leI (by omega) (by omega)]
      exact ⟨fun c2 => hq0 (fun k => by omega), fun c2 => hq1 (by omega) (by omega)⟩
  · refine t_La_hasRoomFor_3_4 mi ml z _ _ _ ⟨fun c => absurd c (ge_no h0 (by omega) hi), fun _ => ⟨in_nI (by omega) (by decide), ?_⟩⟩
    rw [cl_nI (by omega), hw i hi, oI_eq (fun k hk => by have := hw2 i k hk; omega) (by omega), nI_1]
    refine ⟨fun c => ?_, fun c => ?_⟩
    · rw [cnt_n (show inn wo r i = false by unfold inn; exact beq_eq_false_iff_ne.mpr c)]
      exact ih
    · rw [cnt_s (show inn wo r i = true by unfold inn; rw [c]; exact beq_self_eq_true _)]
      exact ih
theorem c_Re_readTo {l : Launch} {h : Nat} {mi : TMi} {ml : TMl} {z n b q : Nat} {tp : Nat → Nat} {s : PS} {a : Ln} {d : Dt} {Q : TMi → TMl → Nat → Prop} (hP : CP mi tp n s) (hb : b < 6) (hD : zF s = 0 → DC mi a d q ∧ okz a d ∧ nB a = b + 1)
    (hq : ∀ mi', CP mi' tp n (pTo tp n b s a d).1 → Fr DN mi mi' → zQ s ≤ zQ (pTo tp n b s a d).1 → (zF (pTo tp n b s a d).1 = 0 → zF s = 0 ∧ DC mi' a (pTo tp n b s a d).2 q ∧ okz a (pTo tp n b s a d).2) → Q mi' ml z) : CV l (h + 7) m_Re_readTo [.ref 13, .int (nI b)] mi ml z Q := by
  have ok := hP.2.1
  refine t_Re_readTo mi ml z _ ⟨in_nI hb (by decide), ?_⟩
  rw [cl_nI (by omega)]
  have P1 : CP (up mi 7 b (-1)) tp n s := hP.fr (up_ne _ _ _ (by decide)) (up_ne _ _ _ (by decide))
  have F1 : Fr DN mi (up mi 7 b (-1)) := FrU mi (by simp) b _
  unfold pTo at hq
  refine c_To_sees P1 (k := 21) (by decide) (fun c => ⟨fun _ => ?_, fun e => absurd e (by decide)⟩) (fun c => ⟨fun e => absurd rfl e, fun _ => ?_⟩)
  · rw [if_pos c] at hq
    obtain ⟨D, O, eB⟩ := hD c.1
    have D1 : DC (up mi 7 b (-1)) a (setW d b none) q := D.sW (x := none)
    have O1 := okz_Wn O b
    have hv := ok.2.2.2.2.2.1
    have e5 : up mi 7 b (-1) 12 5 = nI (zV s) := P1.2.2.2.2.2.1 c.2
    rw [e5]
    refine c_hasRoomFor (B := nB a) (R := nR a) (wo := dW (setW d b none)) (rm := dR d) hv D1.1 O.1.1 D1.2.1 O.1.2.1 (fun i hi => (D1.2.2.2.1 i hi).2.2.2) (fun i k e => by have := (O1.2.1.1 i k e).2; have := O.1.2.1; omega) (fun x hx => ⟨(D1.2.2.2.2.1 x hx).1, by have := (O.2.1.2.2.1 x).1; omega⟩) (fun r1 r2 => ⟨fun _ => ⟨in_nI hb (by decide), ?_⟩, fun e => absurd e (by decide)⟩) (fun r1 => ⟨fun e => absurd rfl e, fun _ => ?_⟩)
    · rw [if_pos ⟨r1, r2⟩] at hq
      rw [e5]
      have P2 : CP (up (up mi 7 b (-1)) 7 b (nI (zV s))) tp n s := P1.fr (up_ne _ _ _ (by decide)) (up_ne _ _ _ (by decide))
      refine c_To_advance P2 (fun m2 F2 P3 => hq m2 P3 (F1.step ((FrU _ (by simp) b _).step (FrD F2))) (zAdv_Q ok) (fun k => ⟨c.1, ?_, okz_Ws O (by omega) r1 r2⟩))
      have D2 : DC (up (up mi 7 b (-1)) 7 b (nI (zV s))) a (setW (setW d b none) b (some (zV s))) q := D1.sW (x := some (zV s))
      have ew : setW (setW d b none) b (some (zV s)) = setW d b (some (zV s)) := by
        unfold setW
        dsimp only
        refine Prod.ext (funext (fun i => ?_)) rfl
        dsimp only
        by_cases q : i = b
        · rw [if_pos q, if_pos q]
        · rw [if_neg q, if_neg q, if_neg q]
      rw [ew] at D2
      exact D2.fr F2
    · rw [if_neg r1] at hq
      exact c_To_refuse P1 (w := 3) (by decide) (by decide) (fun m2 F2 P3 => hq m2 P3 (F1.step (FrD F2)) (by dsimp only; rw [zRf_Q]; exact Nat.le_refl _) (fun k => absurd k (zRf_n (by decide))))
  · rw [if_neg c] at hq
    exact c_To_refuse P1 (w := 2) (by decide) (by decide) (fun m2 F2 P3 => hq m2 P3 (F1.step (FrD F2)) (by dsimp only; rw [zRf_Q]; exact Nat.le_refl _) (fun k => absurd k (zRf_n (by decide))))
theorem c_flagsC {l : Launch} {h : Nat} {ml : TMl} {z n b : Nat} {tp : Nat → Nat} {Q : TMi → TMl → Nat → Prop} (hb : b < 6) : ∀ (f : Nat) (mi : TMi) (i : Nat) (s : PS) (a : Ln) (d : Dt), n - zQ s < f → CP mi tp n s → i ≤ zQ s → (zF s = 0 → DC mi a d (zQ s) ∧ okz a d ∧ nB a = b + 1) → (∀ mi', LQ tp n mi mi' s (pFl tp n b f s a d) → Q mi' ml z) → Ev l (h + 8) m_Re_readBeck 57 ([.ref 13, .int (nI b), .int (nI i)], [], st mi ml z) (qV Q)
  | 0, mi, i, s, a, d, hf, hP, hi, hD, hq => absurd hf (Nat.not_lt_zero _)
  | f + 1, mi, i, s, a, d, hf, hP, hi, hD, hq => by
    have hn9 := hP.1.2.1
    have ok := hP.2.1
    have okq : zQ (zAdv tp n s) ≤ n := by have o := zAdv_ok (tp := tp) hP.1.b ok; exact Nat.le_trans o.2.1 o.1
    have stop : ¬ zSees 3 s → ¬ zSees 7 s → ¬ zSees 8 s → Q mi ml z := fun c1 c2 c3 => by
      have e : pFl tp n b (f + 1) s a d = (s, a, d) := (if_neg c1).trans ((if_neg c2).trans (if_neg c3))
      rw [e] at hq
      exact hq mi ⟨hP, Fr.refl _ _, Nat.le_refl _, fun k => ⟨k, (hD k).1, (hD k).2.1⟩⟩
    have num : ∀ (lim : Nat) (m1 : TMi), CP m1 tp n (zAdv tp n s) → zSees 3 s ∨ zSees 7 s → zQ s < zQ (zNum tp n lim (zAdv tp n s)).1 ∧ zQ (zAdv tp n s) ≤ zQ (zNum tp n lim (zAdv tp n s)).1 ∧ zQ (zNum tp n lim (zAdv tp n s)).1 ≤ n ∧ (zF (zNum tp n lim (zAdv tp n s)).1 = 0 → zF s = 0 ∧ (zNum tp n lim (zAdv tp n s)).2 < lim) := fun lim m1 P1 c => by
      have lt : zQ s < zQ (zAdv tp n s) := by
        rcases c with c | c
        · exact zAdv_lt ok c.1 (by rw [c.2]; decide)
        · exact zAdv_lt ok c.1 (by rw [c.2]; decide)
      have q1 := zNum_Q (tp := tp) (k := lim) P1.2.1
      have o := zNum_ok (tp := tp) (k := lim) P1.1.b P1.2.1
      refine ⟨by omega, q1, Nat.le_trans o.2.1 o.1, fun k => ?_⟩
      obtain ⟨y1, y2, y3⟩ := zNum_0 k
      rw [y3]
      exact ⟨zAdv_0.mp y1.1, y2⟩
    refine t_Re_readBeck_57 mi ml z _ _ ⟨fun k => stop (k_900 hP hi (by decide) k) (k_900 hP hi (by decide) k) (k_900 hP hi (by decide) k), fun _ => ?_⟩
    refine c_To_sees hP (k := 3) (by decide) (fun c => ⟨fun e => absurd e (by decide), fun _ => ?_⟩) (fun c => ⟨fun _ => c_To_sees hP (k := 7) (by decide) (fun c2 => ⟨fun e => absurd e (by decide), fun _ => ?_⟩) (fun c2 => ⟨fun _ => c_To_sees hP (k := 8) (by decide) (fun c3 => ⟨fun e => absurd e (by decide), fun _ => ?_⟩) (fun c3 => ⟨fun _ => stop c c2 c3, fun e => absurd rfl e⟩), fun e => absurd rfl e⟩), fun e => absurd rfl e⟩)
    · have e : pFl tp n b (f + 1) s a d = pFl tp n b f (zNum tp n 10 (zAdv tp n s)).1 (setM a b (zNum tp n 10 (zAdv tp n s)).2) d := if_pos c
      rw [e] at hq
      refine c_To_advance hP (fun m1 F1 P1 => c_xNum (k := 9) (lim := 10) rfl P1 (by decide) (fun m2 F2 P2 => ⟨in_nI hb (by decide), ?_⟩))
      obtain ⟨y1, y0, y2, y3⟩ := num 10 m1 P1 (Or.inl c)
      rw [cl_nI (by omega), nI_1]
      have F3 : Fr DN mi (up m2 5 b (nI (zNum tp n 10 (zAdv tp n s)).2)) := (FrD F1).step ((FrD F2).step (FrU _ (by simp) b _))
      refine c_flagsC hb f _ (i + 1) _ _ _ (by omega) (P2.fr (up_ne _ _ _ (by decide)) (up_ne _ _ _ (by decide))) (by omega) (fun k => ?_) (fun m4 C4 => hq m4 (LQ_seq F3 (by omega) (fun k => (y3 k).1) C4))
      obtain ⟨z1, z2⟩ := y3 k
      obtain ⟨D, O, eB⟩ := hD z1
      exact ⟨(((D.fr F1).fr F2).sM).mono (by omega), okz_M O (by omega) (by omega), eB⟩
    · have e : pFl tp n b (f + 1) s a d = pFl tp n b f (zNum tp n 11 (zAdv tp n s)).1 (setD a b (zNum tp n 11 (zAdv tp n s)).2) d := (if_neg c).trans (if_pos c2)
      rw [e] at hq
      refine c_To_advance hP (fun m1 F1 P1 => c_xNum (k := 10) (lim := 11) rfl P1 (by decide) (fun m2 F2 P2 => ⟨in_nI hb (by decide), ?_⟩))
      obtain ⟨y1, y0, y2, y3⟩ := num 11 m1 P1 (Or.inr c2)
      rw [cl_nI (by omega), nI_1]
      have F3 : Fr DN mi (up m2 6 b (nI (zNum tp n 11 (zAdv tp n s)).2)) := (FrD F1).step ((FrD F2).step (FrU _ (by simp) b _))
      refine c_flagsC hb f _ (i + 1) _ _ _ (by omega) (P2.fr (up_ne _ _ _ (by decide)) (up_ne _ _ _ (by decide))) (by omega) (fun k => ?_) (fun m4 C4 => hq m4 (LQ_seq F3 (by omega) (fun k => (y3 k).1) C4))
      obtain ⟨z1, z2⟩ := y3 k
      obtain ⟨D, O, eB⟩ := hD z1
      exact ⟨(((D.fr F1).fr F2).sD).mono (by omega), okz_D O (by omega) (by omega), eB⟩
    · have e : pFl tp n b (f + 1) s a d = pFl tp n b f (pTo tp n b (zAdv tp n s) a d).1 a (pTo tp n b (zAdv tp n s) a d).2 := (if_neg c).trans ((if_neg c2).trans (if_pos c3))
      rw [e] at hq
      have lt := zAdv_lt (tp := tp) ok c3.1 (by rw [c3.2]; decide)
      refine c_To_advance hP (fun m1 F1 P1 => c_Re_readTo (q := zQ s) P1 hb (fun k => ⟨(hD c3.1).1.fr F1, (hD c3.1).2⟩) (fun m2 P2 F2 q2 g2 => ?_))
      have b2 : zQ (pTo tp n b (zAdv tp n s) a d).1 ≤ n := Nat.le_trans P2.2.1.2.1 P2.2.1.1
      rw [nI_1]
      refine c_flagsC hb f _ (i + 1) _ _ _ (by omega) P2 (by omega) (fun k => ⟨(g2 k).2.1.mono (by omega), (g2 k).2.2, (hD c3.1).2.2⟩) (fun m4 C4 => hq m4 (LQ_seq ((FrD F1).step F2) (by omega) (fun k => c3.1) C4))
