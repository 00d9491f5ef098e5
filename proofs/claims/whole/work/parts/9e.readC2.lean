/-! ===== the class reads a law ===== -/
def KC (l : Launch) (tp : Nat → Nat) (n f : Nat) (M : AMt) (m r x : Nat) (tr : Bool) : Prop := ∀ (H d : Nat) (s : PS) (a : FF) (mi : TMi) (ml : TMl) (z c : Nat) (Q : TMi → TMl → Nat → Prop), 16 * (n - zQ s) + wt m ≤ f → d ≤ 6 → 12 * (6 - d) + 13 + r ≤ H → CP mi tp n s → mi 3 11 = nI c → c ≤ 900 → (zF s = 0 → c ≤ zQ s) → (∀ mi', CQ tp n mi mi' c c s (pz tp n f m d s a) (31 + x - 5 * d) tr → Q mi' ml z) → CV l H M [.ref 13, .int (nI d)] mi ml z Q
def KL (l : Launch) (tp : Nat → Nat) (n f : Nat) (M : AMt) (ex : List Value) (m r x : Nat) (tr : Bool) : Prop := ∀ (H d : Nat) (s : PS) (a : FF) (mi : TMi) (ml : TMl) (z c0 c i : Nat) (Q : TMi → TMl → Nat → Prop), 16 * (n - zQ s) + wt m ≤ f → d ≤ 6 → 12 * (6 - d) + 13 + r ≤ H → CP mi tp n s → mi 3 11 = nI c → c ≤ 900 → i ≤ zQ s → (zF s = 0 → c ≤ zQ s ∧ c0 ≤ c ∧ (tr = true → trF a) ∧ CS (mi 11) c0 c (31 + x - 5 * d) a) → (∀ mi', CQ tp n mi mi' c0 c s (pz tp n f m d s a) (31 + x - 5 * d) tr → Q mi' ml z) → Ev l H M 7 (.ref 13 :: .int (nI d) :: .int (nI i) :: ex, [], st mi ml z) (qV Q)
def KX (l : Launch) (tp : Nat → Nat) (n f : Nat) : Prop := ∀ (H d : Nat) (s : PS) (a : FF) (mi : TMi) (ml : TMl) (z c0 c : Nat) (Q : TMi → TMl → Nat → Prop), 16 * (n - zQ s) + wt 11 ≤ f → d ≤ 6 → 12 * (6 - d) + 13 + 2 ≤ H → CP mi tp n s → mi 3 11 = nI c → c ≤ 900 → (zF s = 0 → c ≤ zQ s ∧ c0 ≤ c ∧ CS (mi 11) c0 c (31 + 2 - 5 * d) a) → (∀ mi', CQ tp n mi mi' c0 c s (pz tp n f 11 d s a) (31 + 3 - 5 * d) true → Q mi' ml z) → CI l H m_Re_readComparison [.ref 13] mi ml z (fun x6 mi6 ml6 z6 => CV l H m_Re_readSum [.ref 13, .int (nI d)] mi6 ml6 z6 (fun mi7 ml7 z7 => CI l H m_La_addCode [.ref 3, .int x6] mi7 ml7 z7 (fun x8 mi8 ml8 z8 => Q mi8 ml8 z8)))
theorem CQ_seq {tp : Nat → Nat} {n : Nat} {mi m1 m2 : TMi} {c0 c c1 : Nat} {s s1 : PS} {r : PS × FF} {dp : Nat} {tr : Bool} (F1 : Fr [3, 11, 12] mi m1) (s3 : ∀ k, k ≠ 11 → m1 3 k = mi 3 k) (q1 : zQ s ≤ zQ s1) (g : zF s1 = 0 → zF s = 0 ∧ c ≤ c1 ∧ c1 + zQ s ≤ c + zQ s1 ∧ ∀ j, j < c → m1 11 j = mi 11 j) (C2 : CQ tp n m1 m2 c0 c1 s1 r dp tr) : CQ tp n mi m2 c0 c s r dp tr := by
  obtain ⟨p1, p2, p3, p4, c', p5, p6, p7⟩ := C2
  refine ⟨p1, F1.step p2, fun k hk => by rw [p3 k hk, s3 k hk], by omega, c', p5, p6, fun q => ?_⟩
  obtain ⟨i1, i2, i3, i4, i5, i6⟩ := p7 q
  obtain ⟨g1, g2, g3, g4⟩ := g i1
  exact ⟨g1, by omega, by omega, fun j hj => by rw [i4 j (by omega), g4 j hj], i5, i6⟩
theorem k_head {l : Launch} {tp : Nat → Nat} {n f : Nat} {M MA : AMt} {ex : List Value} {m ml' ms r x rs xs : Nat} {tr : Bool} (hA : KC l tp n f MA ms rs xs tr) (hL : KL l tp n f M ex ml' r x tr) (w1 : wt ms + 1 ≤ wt m) (w2 : wt ml' + 1 ≤ wt m) (hr : rs + 1 ≤ r) (hx : xs ≤ x)
    (hw : ∀ (h d : Nat) (mi : TMi) (ml : TMl) (z : Nat) (Q : TMi → TMl → Nat → Prop), CV l h MA [.ref 13, .int (nI d)] mi ml z (fun mi1 ml1 z1 => Ev l (h + 1) M 7 (.ref 13 :: .int (nI d) :: .int (nI 0) :: ex, [], st mi1 ml1 z1) (qV Q)) → CV l (h + 1) M [.ref 13, .int (nI d)] mi ml z Q)
    (he : ∀ d s a, pz tp n (f + 1) m d s a = pz tp n f ml' d (pz tp n f ms d s a).1 (pz tp n f ms d s a).2) : KC l tp n (f + 1) M m r x tr := by
  intro H d s a mi ml z c Q hm hd hH hP h11 hc hz hq
  obtain ⟨h, rfl⟩ : ∃ h, H = h + 1 := ⟨H - 1, by omega⟩
  rw [he] at hq
  refine hw h d mi ml z Q (hA h d s a mi ml z c _ (by omega) hd (by omega) hP h11 hc hz (fun m1 C1 => ?_))
  obtain ⟨p1, p2, p3, p4, c1, p5, p6, p7⟩ := C1
  refine hL (h + 1) d _ _ m1 ml z c c1 0 Q (by omega) hd hH p1 p5 p6 (Nat.zero_le _) (fun q => ?_) (fun m2 C2 => hq m2 (CQ_seq p2 p3 p4 (fun q => ?_) C2))
  · obtain ⟨i1, i2, i3, i4, i5, i6⟩ := p7 q
    exact ⟨by have := hz i1; omega, i2, i5, i6.mono (by omega)⟩
  · obtain ⟨i1, i2, i3, i4, i5, i6⟩ := p7 q
    exact ⟨i1, i2, i3, i4⟩
theorem k_body {l : Launch} {tp : Nat → Nat} {n f : Nat} {M MA : AMt} {ex : List Value} {m ms r x rs xs : Nat} {tr : Bool} {v : Nat} {o : Int32} (hA : KC l tp n f MA ms rs xs tr) (hL : KL l tp n f M ex m r x tr) (w1 : wt ms ≤ 16) (w0 : 1 ≤ wt m) (hr : rs + 1 ≤ r) (hx : xs + 1 ≤ x) (hv : 6000 ≤ v) (hv2 : v < 14000) (hop : ∀ x y, opC v x y = opV o x y)
    (hb : ∀ a b : FF, (tr = true → trF a) → (tr = true → trF b) → bdF (fun W => opV o (a W) (b W)) ∧ (tr = true → trF (fun W => opV o (a W) (b W))))
    {h d : Nat} {s : PS} {a : FF} {mi : TMi} {ml : TMl} {z c0 c i : Nat} {Q : TMi → TMl → Nat → Prop} (hm : 16 * (n - zQ s) + wt m ≤ f + 1) (hd : d ≤ 6) (hH : 12 * (6 - d) + 13 + r ≤ h + 13) (hP : CP mi tp n s) (h11 : mi 3 11 = nI c) (hc : c ≤ 900) (hi : i ≤ zQ s) (hz : zF s = 0 → c ≤ zQ s ∧ c0 ≤ c ∧ (tr = true → trF a) ∧ CS (mi 11) c0 c (31 + x - 5 * d) a) (q0 : zF s = 0) (qk : ¬ zK s = 22)
    (hq : ∀ mi', CQ tp n mi mi' c0 c s (pz tp n f m d (pz tp n f ms d (zAdv tp n s) a).1 (fun W => opV o (a W) ((pz tp n f ms d (zAdv tp n s) a).2 W))) (31 + x - 5 * d) tr → Q mi' ml z) :
    CV l (h + 12) m_To_advance [.ref 12] mi ml z (fun mi9 ml9 z9 => CV l (h + 12) MA [.ref 13, .int (nI d)] mi9 ml9 z9 (fun mi10 ml10 z10 => CI l (h + 12) m_La_addCode [.ref 3, .int (nI v)] mi10 ml10 z10 (fun _ mi11 ml11 z11 => Ev l (h + 13) M 7 (.ref 13 :: .int (nI d) :: .int (nI i + 1) :: ex, [], st mi11 ml11 z11) (qV Q)))) := by
  have hn9 := hP.1.2.1
  have ok := hP.2.1
  have lt := zAdv_lt (tp := tp) ok q0 qk
  obtain ⟨z1, z2, z3, z4⟩ := hz q0
  refine c_To_advance hP (fun m1 F1 P1 => ?_)
  obtain ⟨e1, e2, e3, e4⟩ := Fr12 F1
  have b1 : zQ (zAdv tp n s) ≤ n := Nat.le_trans P1.2.1.2.1 P1.2.1.1
  refine hA (h + 12) d _ a m1 ml z c _ (by omega) hd (by omega) P1 (by rw [e1]; exact h11) hc (fun _ => by omega) (fun m2 C2 => ?_)
  obtain ⟨p1, p2, p3, p4, c1, p5, p6, p7⟩ := C2
  have b2 : zQ (pz tp n f ms d (zAdv tp n s) a).1 ≤ n := Nat.le_trans p1.2.1.2.1 p1.2.1.1
  refine c_La_addCode p5 p6 (fun m3 c2 F3 s3 k3 k4 k5 => ?_)
  rw [nI_1]
  obtain ⟨g1, g2, g3⟩ := Fr311 F3
  have good : zF (pz tp n f ms d (zAdv tp n s) a).1 = 0 → c1 < 900 ∧ c2 = c1 + 1 ∧ c ≤ c1 ∧ c1 + zQ (zAdv tp n s) ≤ c + zQ (pz tp n f ms d (zAdv tp n s) a).1 ∧ (∀ j, j < c → m3 11 j = mi 11 j) ∧ (tr = true → trF (pz tp n f ms d (zAdv tp n s) a).2) ∧ CS (m3 11) c c1 (31 + xs - 5 * d) (pz tp n f ms d (zAdv tp n s) a).2 ∧ m3 11 c1 = nI v := fun q => by
    obtain ⟨i1, i2, i3, i4, i5, i6⟩ := p7 q
    have lt9 : c1 < 900 := by omega
    obtain ⟨j1, j2, j3⟩ := k5 lt9
    exact ⟨lt9, j1, i2, i3, fun j hj => by rw [j3 j (by omega), i4 j hj, e2], i5, i6.fr (fun j _ hj => j3 j (by omega)), j2⟩
  refine hL (h + 13) d _ _ m3 ml z c0 c2 (i + 1) Q (by omega) hd hH (p1.fr g1 g2) k3 k4 (by omega) (fun q => ?_) (fun m4 C4 => hq m4 (CQ_seq ((e4.step p2).step g3) (fun k hk => by rw [s3 k hk, p3 k hk, e1]) (by omega) (fun q => ?_) C4))
  · obtain ⟨i1, i2, i3, i4, i5, i6, i7, i8⟩ := good q
    obtain ⟨t1, t2⟩ := hb a _ z3 i6
    rw [i2]
    exact ⟨by omega, by omega, t2, CS_bin (z4.fr (fun j _ hj => i5 j hj)) i7 (Nat.le_refl _) (by omega) i1 hv hv2 i8 t1 (fun W => (hop _ _).symm)⟩
  · obtain ⟨i1, i2, i3, i4, i5, i6, i7, i8⟩ := good q
    exact ⟨q0, by omega, by omega, i5⟩
theorem k_stop {tp : Nat → Nat} {n dp : Nat} {tr : Bool} {s : PS} {a : FF} {mi : TMi} {c0 c : Nat} (hP : CP mi tp n s) (h11 : mi 3 11 = nI c) (hc : c ≤ 900) (hz : zF s = 0 → c ≤ zQ s ∧ c0 ≤ c ∧ (tr = true → trF a) ∧ CS (mi 11) c0 c dp a) : CQ tp n mi mi c0 c s (s, a) dp tr :=
  ⟨hP, Fr.refl _ _, fun _ _ => rfl, Nat.le_refl _, c, h11, hc, fun q => by
    obtain ⟨z1, z2, z3, z4⟩ := hz q
    exact ⟨q, Nat.le_refl _, Nat.le_refl _, fun _ _ => rfl, z3, z4⟩⟩
theorem k_900 {mi : TMi} {tp : Nat → Nat} {n i k : Nat} {s : PS} (hP : CP mi tp n s) (hi : i ≤ zQ s) (hk : ¬ k = 22) (h : (900 : Int32) ≤ nI i) : ¬ zSees k s := fun q => by
  have hn9 := hP.1.2.1
  have ok := hP.2.1
  have a1 := ok.1
  have a2 := ok.2.1
  have k1 : 900 ≤ i := (leL (by decide) (by omega)).mp h
  have := ok.2.2.2.1.mpr (by omega)
  have := q.2
  omega
theorem k_termL {l : Launch} {tp : Nat → Nat} {n f : Nat} (hA : KC l tp n f m_Re_readAtom 2 0 0 false) (hL : KL l tp n f m_Re_readTerm [] 7 1 1 false) : KL l tp n (f + 1) m_Re_readTerm [] 7 1 1 false := by
  intro H d s a mi ml z c0 c i Q hm hd hH hP h11 hc hi hz hq
  obtain ⟨h, rfl⟩ : ∃ h, H = h + 13 := ⟨H - 13, by omega⟩
  have stop : ¬ zSees 42 s → Q mi ml z := fun k => by
    have e : pz tp n (f + 1) 7 d s a = (s, a) := if_neg k
    rw [e] at hq
    exact hq mi (k_stop hP h11 hc hz)
  refine t_Re_readTerm_7 mi ml z _ _ ⟨fun k => stop (k_900 hP hi (by decide) k), fun _ => ?_⟩
  refine c_To_sees hP (k := 42) (by decide) (fun q => ⟨fun e => absurd e (by decide), fun _ => ?_⟩) (fun q => ⟨fun _ => stop q, fun e => absurd rfl e⟩)
  have e : pz tp n (f + 1) 7 d s a = pz tp n f 7 d (pz tp n f 2 d (zAdv tp n s) a).1 (fun W => opV 3002 (a W) ((pz tp n f 2 d (zAdv tp n s) a).2 W)) := if_pos q
  rw [e] at hq
  exact k_body (v := 8000) hA hL (by decide) (by decide) (by decide) (by decide) (by decide) (by decide) op_80 (fun a b _ _ => ⟨bd_2 a b, fun e => absurd e (by decide)⟩) hm hd hH hP h11 hc hi hz q.1 (by rw [q.2]; decide) hq
theorem k_truthL {l : Launch} {tp : Nat → Nat} {n f : Nat} (hA : KC l tp n f m_Re_readBoth 4 4 4 true) (hL : KL l tp n f m_Re_readTruth [] 8 5 5 true) : KL l tp n (f + 1) m_Re_readTruth [] 8 5 5 true := by
  intro H d s a mi ml z c0 c i Q hm hd hH hP h11 hc hi hz hq
  obtain ⟨h, rfl⟩ : ∃ h, H = h + 13 := ⟨H - 13, by omega⟩
  have stop : ¬ zSees 19 s → Q mi ml z := fun k => by
    have e : pz tp n (f + 1) 8 d s a = (s, a) := if_neg k
    rw [e] at hq
    exact hq mi (k_stop hP h11 hc hz)
  refine t_Re_readTruth_7 mi ml z _ _ ⟨fun k => stop (k_900 hP hi (by decide) k), fun _ => ?_⟩
  refine c_To_sees hP (k := 19) (by decide) (fun q => ⟨fun e => absurd e (by decide), fun _ => ?_⟩) (fun q => ⟨fun _ => stop q, fun e => absurd rfl e⟩)
  have e : pz tp n (f + 1) 8 d s a = pz tp n f 8 d (pz tp n f 4 d (zAdv tp n s) a).1 (fun W => opV 3008 (a W) ((pz tp n f 4 d (zAdv tp n s) a).2 W)) := if_pos q
  rw [e] at hq
  exact k_body (v := 13000) hA hL (by decide) (by decide) (by decide) (by decide) (by decide) (by decide) op_130 (fun a b ha hb => ⟨(tr_8 (ha rfl) (hb rfl)).bd, fun _ => tr_8 (ha rfl) (hb rfl)⟩) hm hd hH hP h11 hc hi hz q.1 (by rw [q.2]; decide) hq
theorem k_bothL {l : Launch} {tp : Nat → Nat} {n f : Nat} (hA : KC l tp n f m_Re_readUnit 5 3 3 true) (hL : KL l tp n f m_Re_readBoth [] 9 4 4 true) : KL l tp n (f + 1) m_Re_readBoth [] 9 4 4 true := by
  intro H d s a mi ml z c0 c i Q hm hd hH hP h11 hc hi hz hq
  obtain ⟨h, rfl⟩ : ∃ h, H = h + 13 := ⟨H - 13, by omega⟩
  have stop : ¬ zSees 18 s → Q mi ml z := fun k => by
    have e : pz tp n (f + 1) 9 d s a = (s, a) := if_neg k
    rw [e] at hq
    exact hq mi (k_stop hP h11 hc hz)
  refine t_Re_readBoth_7 mi ml z _ _ ⟨fun k => stop (k_900 hP hi (by decide) k), fun _ => ?_⟩
  refine c_To_sees hP (k := 18) (by decide) (fun q => ⟨fun e => absurd e (by decide), fun _ => ?_⟩) (fun q => ⟨fun _ => stop q, fun e => absurd rfl e⟩)
  have e : pz tp n (f + 1) 9 d s a = pz tp n f 9 d (pz tp n f 5 d (zAdv tp n s) a).1 (fun W => opV 3007 (a W) ((pz tp n f 5 d (zAdv tp n s) a).2 W)) := if_pos q
  rw [e] at hq
  exact k_body (v := 12000) hA hL (by decide) (by decide) (by decide) (by decide) (by decide) (by decide) op_120 (fun a b ha hb => ⟨(tr_7 (ha rfl) (hb rfl)).bd, fun _ => tr_7 (ha rfl) (hb rfl)⟩) hm hd hH hP h11 hc hi hz q.1 (by rw [q.2]; decide) hq
theorem k_sumL {l : Launch} {tp : Nat → Nat} {n f : Nat} (hA : KC l tp n f m_Re_readTerm 1 1 1 false) (hL : KL l tp n f m_Re_readSum [.retAddr 0] 6 2 2 false) : KL l tp n (f + 1) m_Re_readSum [.retAddr 0] 6 2 2 false := by
  intro H d s a mi ml z c0 c i Q hm hd hH hP h11 hc hi hz hq
  obtain ⟨h, rfl⟩ : ∃ h, H = h + 13 := ⟨H - 13, by omega⟩
  have stop : ¬ zSees 43 s → ¬ zSees 45 s → Q mi ml z := fun k k' => by
    have e : pz tp n (f + 1) 6 d s a = (s, a) := (if_neg k).trans (if_neg k')
    rw [e] at hq
    exact hq mi (k_stop hP h11 hc hz)
  refine t_Re_readSum_7 mi ml z _ _ ⟨fun k => stop (k_900 hP hi (by decide) k) (k_900 hP hi (by decide) k), fun _ => ?_⟩
  refine c_To_sees hP (k := 43) (by decide) (fun q => ⟨fun _ => c_To_sees hP (k := 43) (by decide) (fun _ => ⟨fun e => absurd e (by decide), fun _ => ?_⟩) (fun q' => absurd q q'), fun e => absurd e (by decide)⟩) (fun q => ⟨fun e => absurd rfl e, fun _ => c_To_sees hP (k := 45) (by decide) (fun q2 => ⟨fun e => absurd e (by decide), fun _ => c_To_sees hP (k := 43) (by decide) (fun q' => absurd q' q) (fun _ => ⟨fun _ => ?_, fun e => absurd rfl e⟩)⟩) (fun q2 => ⟨fun _ => stop q q2, fun e => absurd rfl e⟩)⟩)
  · have e : pz tp n (f + 1) 6 d s a = pz tp n f 6 d (pz tp n f 1 d (zAdv tp n s) a).1 (fun W => opV 3000 (a W) ((pz tp n f 1 d (zAdv tp n s) a).2 W)) := if_pos q
    rw [e] at hq
    exact k_body (v := 6000) hA hL (by decide) (by decide) (by decide) (by decide) (by decide) (by decide) op_60 (fun a b _ _ => ⟨bd_0 a b, fun e => absurd e (by decide)⟩) hm hd hH hP h11 hc hi hz q.1 (by rw [q.2]; decide) hq
  · have e : pz tp n (f + 1) 6 d s a = pz tp n f 6 d (pz tp n f 1 d (zAdv tp n s) a).1 (fun W => opV 3001 (a W) ((pz tp n f 1 d (zAdv tp n s) a).2 W)) := (if_neg q).trans (if_pos q2)
    rw [e] at hq
    exact k_body (v := 7000) hA hL (by decide) (by decide) (by decide) (by decide) (by decide) (by decide) op_70 (fun a b _ _ => ⟨bd_1 a b, fun e => absurd e (by decide)⟩) hm hd hH hP h11 hc hi hz q2.1 (by rw [q2.2]; decide) hq
theorem k_cmp {l : Launch} {tp : Nat → Nat} {n f : Nat} (hS : KC l tp n f m_Re_readSum 0 2 2 false) : KX l tp n (f + 1) := by
  intro H d s a mi ml z c0 c Q hm hd hH hP h11 hc hz hq
  have hm : 16 * (n - zQ s) + 6 ≤ f + 1 := hm
  have hn9 := hP.1.2.1
  have ok := hP.2.1
  obtain ⟨h, rfl⟩ : ∃ h, H = h + 13 := ⟨H - 13, by omega⟩
  have e : pz tp n (f + 1) 11 d s a = ((pz tp n f 0 d (cmpS tp n s) a).1, fun W => opV (cmpO s) (a W) ((pz tp n f 0 d (cmpS tp n s) a).2 W)) := rfl
  rw [e] at hq
  have cq : zQ s ≤ zQ (cmpS tp n s) ∧ (zF (cmpS tp n s) = 0 → zF s = 0 ∧ zQ s < zQ (cmpS tp n s)) := by
    unfold cmpS
    by_cases q : zSees 61 s ∨ zSees 60 s ∨ zSees 62 s
    · rw [if_pos q]
      refine ⟨zAdv_Q ok, fun q0 => ⟨zAdv_0.mp q0, zAdv_lt ok (zAdv_0.mp q0) ?_⟩⟩
      rcases q with q | q | q <;> rw [q.2] <;> decide
    · rw [if_neg q]
      exact ⟨by rw [zRf_Q]; exact Nat.le_refl _, fun q0 => absurd q0 (zRf_n (by decide))⟩
  have otr : ∀ b : FF, trF (fun W => opV (cmpO s) (a W) (b W)) := fun b => by
    unfold cmpO
    by_cases q1 : zSees 61 s
    · rw [if_pos q1]; exact tr_3 a b
    · rw [if_neg q1]
      by_cases q2 : zSees 60 s
      · rw [if_pos q2]; exact tr_4 a b
      · rw [if_neg q2]; exact tr_5 a b
  refine c_Re_readComparison hP (fun m1 v F1 P1 v1 v2 hop => ?_)
  obtain ⟨e1, e2, e3, e4⟩ := Fr12 F1
  refine hS (h + 13) d _ a m1 ml z c _ (show 16 * (n - zQ (cmpS tp n s)) + 5 ≤ f by omega) hd hH P1 (by rw [e1]; exact h11) hc (fun q => by have := (hz (cq.2 q).1).1; omega) (fun m2 C2 => ?_)
  obtain ⟨p1, p2, p3, p4, c1, p5, p6, p7⟩ := C2
  have b2 : zQ (pz tp n f 0 d (cmpS tp n s) a).1 ≤ n := Nat.le_trans p1.2.1.2.1 p1.2.1.1
  refine c_La_addCode p5 p6 (fun m3 c2 F3 s3 k3 k4 k5 => ?_)
  obtain ⟨g1, g2, g3⟩ := Fr311 F3
  refine hq m3 ⟨p1.fr g1 g2, (e4.step p2).step g3, fun k hk => by rw [s3 k hk, p3 k hk, e1], by dsimp only; omega, c2, k3, k4, fun q => ?_⟩
  obtain ⟨i1, i2, i3, i4, i5, i6⟩ := p7 q
  obtain ⟨r1, r2⟩ := cq.2 i1
  obtain ⟨z1, z2, z3⟩ := hz r1
  obtain ⟨j1, j2, j3⟩ := k5 (by omega)
  rw [j1]
  refine ⟨r1, by omega, by dsimp only; omega, fun j hj => by rw [j3 j (by omega), i4 j hj, e2], fun _ => otr _, ?_⟩
  exact CS_bin (z3.fr (fun j _ hj => by rw [j3 j (by omega), i4 j hj, e2])) (i6.fr (fun j _ hj => j3 j (by omega))) (by omega) (by omega) (by omega) v1 v2 j2 (otr _).bd (fun W => (hop i1 _ _).symm)
