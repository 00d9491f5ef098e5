/-! ===== the reference reads a law: leaves ===== -/
def RQ (tp : Nat → Nat) (n : Nat) (mi mi' : TMi) (c0 c : Nat) (s : PS) (r : PS × FF) : Prop :=
  RP mi' tp n r.1 ∧ FP mi mi' ∧ (∀ k, k < 470 → mi' 123 k = mi 123 k) ∧ zQ s ≤ zQ r.1 ∧ ∃ c', mi' 123 470 = nI c' ∧ c' ≤ 900 ∧ (zF r.1 = 0 → zF s = 0 ∧ c ≤ c' ∧ c' + zQ s ≤ c + zQ r.1 ∧ (∀ j, j < c → mi' 123 (471 + j) = mi 123 (471 + j)) ∧ RS (mi' 123) c0 c' r.2)
theorem c_R_codes {l : Launch} {h : Nat} {mi : TMi} {ml : TMl} {z n c : Nat} {tp : Nat → Nat} {s : PS} {v : Int32} {Q : TMi → TMl → Nat → Prop} (hP : RP mi tp n s) (h470 : mi 123 470 = nI c) (hc : c ≤ 900) (hlt : zF s = 0 → c < 900)
    (hq : ∀ mi' c', FP mi mi' → RP mi' tp n s → (∀ k, k < 470 → mi' 123 k = mi 123 k) → mi' 123 470 = nI c' → c' ≤ 900 → (zF s = 0 → c' = c + 1 ∧ mi' 123 (471 + c) = v ∧ ∀ j, j ≠ c → mi' 123 (471 + j) = mi 123 (471 + j)) → Q mi' ml z) : CV l (h + 1) m_R_codes [.ref 119, .int v] mi ml z Q := by
  refine t_R_codes mi ml z _ ?_
  rw [zF_r hP]
  refine ⟨fun k => ?_, fun k => hq mi c (FP.refl _) hP (fun _ _ => rfl) h470 hc (fun q => absurd q k)⟩
  have c9 := hlt k
  rw [h470, show (471 : Int32) + nI c = nI (471 + c) from addL 471 c, cl_nI (by omega), up_nk _ _ _ (by omega), h470, nI_1]
  refine ⟨in_nI (by omega) (by decide), hq _ (c + 1) ((FP_up _ _ _).trans (FP_up _ _ _)) ((hP.up _ _).up _ _) (fun k hk => ?_) (up_at _ _ _ _) (by omega) (fun _ => ⟨rfl, ?_, fun j hj => ?_⟩)⟩
  · rw [up_nk _ _ _ (by omega), up_nk _ _ _ (by omega)]
  · rw [up_nk _ _ _ (by omega), up_at]
  · rw [up_nk _ _ _ (by omega), up_nk _ _ _ (by omega)]
theorem c_R_goesIn {l : Launch} {h : Nat} {mi : TMi} {ml : TMl} {z n d : Nat} {tp : Nat → Nat} {s : PS} {Q : Int32 → TMi → TMl → Nat → Prop} (hP : RP mi tp n s) (h0 : zF s = 0) (hd : d ≤ 6) (hq1 : d < 6 → ∀ mi', FT mi mi' → RP mi' tp n (zAdv tp n s) → Q 1 mi' ml z) (hq0 : ¬ d < 6 → ∀ mi', FT mi mi' → RP mi' tp n (zRf 4 s) → Q 0 mi' ml z) : CI l (h + 7) m_R_goesIn [.ref 119, .int (nI d)] mi ml z Q := by
  refine t_R_goesIn mi ml z _ ?_
  rw [show (nI d = 6) ↔ d = 6 from nI_eq (b := 6) (by omega) (by decide), zF_r hP]
  refine ⟨fun k => ⟨fun e => absurd h0 e, fun _ => c_R_adv hP h0 (fun m1 F1 P1 => ?_)⟩, fun k => c_R_fails hP (w := 4) (by decide) (by decide) (fun m1 F1 P1 => ?_)⟩
  · rw [zF_r P1]
    exact ⟨fun e => absurd (zAdv_0.mpr h0) e, fun _ => hq1 (by omega) m1 F1 P1⟩
  · rw [zF_r P1]
    exact ⟨fun e => ⟨fun _ => hq0 (by omega) m1 F1 P1, fun e2 => absurd e2 e⟩, fun e => absurd e (zRf_n (by decide))⟩
def wv (k : Nat) : Int32 := if 1 ≤ k ∧ k ≤ 6 then nI (k - 1) else -1
theorem wv_t1 : ∀ k, k < 94 → (nI (rk k) = 1 → wv k = 0) ∧ (nI (rk k) = 2 → wv k = 1) ∧ (nI (rk k) = 3 → wv k = 2) ∧ (nI (rk k) = 4 → wv k = -1) ∧ (nI (rk k) = 5 → wv k = -1) := by decide +kernel
theorem wv_t2 : ∀ k, k < 94 → (nI (rk k) = 6 → wv k = 3) ∧ (nI (rk k) = 7 → wv k = -1) ∧ (nI (rk k) = 8 → wv k = 4) ∧ (nI (rk k) = 9 → wv k = -1) ∧ (nI (rk k) = 10 → wv k = -1) ∧ (nI (rk k) = 11 → wv k = -1) := by decide +kernel
theorem wv_t3 : ∀ k, k < 94 → (nI (rk k) = 12 → wv k = -1) ∧ (nI (rk k) = 13 → wv k = -1) ∧ (nI (rk k) = 14 → wv k = -1) ∧ (nI (rk k) = 15 → wv k = -1) ∧ (nI (rk k) = 16 → wv k = 5) := by decide +kernel
theorem wv_t4 : ∀ k, k < 94 → wv k = -1 ∨ rk k = 1 ∨ rk k = 2 ∨ rk k = 3 ∨ rk k = 6 ∨ rk k = 8 ∨ rk k = 16 := by decide +kernel
theorem c_R_wordOf {l : Launch} {h : Nat} {mi : TMi} {ml : TMl} {z k : Nat} {Q : Int32 → TMi → TMl → Nat → Prop} (hk : k < 94) (hq : Q (wv k) mi ml z) : CI l (h + 1) m_R_wordOf [.ref 119, .int (nI (rk k))] mi ml z Q := by
  obtain ⟨a1, a2, a3, a4, a5⟩ := wv_t1 k hk
  obtain ⟨a6, a7, a8, a9, a10, a11⟩ := wv_t2 k hk
  obtain ⟨a12, a13, a14, a15, a16⟩ := wv_t3 k hk
  have a17 := wv_t4 k hk
  refine t_R_wordOf mi ml z _ ⟨fun c => ?_, fun c => ?_, fun c => ?_, fun c => ?_, fun c => ?_, fun c => ?_, fun c => ?_, fun c => ?_, fun c => ?_, fun c => ?_, fun c => ?_, fun c => ?_, fun c => ?_, fun c => ?_, fun c => ?_, fun c => ?_, fun c1 c2 c3 c4 c5 c6 c7 c8 c9 c10 c11 c12 c13 c14 c15 c16 => ?_⟩
  · rw [a1 c] at hq; exact hq
  · rw [a2 c] at hq; exact hq
  · rw [a3 c] at hq; exact hq
  · rw [a4 c] at hq; exact hq
  · rw [a5 c] at hq; exact hq
  · rw [a6 c] at hq; exact hq
  · rw [a7 c] at hq; exact hq
  · rw [a8 c] at hq; exact hq
  · rw [a9 c] at hq; exact hq
  · rw [a10 c] at hq; exact hq
  · rw [a11 c] at hq; exact hq
  · rw [a12 c] at hq; exact hq
  · rw [a13 c] at hq; exact hq
  · rw [a14 c] at hq; exact hq
  · rw [a15 c] at hq; exact hq
  · rw [a16 c] at hq; exact hq
  · rcases a17 with e | e | e | e | e | e | e
    · rw [e] at hq; exact hq
    · exact absurd (congrArg nI e) c1
    · exact absurd (congrArg nI e) c2
    · exact absurd (congrArg nI e) c3
    · exact absurd (congrArg nI e) c6
    · exact absurd (congrArg nI e) c8
    · exact absurd (congrArg nI e) c16
theorem RQ_bad {tp : Nat → Nat} {n : Nat} {mi mi' : TMi} {c0 c c' : Nat} {s : PS} {r : PS × FF} (h1 : RP mi' tp n r.1) (h2 : FP mi mi') (h3 : ∀ k, k < 470 → mi' 123 k = mi 123 k) (h4 : zQ s ≤ zQ r.1) (h5 : mi' 123 470 = nI c') (h6 : c' ≤ 900) (h7 : ¬ zF r.1 = 0) : RQ tp n mi mi' c0 c s r := ⟨h1, h2, h3, h4, c', h5, h6, fun k => absurd k h7⟩
theorem RQ.tok {tp : Nat → Nat} {n : Nat} {mi m1 m2 m3 : TMi} {c0 c : Nat} {s s1 s2 : PS} {r : PS × FF} (h : RQ tp n m1 m2 c0 c s1 r) (F1 : FT mi m1) (F2 : FT m2 m3) (hP : RP m3 tp n s2) (a1 : zF s1 = 0 → zF s = 0) (a2 : zQ s ≤ zQ s1) (b1 : zF s2 = 0 → zF r.1 = 0) (b2 : zQ r.1 ≤ zQ s2) : RQ tp n mi m3 c0 c s (s2, r.2) := by
  obtain ⟨h1, h2, h3, h4, c', h5, h6, h7⟩ := h
  refine ⟨hP, (F1.p.trans h2).trans F2.p, fun k hk => by rw [F2.f, h3 k hk, F1.f], by show zQ s ≤ zQ s2; omega, c', by rw [F2.f]; exact h5, h6, fun q => ?_⟩
  obtain ⟨i1, i2, i3, i4, i5⟩ := h7 (b1 q)
  exact ⟨a1 i1, i2, by show c' + zQ s ≤ c + zQ s2; omega, fun j hj => by rw [F2.f, i4 j hj, F1.f], by rw [F2.f]; exact i5⟩
theorem RQ_seq {tp : Nat → Nat} {n : Nat} {mi m1 m2 : TMi} {c0 c c1 : Nat} {s s1 : PS} {r : PS × FF} (F1 : FP mi m1) (s3 : ∀ k, k < 470 → m1 123 k = mi 123 k) (q1 : zQ s ≤ zQ s1) (g : zF s1 = 0 → zF s = 0 ∧ c ≤ c1 ∧ c1 + zQ s ≤ c + zQ s1 ∧ ∀ j, j < c → m1 123 (471 + j) = mi 123 (471 + j)) (C2 : RQ tp n m1 m2 c0 c1 s1 r) : RQ tp n mi m2 c0 c s r := by
  obtain ⟨p1, p2, p3, p4, c', p5, p6, p7⟩ := C2
  refine ⟨p1, F1.trans p2, fun k hk => by rw [p3 k hk, s3 k hk], by omega, c', p5, p6, fun q => ?_⟩
  obtain ⟨i1, i2, i3, i4, i5⟩ := p7 q
  obtain ⟨g1, g2, g3, g4⟩ := g i1
  exact ⟨g1, by omega, by omega, fun j hj => by rw [i4 j (by omega), g4 j hj], i5⟩
theorem r_stop {tp : Nat → Nat} {n : Nat} {s : PS} {a : FF} {mi : TMi} {c0 c : Nat} (hP : RP mi tp n s) (h11 : mi 123 470 = nI c) (hc : c ≤ 900) (hz : zF s = 0 → c ≤ zQ s ∧ c0 ≤ c ∧ RS (mi 123) c0 c a) : RQ tp n mi mi c0 c s (s, a) :=
  ⟨hP, FP.refl _, fun _ _ => rfl, Nat.le_refl _, c, h11, hc, fun q => by
    obtain ⟨z1, z2, z4⟩ := hz q
    exact ⟨q, Nat.le_refl _, Nat.le_refl _, fun _ _ => rfl, z4⟩⟩
theorem r_rf {tp : Nat → Nat} {n w : Nat} {s : PS} {a : FF} {mi m1 : TMi} {c0 c : Nat} (F1 : FT mi m1) (P1 : RP m1 tp n (zRf w s)) (h11 : mi 123 470 = nI c) (hc : c ≤ 900) (hw : 0 < w) : RQ tp n mi m1 c0 c s (zRf w s, a) :=
  RQ_bad P1 F1.p (fun k _ => by rw [F1.f]) (by show zQ s ≤ zQ (zRf w s); rw [zRf_Q]; exact Nat.le_refl _) (by rw [F1.f]; exact h11) hc (zRf_n hw)
def KR (l : Launch) (tp : Nat → Nat) (n f : Nat) (M : AMt) (m r : Nat) : Prop := ∀ (H d : Nat) (s : PS) (a : FF) (mi : TMi) (ml : TMl) (z c : Nat) (Q : TMi → TMl → Nat → Prop), 16 * (n - zQ s) + wt m ≤ f → d ≤ 6 → 12 * (6 - d) + 13 + r ≤ H → RP mi tp n s → mi 123 470 = nI c → c ≤ 900 → (zF s = 0 → c ≤ zQ s) → (∀ mi', RQ tp n mi mi' c c s (pz tp n f m d s a) → Q mi' ml z) → CV l H M [.ref 119, .int (nI d)] mi ml z Q
def KRL (l : Launch) (tp : Nat → Nat) (n f : Nat) (M : AMt) (ex : List Value) (m r : Nat) : Prop := ∀ (H d : Nat) (s : PS) (a : FF) (mi : TMi) (ml : TMl) (z c0 c : Nat) (Q : TMi → TMl → Nat → Prop), 16 * (n - zQ s) + wt m ≤ f → d ≤ 6 → 12 * (6 - d) + 13 + r ≤ H → RP mi tp n s → mi 123 470 = nI c → c ≤ 900 → (zF s = 0 → c ≤ zQ s ∧ c0 ≤ c ∧ RS (mi 123) c0 c a) → (∀ mi', RQ tp n mi mi' c0 c s (pz tp n f m d s a) → Q mi' ml z) → Ev l H M 5 (.ref 119 :: .int (nI d) :: ex, [], st mi ml z) (qV Q)
def KRI (l : Launch) (tp : Nat → Nat) (n f : Nat) : Prop := ∀ (H d : Nat) (s : PS) (a : FF) (mi : TMi) (ml : TMl) (z c : Nat) (Q : TMi → TMl → Nat → Prop), 16 * (n - zQ (zAdv tp n s)) + wt 10 ≤ f → d ≤ 6 → 12 * (6 - d) + 12 ≤ H → RP mi tp n s → zSees 13 s → mi 123 470 = nI c → c ≤ 900 → c ≤ zQ s → (∀ mi', RQ tp n mi mi' c c s (if d < 6 then pz tp n f 10 (d + 1) (zAdv tp n s) a else (zRf 4 s, a)) → Q mi' ml z) → CV l H m_R_readIf [.ref 119, .int (nI d)] mi ml z Q
/-- behind the first sum of a comparison -/
def KRX (l : Launch) (tp : Nat → Nat) (n f : Nat) : Prop := ∀ (H d : Nat) (s : PS) (a : FF) (m1 : TMi) (ml : TMl) (z c0 c : Nat) (Q : TMi → TMl → Nat → Prop), 16 * (n - zQ s) + wt 11 ≤ f → d ≤ 6 → 12 * (6 - d) + 13 + 2 ≤ H → RP m1 tp n s → m1 123 470 = nI c → c ≤ 900 → (zF s = 0 → c ≤ zQ s ∧ c0 ≤ c ∧ RS (m1 123) c0 c a) → (∀ mi', RQ tp n m1 mi' c0 c s (pz tp n f 11 d s a) → Q mi' ml z) → ∀ m2, FT m1 m2 → RP m2 tp n (cmpS tp n s) → CV l H m_R_readSum [.ref 119, .int (nI d)] m2 ml z (fun mi7 ml7 z7 => CV l H m_R_codes [.ref 119, .int (cmpO s)] mi7 ml7 z7 (fun mi8 ml8 z8 => Q mi8 ml8 z8))
theorem r_head {l : Launch} {tp : Nat → Nat} {n f : Nat} {M MA : AMt} {ex : List Value} {m ml' ms r rs : Nat} (hA : KR l tp n f MA ms rs) (hL : KRL l tp n f M ex ml' r) (w1 : wt ms + 1 ≤ wt m) (w2 : wt ml' + 1 ≤ wt m) (hr : rs + 1 ≤ r)
    (hw : ∀ (h d : Nat) (mi : TMi) (ml : TMl) (z : Nat) (Q : TMi → TMl → Nat → Prop), CV l h MA [.ref 119, .int (nI d)] mi ml z (fun mi1 ml1 z1 => Ev l (h + 1) M 5 (.ref 119 :: .int (nI d) :: ex, [], st mi1 ml1 z1) (qV Q)) → CV l (h + 1) M [.ref 119, .int (nI d)] mi ml z Q)
    (he : ∀ d s a, pz tp n (f + 1) m d s a = pz tp n f ml' d (pz tp n f ms d s a).1 (pz tp n f ms d s a).2) : KR l tp n (f + 1) M m r := by
  intro H d s a mi ml z c Q hm hd hH hP h11 hc hz hq
  obtain ⟨h, rfl⟩ : ∃ h, H = h + 1 := ⟨H - 1, by omega⟩
  rw [he] at hq
  refine hw h d mi ml z Q (hA h d s a mi ml z c _ (by omega) hd (by omega) hP h11 hc hz (fun m1 C1 => ?_))
  obtain ⟨p1, p2, p3, p4, c1, p5, p6, p7⟩ := C1
  refine hL (h + 1) d _ _ m1 ml z c c1 Q (by omega) hd hH p1 p5 p6 (fun q => ?_) (fun m2 C2 => hq m2 (RQ_seq p2 p3 p4 (fun q => ?_) C2))
  · obtain ⟨i1, i2, i3, i4, i5⟩ := p7 q
    exact ⟨by have := hz i1; omega, i2, i5⟩
  · obtain ⟨i1, i2, i3, i4, i5⟩ := p7 q
    exact ⟨i1, i2, i3, i4⟩
/-- a turn of a loop, behind its token -/
theorem r_body {l : Launch} {tp : Nat → Nat} {n f : Nat} {M MA : AMt} {ex : List Value} {m ms r rs : Nat} {o : Int32} (hA : KR l tp n f MA ms rs) (hL : KRL l tp n f M ex m r) (w1 : wt ms ≤ 16) (w0 : 1 ≤ wt m) (hr : rs + 1 ≤ r) (o1 : 3000 ≤ o) (o2 : ¬ o = 3006) (o3 : ¬ o = 3009)
    {h d : Nat} {s : PS} {a : FF} {mi m1 : TMi} {ml : TMl} {z c0 c : Nat} {Q : TMi → TMl → Nat → Prop} (hm : 16 * (n - zQ s) + wt m ≤ f + 1) (hd : d ≤ 6) (hH : 12 * (6 - d) + 13 + r ≤ h + 13) (hP : RP mi tp n s) (h11 : mi 123 470 = nI c) (hc : c ≤ 900) (hz : zF s = 0 → c ≤ zQ s ∧ c0 ≤ c ∧ RS (mi 123) c0 c a) (q0 : zF s = 0) (qk : ¬ zK s = 22) (F1 : FT mi m1) (P1 : RP m1 tp n (zAdv tp n s))
    (hq : ∀ mi', RQ tp n mi mi' c0 c s (pz tp n f m d (pz tp n f ms d (zAdv tp n s) a).1 (fun W => opV o (a W) ((pz tp n f ms d (zAdv tp n s) a).2 W))) → Q mi' ml z) :
    CV l (h + 12) MA [.ref 119, .int (nI d)] m1 ml z (fun mi10 ml10 z10 => CV l (h + 12) m_R_codes [.ref 119, .int o] mi10 ml10 z10 (fun mi11 ml11 z11 => Ev l (h + 13) M 5 (.ref 119 :: .int (nI d) :: ex, [], st mi11 ml11 z11) (qV Q))) := by
  have hn9 := hP.1.2.1
  have ok := hP.2.1
  have lt := zAdv_lt (tp := tp) ok q0 qk
  obtain ⟨z1, z2, z4⟩ := hz q0
  have b1 : zQ (zAdv tp n s) ≤ n := Nat.le_trans P1.2.1.2.1 P1.2.1.1
  refine hA (h + 12) d _ a m1 ml z c _ (by omega) hd (by omega) P1 (by rw [F1.f]; exact h11) hc (fun _ => by omega) (fun m2 C2 => ?_)
  obtain ⟨p1, p2, p3, p4, c1, p5, p6, p7⟩ := C2
  have b2 : zQ (pz tp n f ms d (zAdv tp n s) a).1 ≤ n := Nat.le_trans p1.2.1.2.1 p1.2.1.1
  refine c_R_codes p1 p5 p6 (fun q => by have := p7 q; omega) (fun m3 c2 F3 P3 s3 k3 k4 k5 => ?_)
  have good : zF (pz tp n f ms d (zAdv tp n s) a).1 = 0 → c2 = c1 + 1 ∧ c ≤ c1 ∧ c1 + zQ (zAdv tp n s) ≤ c + zQ (pz tp n f ms d (zAdv tp n s) a).1 ∧ (∀ j, j < c → m3 123 (471 + j) = mi 123 (471 + j)) ∧ RS (m3 123) c c1 (pz tp n f ms d (zAdv tp n s) a).2 ∧ m3 123 (471 + c1) = o := fun q => by
    obtain ⟨i1, i2, i3, i4, i5⟩ := p7 q
    obtain ⟨j1, j2, j3⟩ := k5 q
    exact ⟨j1, i2, i3, fun j hj => by rw [j3 j (by omega), i4 j hj, F1.f], i5.fr (fun j _ hj => j3 j (by omega)), j2⟩
  refine hL (h + 13) d _ _ m3 ml z c0 c2 Q (by omega) hd hH P3 k3 k4 (fun q => ?_) (fun m4 C4 => hq m4 (RQ_seq ((F1.p.trans p2).trans F3) (fun k hk => by rw [s3 k hk, p3 k hk, F1.f]) (by omega) (fun q => ?_) C4))
  · obtain ⟨i1, i2, i3, i4, i5, i6⟩ := good q
    rw [i1]
    exact ⟨by omega, by omega, RS_op2 (z4.fr (fun j _ hj => i4 j hj)) i5 (fun W _ t => by rw [i6]; exact rst_bin o1 o2 o3)⟩
  · obtain ⟨i1, i2, i3, i4, i5, i6⟩ := good q
    exact ⟨q0, by omega, by omega, i4⟩
