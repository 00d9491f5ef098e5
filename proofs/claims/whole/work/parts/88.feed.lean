/-! ===== feed of both ===== -/
def byN (w : Int32) : Nat := w.toBitVec.toNat % 256
theorem byN_lt (w : Int32) : byN w < 256 := Nat.mod_lt _ (by decide)
theorem byN_and (w : Int32) : w &&& 255 = nI (byN w) := by
  apply Int32.toBitVec_inj.mp
  apply BitVec.eq_of_toNat_eq
  have h1 : (w &&& 255).toBitVec.toNat = w.toBitVec.toNat &&& 255 := by rw [Int32.toBitVec_and, BitVec.toNat_and]; rfl
  have h2 : (nI (byN w)).toBitVec.toNat = byN w := by
    have := byN_lt w
    show (BitVec.ofNat 32 (byN w)).toNat = _
    rw [BitVec.toNat_ofNat, Nat.mod_eq_of_lt (by omega)]
  rw [h1, h2]
  exact Nat.and_two_pow_sub_one_eq_mod _ 8
theorem sby_all : ∀ n, n < 256 → vp_nar .byte ((Int8.ofBitVec (BitVec.ofNat 8 n)).toInt32) = sby n := by decide +kernel
theorem byN_nar (w : Int32) : vp_nar .byte (w.toInt8.toInt32) = sby (byN w) := by
  have e : w.toInt8 = Int8.ofBitVec (BitVec.ofNat 8 (byN w)) := by
    apply Int8.toBitVec_inj.mp
    apply BitVec.eq_of_toNat_eq
    show (w.toBitVec.signExtend 8).toNat = (BitVec.ofNat 8 (byN w)).toNat
    rw [BitVec.signExtend_eq_setWidth_of_le _ (by decide), BitVec.toNat_setWidth, BitVec.toNat_ofNat]
    unfold byN
    omega
  rw [e]
  exact sby_all _ (byN_lt w)
def shK (k : Nat) : Int32 := nI (24 - 8 * k) &&& 31
def tp4 (tp : Nat → Nat) (n : Nat) (v : Int32) : Nat → Nat := fun j => if j < n then tp j else byN (v >>> shK (j - n))
def s2K (k : Nat) : Int32 := if k = 4 then -8 else nI (24 - 8 * k)
theorem s2K_lt : ∀ k, k < 4 → (¬ s2K k < 0) ∧ s2K k + (-8) = s2K (k + 1) ∧ s2K k &&& 31 = shK k := by decide
theorem TpC.cong {mi : TMi} {n : Nat} {tp tp' : Nat → Nat} (h : TpC mi n tp) (e : ∀ j, j < n → tp' j = tp j) : TpC mi n tp' := ⟨h.1, h.2.1, fun j hj => by rw [e j hj]; exact h.2.2 j hj⟩
theorem c_tapeInt {l : Launch} {h : Nat} {mi : TMi} {ml : TMl} {z : Nat} {n : Nat} {tp : Nat → Nat} {v : Int32} {Q : TMi → TMl → Nat → Prop} (hT : TpC mi n tp) (hn : n + 4 ≤ 900) (hq : ∀ mi', (∀ k, k ≠ 1 → k ≠ 2 → mi' k = mi k) → (∀ k, k ≠ 1 → mi' 1 k = mi 1 k) → TpC mi' (n + 4) (tp4 tp n v) → Q mi' ml z) : CV l (h + 1) m_B_tapeInt [.ref 1, .int v] mi ml z Q := by
  refine t_B_tapeInt mi ml z _ ?_
  have key := loop (P := fun k => ∀ m, (∀ q, q ≠ 1 → q ≠ 2 → m q = mi q) → (∀ q, q ≠ 1 → m 1 q = mi 1 q) → TpC m (n + k) (tp4 tp n v) → Ev l (h + 1) m_B_tapeInt 3 ([.ref 1, .int v, .int (s2K k)], [], st m ml z) (qV Q)) 4 (fun m E1 E2 E3 => t_B_tapeInt_3 m ml z _ _ ⟨fun _ => hq m E1 E2 E3, fun c => absurd (by decide) c⟩) (fun k hk ih m E1 E2 E3 => ?_) mi (fun _ _ _ => rfl) (fun _ _ => rfl) (hT.cong (fun j hj => if_pos hj))
  · exact key
  · obtain ⟨k1, k2, k3⟩ := s2K_lt k hk
    refine t_B_tapeInt_3 m ml z _ _ ⟨fun c => absurd c k1, fun _ => ?_⟩
    rw [k2, k3, E3.1, cl_nI (by omega), byN_nar]
    refine ⟨fun c => absurd c (fun c => ?_), fun _ => ⟨in_nI (by omega) (by decide), ?_⟩⟩
    · have := (nI_leI (a := 900) (b := n + k) (by decide) (by omega)).mp c
      omega
    · rw [up_ne _ _ _ (by decide), E3.1, nI_1]
      refine ih _ (fun q q1 q2 => by rw [up_ne _ _ _ q1, up_ne _ _ _ q2]; exact E1 q q1 q2) (fun q hq' => by rw [up_nk _ _ _ hq', up_ne _ _ _ (by decide)]; exact E2 q hq') ⟨up_at _ _ _ _, by omega, fun j hj => ?_⟩
      rw [up_ne _ _ _ (by decide)]
      by_cases e : j = n + k
      · rw [e, up_at]
        have : tp4 tp n v (n + k) = byN (v >>> shK k) := by unfold tp4; rw [if_neg (by omega), show n + k - n = k by omega]
        rw [this]
        exact ⟨rfl, byN_lt _⟩
      · rw [up_nk _ _ _ e]; exact E3.2.2 j (by omega)
theorem IC.tp {mi mi' : TMi} {ml : TMl} {a : Ln} {d : Dt} {hs : List Dt} {im : Nat → Option (Ln × Dt)} {ty : Ty} {n n' : Nat} {tp tp' : Nat → Nat} {fk fp : Int32} (h : IC mi ml a d hs im ty n tp fk fp) (F : ∀ k, k ≠ 1 → k ≠ 2 → mi' k = mi k) (F1 : ∀ k, k ≠ 1 → mi' 1 k = mi 1 k) (hT : TpC mi' n' tp') : IC mi' ml a d hs im ty n' tp' fk fp := by
  obtain ⟨h1, h2, h3, h4, h5, h6, h7, h8, h9⟩ := h
  exact ⟨h1.fr (fun k k1 k2 => F k (by omega) (by omega)), h2.fr (fun k k1 k2 => F k (by omega) (by omega)), h3, h4.fr (fun k hk => F k (by omega) (by omega)), h5.fr (fun k k1 k2 => F k (by omega) (by omega)), hT, by rw [F1 5 (by decide)]; exact h7, by rw [F1 6 (by decide)]; exact h8, by rw [F 11 (by decide) (by decide)]; exact h9⟩
def pk5 (v1 v2 v3 v4 v5 : Int32) (i : Nat) : Int32 := if i = 0 then v1 else if i = 1 then v2 else if i = 2 then v3 else if i = 3 then v4 else v5
def tpF (tp : Nat → Nat) (n : Nat) (v : Nat → Int32) : Nat → Nat := fun j => if j < n then tp j else byN (v ((j - n) / 4) >>> shK ((j - n) % 4))
theorem c_B_feed {l : Launch} {h : Nat} {mi : TMi} {ml : TMl} {z : Nat} {a : Ln} {d : Dt} {hs : List Dt} {im : Nat → Option (Ln × Dt)} {ty : Ty} {n : Nat} {tp : Nat → Nat} {fk fp v1 v2 v3 v4 v5 : Int32} {Q : Int32 → TMi → TMl → Nat → Prop} (hI : IC mi ml a d hs im ty n tp fk fp)
    (hq0 : 880 < n → Q (-5) mi ml z) (hq1 : n ≤ 880 → ∀ m3, (∀ n, 119 ≤ n → m3 n = mi n) → IC m3 ml a d hs im ty (n + 20) (tpF tp n (pk5 v1 v2 v3 v4 v5)) fk fp → Q (nI (n + 20)) m3 ml z) : CI l (h + 2) m_B_feed [.ref 1, .int v1, .int v2, .int v3, .int v4, .int v5] mi ml z Q := by
  have hT := hI.2.2.2.2.2.1
  have hn := hT.2.1
  refine t_B_feed mi ml z _ _ _ _ _ ?_
  rw [hT.1]
  show (nI n ≤ nI 880 → _) ∧ (¬ nI n ≤ nI 880 → _)
  rw [nI_leI (by omega) (by decide)]
  refine ⟨fun c => ?_, fun c => hq0 (by omega)⟩
  refine c_tapeInt hT (by omega) (fun m1 A1 B1 T1 => c_tapeInt T1 (by omega) (fun m2 A2 B2 T2 => c_tapeInt T2 (by omega) (fun m3 A3 B3 T3 => c_tapeInt T3 (by omega) (fun m4 A4 B4 T4 => c_tapeInt T4 (by omega) (fun m5 A5 B5 T5 => ?_)))))
  have A : ∀ k, k ≠ 1 → k ≠ 2 → m5 k = mi k := fun k k1 k2 => by rw [A5 k k1 k2, A4 k k1 k2, A3 k k1 k2, A2 k k1 k2, A1 k k1 k2]
  have B : ∀ k, k ≠ 1 → m5 1 k = mi 1 k := fun k k1 => by rw [B5 k k1, B4 k k1, B3 k k1, B2 k k1, B1 k k1]
  have T : TpC m5 (n + 20) (tpF tp n (pk5 v1 v2 v3 v4 v5)) := by
    refine TpC.cong T5 (fun j hj => ?_)
    unfold tpF tp4
    by_cases g0 : j < n
    · rw [if_pos g0, if_pos (by omega), if_pos (by omega), if_pos (by omega), if_pos (by omega), if_pos g0]
    · rw [if_neg g0]
      by_cases g1 : j < n + 4
      · rw [if_pos (by omega), if_pos (by omega), if_pos (by omega), if_pos g1, if_neg g0, show (j - n) / 4 = 0 by omega, show (j - n) % 4 = j - n by omega]; rfl
      · by_cases g2 : j < n + 4 + 4
        · rw [if_pos (by omega), if_pos (by omega), if_pos g2, if_neg g1, show (j - n) / 4 = 1 by omega, show (j - n) % 4 = j - (n + 4) by omega]; rfl
        · by_cases g3 : j < n + 4 + 4 + 4
          · rw [if_pos (by omega), if_pos g3, if_neg g2, show (j - n) / 4 = 2 by omega, show (j - n) % 4 = j - (n + 4 + 4) by omega]; rfl
          · by_cases g4 : j < n + 4 + 4 + 4 + 4
            · rw [if_pos g4, if_neg g3, show (j - n) / 4 = 3 by omega, show (j - n) % 4 = j - (n + 4 + 4 + 4) by omega]; rfl
            · rw [if_neg g4, show (j - n) / 4 = 4 by omega, show (j - n) % 4 = j - (n + 4 + 4 + 4 + 4) by omega]; rfl
  rw [T.1]
  exact hq1 c m5 (fun k hk => A k (by omega) (by omega)) (hI.tp A B T)
theorem IR.tp {mi mi' : TMi} {ml : TMl} {a : Ln} {d : Dt} {hs : List Dt} {im : Nat → Option (Ln × Dt)} {ty : Ty} {n n' : Nat} {tp tp' : Nat → Nat} {fk fp : Int32} (h : IR mi ml a d hs im ty n tp fk fp) (F : ∀ k, k ≠ 119 → k ≠ 122 → mi' k = mi k) (F1 : ∀ k, k ≠ 5 → mi' 119 k = mi 119 k) (hT : TpR mi' n' tp') : IR mi' ml a d hs im ty n' tp' fk fp := by
  obtain ⟨h1, h2, h3, h4, h5, h6, h7⟩ := h
  have e0 := F 120 (by decide) (by decide)
  refine ⟨⟨h1.1, h1.2.1, h1.2.2.1, by rw [e0]; exact h1.2.2.2.1, h1.2.2.2.2.fr e0⟩, by rw [e0]; exact h2, fun i hi => ?_, h4.fr (F 134 (by decide) (by decide)) (F 135 (by decide) (by decide)), hT, by rw [F1 13 (by decide)]; exact h6, by rw [F1 14 (by decide)]; exact h7⟩
  rw [F 121 (by decide) (by decide), e0]
  exact h3 i hi
theorem shF20 : ∀ j, j < 20 → (24 - (8 * (a_rem (nI j) 4))) &&& 31 = shK (j % 4) := by decide +kernel
theorem c_R_feed {l : Launch} {h : Nat} {mi : TMi} {ml : TMl} {z : Nat} {a : Ln} {d : Dt} {hs : List Dt} {im : Nat → Option (Ln × Dt)} {ty : Ty} {n : Nat} {tp : Nat → Nat} {fk fp v1 v2 v3 v4 v5 : Int32} {Q : Int32 → TMi → TMl → Nat → Prop} (hI : IR mi ml a d hs im ty n tp fk fp) (hn : n ≤ 900)
    (hq0 : 880 < n → ∀ m3, (∀ n, n < 119 → m3 n = mi n) → IR m3 ml a d hs im ty n tp fk fp → Q (-5) m3 ml z) (hq1 : n ≤ 880 → ∀ m3, (∀ n, n < 119 → m3 n = mi n) → IR m3 ml a d hs im ty (n + 20) (tpF tp n (pk5 v1 v2 v3 v4 v5)) fk fp → Q (nI (n + 20)) m3 ml z) : CI l (h + 1) m_R_feed [.ref 119, .int v1, .int v2, .int v3, .int v4, .int v5] mi ml z Q := by
  have F0 : FQ mi (up mi 119 0 0) := FQ.u119 _ _ (by decide)
  have hI0 := hI.fr (F0.x hI.1)
  have G0 : ∀ q, q < 119 → (up mi 119 0 0) q = mi q := fun q hq => F0.1 q (by omega)
  refine t_R_feed mi ml z _ _ _ _ _ ?_
  generalize up mi 119 0 0 = m0 at hI0 G0 ⊢
  have hT := hI0.2.2.2.2.1
  rw [hT.1]
  show (nI n + nI 20 ≤ nI 900 → _) ∧ (¬ nI n + nI 20 ≤ nI 900 → _)
  rw [nI_add, nI_leI (by omega) (by decide)]
  refine ⟨fun c => ?_, fun c => hq0 (by omega) _ G0 hI0⟩
  have hq1 := hq1 (by omega)
  refine loop (P := fun k => ∀ m, (∀ q, q ≠ 119 → q ≠ 122 → m q = m0 q) → (∀ q, q ≠ 5 → m 119 q = m0 119 q) → TpR m (n + k) (tpF tp n (pk5 v1 v2 v3 v4 v5)) → Ev l (h + 1) m_R_feed 24 ([.ref 119, .int v1, .int v2, .int v3, .int v4, .int v5, .int (nI k), .retAddr 0], [], st m ml z) (qI Q)) 20 (fun m E1 E2 E3 => ?_) (fun k hk ih m E1 E2 E3 => ?_) m0 (fun _ _ _ => rfl) (fun _ _ => rfl) ⟨hT.1, fun j hj => by rw [hT.2 j hj]; unfold tpF; rw [if_pos (show j < n from hj)]⟩
  · refine t_R_feed_24 m ml z _ _ _ _ _ _ ⟨fun _ => ?_, fun c => absurd (by decide) c⟩
    rw [E3.1]
    exact hq1 m (fun q hq => by rw [E1 q (by omega) (by omega)]; exact G0 q hq) (hI0.tp E1 E2 E3)
  · have nx : ∀ w, w = pk5 v1 v2 v3 v4 v5 (k / 4) → (vp_in (m 119 5) 900) ∧ Ev l (h + 1) m_R_feed 24 ([.ref 119, .int v1, .int v2, .int v3, .int v4, .int v5, .int (nI k + 1), .retAddr 0], [], st (up (up m 122 ((m 119 5).toNatClampNeg) ((w >>> ((24 - (8 * (a_rem (nI k) 4))) &&& 31)) &&& 255)) 119 5 (((up m 122 ((m 119 5).toNatClampNeg) ((w >>> ((24 - (8 * (a_rem (nI k) 4))) &&& 31)) &&& 255)) 119 5) + 1)) ml z) (qI Q) := fun w hw => by
      rw [up_ne _ _ _ (by decide), E3.1, cl_nI (by omega), nI_1, nI_1, shF20 k hk, byN_and]
      refine ⟨in_nI (by omega) (by decide), ih _ (fun q q1 q2 => by rw [up_ne _ _ _ q1, up_ne _ _ _ q2]; exact E1 q q1 q2) (fun q hq => by rw [up_nk _ _ _ hq, up_ne _ _ _ (by decide)]; exact E2 q hq) ⟨up_at _ _ _ _, fun j hj => ?_⟩⟩
      rw [up_ne _ _ _ (by decide)]
      by_cases e : j = n + k
      · rw [e, up_at]
        unfold tpF
        rw [if_neg (by omega), show n + k - n = k by omega, ← hw]
      · rw [up_nk _ _ _ e]; exact E3.2 j (by omega)
    refine t_R_feed_24 m ml z _ _ _ _ _ _ ⟨fun c => absurd c (ge_no (N := 20) rfl (by decide) hk), fun _ => ?_⟩
    have L : ∀ N : Nat, N < 100 → ((nI N ≤ nI k) ↔ N ≤ k) := fun N hN => by rw [nI_leI (by omega) (by omega)]
    refine ⟨fun c4 => ⟨fun c8 => ⟨fun c12 => ⟨fun c16 => nx _ ?_, fun c16 => nx _ ?_⟩, fun c12 => nx _ ?_⟩, fun c8 => nx _ ?_⟩, fun c4 => nx _ ?_⟩
    · have := (L 16 (by decide)).mp c16; rw [show k / 4 = 4 by omega]; rfl
    · have := (L 12 (by decide)).mp c12; have : ¬ 16 ≤ k := fun q => c16 ((L 16 (by decide)).mpr q); rw [show k / 4 = 3 by omega]; rfl
    · have := (L 8 (by decide)).mp c8; have : ¬ 12 ≤ k := fun q => c12 ((L 12 (by decide)).mpr q); rw [show k / 4 = 2 by omega]; rfl
    · have := (L 4 (by decide)).mp c4; have : ¬ 8 ≤ k := fun q => c8 ((L 8 (by decide)).mpr q); rw [show k / 4 = 1 by omega]; rfl
    · have : ¬ 4 ≤ k := fun q => c4 ((L 4 (by decide)).mpr q); rw [show k / 4 = 0 by omega]; rfl
