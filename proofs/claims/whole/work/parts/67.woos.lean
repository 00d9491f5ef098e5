/-! ===== gifts: the class's search ===== -/
theorem nlz1 : ∀ m, m < 1024 → 0 < m → nI m < 4 → (31 : Int32) - a_ushr (nI m) 1 = nI (31 - Nat.log2 m) := by decide +kernel
theorem nlz2 : ∀ m, m < 1024 → nI m < 16 → ¬ nI m < 4 → ((31 : Int32) + (-2)) - a_ushr (a_ushr (nI m) 2) 1 = nI (31 - Nat.log2 m) := by decide +kernel
theorem nlz3 : ∀ m, m < 1024 → nI m < 256 → ¬ nI m < 16 → a_ushr (nI m) 4 < 4 → ((31 : Int32) + (-4)) - a_ushr (a_ushr (nI m) 4) 1 = nI (31 - Nat.log2 m) := by decide +kernel
theorem nlz4 : ∀ m, m < 1024 → nI m < 256 → ¬ nI m < 16 → ¬ a_ushr (nI m) 4 < 4 → (((31 : Int32) + (-4)) + (-2)) - a_ushr (a_ushr (a_ushr (nI m) 4) 2) 1 = nI (31 - Nat.log2 m) := by decide +kernel
theorem nlz5 : ∀ m, m < 1024 → ¬ nI m < 256 → a_ushr (nI m) 8 < 16 ∧ a_ushr (nI m) 8 < 4 ∧ ((31 : Int32) + (-8)) - a_ushr (a_ushr (nI m) 8) 1 = nI (31 - Nat.log2 m) := by decide +kernel
theorem c_nlz {l : Launch} {h : Nat} {mi : TMi} {ml : TMl} {z : Nat} {m : Nat} {Q : Int32 → TMi → TMl → Nat → Prop} (hm : m < 1024) (h0 : 0 < m) (hq : Q (nI (31 - Nat.log2 m)) mi ml z) : CI l (h + 1) m_JI_numberOfLeadingZeros [.int (nI m)] mi ml z Q := by
  have p1 : (0 : Int32) < nI m := (nI_ltI (a := 0) (b := m) (by decide) (by omega)).mpr h0
  have p2 : nI m < (65536 : Int32) := (nI_ltI (a := m) (b := 65536) (by omega) (by decide)).mpr (by omega)
  refine t_JI_numberOfLeadingZeros mi ml z _ ⟨fun _ => ⟨fun _ => ⟨fun c => ⟨fun c2 => ⟨fun c3 => ?_, fun c3 => ?_⟩, fun c2 => ⟨fun c3 => ?_, fun c3 => ?_⟩⟩, fun c => ⟨fun c2 => ⟨fun c3 => ?_, fun c3 => ?_⟩, fun c2 => ?_⟩⟩, fun c => absurd p2 c⟩, fun c => absurd p1 c⟩
  · rw [nlz1 m hm h0 c3]; exact hq
  · rw [nlz2 m hm c2 c3]; exact hq
  · rw [nlz3 m hm c c2 c3]; exact hq
  · rw [nlz4 m hm c c2 c3]; exact hq
  · rw [(nlz5 m hm c).2.2]; exact hq
  · exact absurd (nlz5 m hm c).2.1 c3
  · exact absurd (nlz5 m hm c).1 c2
theorem tb_log : ∀ m, m < 1024 → ∀ k, k < 10 → tb m k = true → k ≤ Nat.log2 m := by decide +kernel
theorem log_10 : ∀ m, m < 1024 → Nat.log2 m < 10 := by decide +kernel
theorem sub6 : ∀ s, s < 64 → ∀ v, v < 64 → (nI s &&& (nI v ^^^ (-1)) = 0 ↔ ∀ i, i < 6 → tb s i = true → tb v i = true) := by
  have : ∀ s, s < 64 → ∀ v, v < 64 → decide (nI s &&& (nI v ^^^ (-1)) = 0) = alln (fun i => !tb s i || tb v i) 6 := by decide +kernel
  intro s hs v hv
  have k := this s hs v hv
  rw [← decide_eq_true_iff (p := nI s &&& (nI v ^^^ (-1)) = 0), k, alln_iff]
  exact ⟨fun q i hi e => by have := q i hi; simpa [e] using this, fun q i hi => by cases e : tb s i; rfl; simp [q i hi e]⟩
theorem c_Wo_canBeEnough {l : Launch} {h : Nat} {m : TMi} {ml : TMl} {z : Nat} {a : Ln} {d : Dt} {r en : Nat} {p : Nat → Bool} {Q : Int32 → TMi → TMl → Nat → Prop} (hA : CA m a d) (hc : Cs (m 34) d) (hr : r < nR a) (h2 : m 68 2 = nI r) (h3 : m 68 3 = nI en) (hen : en ≤ 99) (h9 : m 68 9 = nI (enc p 6))
    (hq1 : Q 1 m ml z) (hq0 : (∀ s, s < 2 ^ nB a → (∀ i, i < 6 → tb s i = true → p i = true) → pop6 s ≤ dR d r → ¬ en ≤ smn (fun b => tb s b) (dF d) (nB a)) → Q 0 m ml z) : CI l (h + 3) m_Wo_canBeEnough [.ref 68] m ml z Q := by
  have ha := hA.1
  have hB6 := ha.1
  have hR4 := ha.2.1
  have hB64 : 2 ^ nB a ≤ 64 := Nat.pow_le_pow_right (show 2 > 0 by decide) hB6
  have hpos : 0 < 2 ^ nB a := Nat.pow_pos (by decide)
  refine t_Wo_canBeEnough m ml z ?_
  refine loop (P := fun s => (∀ s', s' < s → (∀ i, i < 6 → tb s' i = true → p i = true) → pop6 s' ≤ dR d r → ¬ en ≤ smn (fun b => tb s' b) (dF d) (nB a)) → Ev l (h + 3) m_Wo_canBeEnough 2 ([.ref 68, .int (nI s), .retAddr 0], [], st m ml z) (qI Q)) (2 ^ nB a) (fun hk => ?_) (fun s hs ih hk => ?_) (fun s' hs' => absurd hs' (Nat.not_lt_zero _))
  · exact t_Wo_canBeEnough_2 m ml z _ (c_allBecks hA.2.2.1.1 hB6 ⟨fun _ => hq0 hk, fun c => absurd ((nI_ltI (by omega) (by omega)).mpr (by omega)) c⟩)
  · have go : ((∀ i, i < 6 → tb s i = true → p i = true) → pop6 s ≤ dR d r → ¬ en ≤ smn (fun b => tb s b) (dF d) (nB a)) → Ev l (h + 3) m_Wo_canBeEnough 2 ([.ref 68, .int (nI s + 1), .retAddr 0], [], st m ml z) (qI Q) := fun hno => by
      rw [nI_1]
      refine ih (fun s' hs' => ?_)
      by_cases q : s' = s
      · rw [q]; exact hno
      · exact hk s' (by omega)
    have hp64 : enc p 6 < 64 := enc_lt p 6
    have hsub : (∀ i, i < 6 → tb s i = true → tb (enc p 6) i = true) ↔ (∀ i, i < 6 → tb s i = true → p i = true) := ⟨fun k i hi e => by rw [← enc_tb p 6 i hi]; exact k i hi e, fun k i hi e => by rw [enc_tb p 6 i hi]; exact k i hi e⟩
    refine t_Wo_canBeEnough_2 m ml z _ (c_allBecks hA.2.2.1.1 hB6 ⟨fun c => absurd ((nI_ltI (by omega) (by omega)).mp c) (by omega), fun _ => ?_⟩)
    rw [h9, sub6 s (by omega) _ hp64, hsub]
    refine ⟨fun c => go (fun k => absurd k c), fun c => c_bitCount (by omega) ?_⟩
    rw [h2]
    refine t_Sc_roomOf_33 _ _ _ _ ⟨in_addL (a := 12) (by omega) (by decide), ?_⟩
    have hrm := hc.rm ha hA.2.1 r hr
    have hpop : pop6 s ≤ 6 := cnt_le _ 6
    rw [addL_cl 12 r (by omega), hrm.1, nI_ltI (by omega) (by omega)]
    refine ⟨fun c2 => go (fun _ k => by omega), fun c2 => c_Sc_flowOfSet_33 hA.2.2.1.1 hB6 (by omega) (fun b hb => hc.2.1 b (by omega)) ?_⟩
    have h54 := smn_le (fun b => tb s b) (dF d) 9 (nB a) (fun b _ => (hA.2.1.2.1 b).1)
    rw [h3]
    show (nI (smn (fun b => tb s b) (dF d) (nB a)) < nI en → _) ∧ (¬ nI (smn (fun b => tb s b) (dF d) (nB a)) < nI en → _)
    rw [nI_ltI (by omega) (by omega)]
    exact ⟨fun c3 => go (fun _ _ => by omega), fun _ => hq1⟩
theorem c_Wo_hasEnough {l : Launch} {h : Nat} {m : TMi} {ml : TMl} {z : Nat} {a : Ln} {d : Dt} {r en : Nat} {w : Nat → Nat} {Q : Int32 → TMi → TMl → Nat → Prop} (hA : CA m a d) (ht : TrW m a d r w) (hr : r < nR a) (h2 : m 68 2 = nI r) (h3 : m 68 3 = nI en) (hen : en ≤ 99)
    (hq1 : E a d r en w → ∀ m', Fr [56, 57, 58, 59] m m' → Q 1 m' ml z) (hq0 : ¬ E a d r en w → ∀ m', Fr [56, 57, 58, 59] m m' → Q 0 m' ml z) : CI l (h + 5) m_Wo_hasEnough [.ref 68] m ml z Q := by
  have ha := hA.1
  have hB6 := ha.1
  have hR4 := ha.2.1
  refine t_Wo_hasEnough m ml z (c_allBecks hA.2.2.1.1 hB6 (c_Ma_bestForBecks_33 hA.2.2.1.1 hB6 hR4 ht.2 (ht.1.rm ha hA.2.1) (tb_all _ (by omega)).1 (fun m2 be F hw hbe => ?_)))
  have hbe' : BestA a (gvD d r w) be := hbe.like (dry_all hB6)
  have hA2 : CA m2 a d := hA.of F (by simp)
  rw [F 68 (by decide), h2]
  refine c_Sc_becksIn_33 (lw := 6) rfl (by decide) hA2.2.2.1.1 hB6 ?_
  rw [isW_enc hw hR4 (show r < 4 by omega)]
  refine c_Sc_flowOfSet_33 hA2.2.2.1.1 hB6 (enc_64 _ hB6) (fun b hb => by rw [F 34 (by decide)]; exact ht.1.2.1 b (by omega)) ?_
  rw [smn_enc, F 68 (by decide), h3]
  have h54 := smn_le (inn be r) (dF d) 9 (nB a) (fun b _ => (hA.2.1.2.1 b).1)
  show (nI (smn (inn be r) (dF d) (nB a)) < nI en → _) ∧ (¬ nI (smn (inn be r) (dF d) (nB a)) < nI en → _)
  rw [nI_ltI (by omega) (by omega)]
  have hE := E_best (en := en) ha hbe'
  exact ⟨fun c => hq0 (fun k => by have := hE.mp k; omega) m2 F, fun c => hq1 (hE.mpr (by omega)) m2 F⟩
def mfw (W : Nat → Nat) (b : Nat) : Nat → Nat
  | 0 => 0
  | k + 1 => mfw W (b + 1) k + Nat.log2 (W b)
theorem sm_mf {w W : Nat → Nat} : ∀ {k b : Nat}, (∀ i, b ≤ i → i < b + k → w i ≤ Nat.log2 (W i)) → sm w b k ≤ mfw W b k
  | 0, _, _ => Nat.le_refl _
  | k + 1, b, h => by
    simp only [sm, mfw]
    have := h b (Nat.le_refl _) (by omega)
    have := sm_mf (w := w) (W := W) (k := k) (b := b + 1) (fun i h1 h2 => h i (by omega) (by omega))
    omega
theorem mfw_le {W : Nat → Nat} (h : ∀ i, W i < 1024) : ∀ {k b : Nat}, mfw W b k ≤ 10 * k
  | 0, _ => Nat.le_refl _
  | k + 1, b => by
    simp only [mfw]
    have := mfw_le h (k := k) (b := b + 1)
    have := log_10 _ (h b)
    omega
/-- the rows that wooing keeps -/
def WoS (m : TMi) (a : Ln) (d : Dt) (r en : Nat) (W : Nat → Nat) : Prop := m 68 2 = nI r ∧ m 68 3 = nI en ∧ (∀ b, b < nB a → WL m a d r b (10 - dG d b r)) ∧ (∀ b, b < nB a → W b = enc (newB a d r b) (10 - dG d b r) ∧ m 72 b = nI (W b)) ∧ ∀ b, b ≤ nB a → m 73 b = nI (mfw W b (nB a - b))
theorem WoS.fr {m m' : TMi} {a : Ln} {d : Dt} {r en : Nat} {W : Nat → Nat} (h : WoS m a d r en W) (e : ∀ n, n = 68 ∨ n = 69 ∨ n = 70 ∨ n = 71 ∨ n = 72 ∨ n = 73 → m' n = m n) : WoS m' a d r en W := by
  obtain ⟨h1, h2, h3, h4, h5⟩ := h
  refine ⟨by rw [e 68 (by omega)]; exact h1, by rw [e 68 (by omega)]; exact h2, fun b hb => (h3 b hb).fr (e _ (by omega)) (e _ (by omega)) (e _ (by omega)), fun b hb => by rw [e 72 (by omega)]; exact h4 b hb, fun b hb => by rw [e 73 (by omega)]; exact h5 b hb⟩
theorem sm_split {w : Nat → Nat} : ∀ {k b j : Nat}, j ≤ k → sm w b k = sm w b j + sm w (b + j) (k - j)
  | k, b, 0, _ => by simp [sm]
  | 0, b, j + 1, h => by omega
  | k + 1, b, j + 1, h => by
    simp only [sm]
    rw [sm_split (k := k) (b := b + 1) (j := j) (by omega), show b + 1 + j = b + (j + 1) by omega, show k + 1 - (j + 1) = k - j by omega]
    omega
theorem find_range_le {f : Nat → Option (Nat → Nat)} {n M : Nat} {w : Nat → Nat} (h0 : ∀ x, x < n → x ≤ M → f x = none) (h1 : f n = some w) (hn : n ≤ M) : (List.range (M + 1)).findSome? f = some w := find_range (fun x hx => h0 x hx (by omega)) h1 (by omega)
theorem c_Wo_givesFrom {l : Launch} {ml : TMl} {z : Nat} {a : Ln} {d : Dt} {r en N : Nat} {e : (Nat → Nat) → Bool} {W : Nat → Nat} (hr : r < nR a) (hen : en ≤ 99) (he : ∀ w, e w = true ↔ E a d r en w) (hW : ∀ i, W i < 1024)
    (hmin : ∀ w, (∀ i, nB a ≤ i → w i = 0) → (∀ i, i < nB a → w i ≤ 9 - dG d i r) → sm w 0 (nB a) = N → e w = true → ∀ b, b < nB a → newB a d r b (w b) = true) : ∀ (k : Nat) {h b left : Nat} {m : TMi} {w wt : Nat → Nat} {Q : Int32 → TMi → TMl → Nat → Prop}, b + k = nB a → left ≤ 9 → sm w 0 b + left = N → CA m a d → WoS m a d r en W → TrW m a d r wt → (∀ i, i < b → wt i = w i) → (∀ i, b ≤ i → w i = 0) → (∀ i, w i ≤ 9 - dG d i r) → (∀ i, i < b → m 74 i = nI (w i)) →
    (fs e (fun b => dG d b r) k b left w = none → ∀ m' wt', Fr [35, 36, 37, 38, 39, 56, 57, 58, 59, 74] m m' → TrW m' a d r wt' → (∀ i, i < b → wt' i = w i) → (∀ i, i < b → m' 74 i = m 74 i) → Q 0 m' ml z) →
    (∀ w', fs e (fun b => dG d b r) k b left w = some w' → ∀ m', Fr [35, 36, 37, 38, 39, 56, 57, 58, 59, 74] m m' → (∀ i, i < nB a → m' 74 i = nI (w' i)) → Q 1 m' ml z) → CI l (h + k + 6) m_Wo_givesFrom [.ref 68, .int (nI b), .int (nI left)] m ml z Q := by
  intro k
  induction k with
  | zero =>
    intro h b left m w wt Q hbk hle hN hA hS ht hwt hz hv hm hq0 hq1
    have ha := hA.1
    have hB6 := ha.1
    refine t_Wo_givesFrom m ml z _ _ ⟨fun c => ?_, fun _ => ⟨fun c => hq0 ?_ m wt (Fr.refl _ _) ht hwt (fun _ _ => rfl), fun c => c_Wo_hasEnough hA ht hr hS.1 hS.2.1 hen (fun hE m' F => ⟨fun q => absurd q (by decide), fun _ => ?_⟩) (fun hE m' F => ⟨fun _ => ?_, fun q => absurd rfl q⟩)⟩⟩
    · rw [hA.2.2.1.1, nI_ltI (by omega) (by omega)] at c
      omega
    · simp only [fs]
      rw [if_neg (fun q => c (by rw [q.1]; rfl))]
    · have h0 : left = 0 := nI_inj (by omega) (by decide) c
      have hew : e w = true := (he w).mpr (hE.congr (fun i hi => hwt i (by omega)))
      exact hq1 w (by simp only [fs]; rw [if_pos ⟨h0, hew⟩]) m' (F.weak (by simp)) (fun i hi => by rw [F 74 (by decide)]; exact hm i (by omega))
    · have hew : ¬ e w = true := fun q => hE (((he w).mp q).congr (fun i hi => (hwt i (by omega)).symm))
      exact hq0 (by simp only [fs]; rw [if_neg (fun q => hew q.2)]) m' wt (F.weak (by simp)) (ht.fr (fun n h1 h2 => F n (by simp; omega))) hwt (fun i _ => by rw [F 74 (by decide)])
  | succ k ih =>
    intro h b left m w wt Q hbk hle hN hA hS ht hwt hz hv hm hq0 hq1
    have ha := hA.1
    have hB6 := ha.1
    have hbB : b < nB a := by omega
    have h9 := hA.2.1.2.2.2.1 b r
    obtain ⟨s1, s2, s3, s4, s5⟩ := hS
    have hS0 : WoS m a d r en W := ⟨s1, s2, s3, s4, s5⟩
    have hin7 : vp_in (nI b) 7 := in_nI (by omega) (by decide)
    have hin6 : vp_in (nI b) 6 := in_nI (by omega) (by decide)
    have hin71 : vp_in (nI (b + 1)) 7 := in_nI (by omega) (by decide)
    have hmf : ∀ {k b}, mfw W b k ≤ 10 * k := mfw_le hW
    have hmf0 := @hmf (nB a - b) b
    have hmf1 := @hmf (nB a - (b + 1)) (b + 1)
    -- any success has only new levels
    have good : ∀ n w', n ≤ left → fs e (fun b => dG d b r) k (b + 1) (left - n) (fun i => if i = b then n else w i) = some w' → n ≤ 9 - dG d b r → tb (W b) n = true ∧ left - n ≤ mfw W (b + 1) (nB a - (b + 1)) := fun n w' hn hf hn9 => by
      obtain ⟨f1, f2, f3, f4⟩ := fs_some hf
      have hwb : w' b = n := by rw [f1 b (Or.inl (by omega))]; simp
      have hwlo : ∀ i, i < b → w' i = w i := fun i hi => by rw [f1 i (Or.inl (by omega))]; simp [show ¬ i = b by omega]
      have hsum : sm w' 0 (nB a) = N := by
        rw [sm_split (k := nB a) (b := 0) (j := b) (by omega), show nB a - b = k + 1 by omega]
        simp only [sm]
        rw [Nat.zero_add, f3, hwb, sm_congr (w := w') (w' := w) (fun i _ hi => hwlo i (by omega))]
        omega
      have hval : ∀ i, i < nB a → w' i ≤ 9 - dG d i r := fun i hi => by
        by_cases q : i < b
        · rw [hwlo i q]; exact hv i
        · by_cases q2 : i = b
          · subst q2; rw [hwb]; exact hn9
          · exact f2 i (by omega) (by omega)
      have hnew := hmin w' (fun i hi => by rw [f1 i (Or.inr (by omega))]; simp [show ¬ i = b by omega, hz i (by omega)]) hval hsum f4
      have htb : ∀ i, i < nB a → tb (W i) (w' i) = true := fun i hi => by
        rw [(s4 i hi).1, enc_tb _ _ _ (by have := hval i hi; have := hA.2.1.2.2.2.1 i r; omega)]
        exact hnew i hi
      refine ⟨by rw [← hwb]; exact htb b hbB, ?_⟩
      have := sm_mf (w := w') (W := W) (k := k) (b := b + 1) (fun i h1 h2 => tb_log _ (hW i) _ (by have := hval i (by omega); omega) (htb i (by omega)))
      rw [f3] at this
      rw [show nB a - (b + 1) = k by omega]
      exact this
    have e73 := s5 b (by omega)
    have e731 := s5 (b + 1) (by omega)
    have emf : mfw W b (nB a - b) = mfw W (b + 1) (nB a - (b + 1)) + Nat.log2 (W b) := by
      rw [show nB a - b = (nB a - (b + 1)) + 1 by omega]
      rfl
    refine t_Wo_givesFrom m ml z _ _ ⟨fun _ => ⟨hin7, ?_⟩, fun c => absurd ?_ c⟩
    · rw [cl_nI (show b < 2 ^ 31 by omega), nI_1, cl_nI (show b + 1 < 2 ^ 31 by omega), e73, e731, nI_leI (by omega) (by omega)]
      have hnone : (∀ n, n ≤ min left (9 - dG d b r) → fs e (fun b => dG d b r) k (b + 1) (left - n) (fun i => if i = b then n else w i) = none) → fs e (fun b => dG d b r) (k + 1) b left w = none := fun hn => by
        simp only [fs]
        rw [List.findSome?_eq_none_iff]
        exact fun n hn' => hn n (by rw [List.mem_range] at hn'; omega)
      have nosome : ∀ {n}, (∀ w', ¬ fs e (fun b => dG d b r) k (b + 1) (left - n) (fun i => if i = b then n else w i) = some w') → fs e (fun b => dG d b r) k (b + 1) (left - n) (fun i => if i = b then n else w i) = none := fun {n} hh => by
        cases q : fs e (fun b => dG d b r) k (b + 1) (left - n) (fun i => if i = b then n else w i) with
        | none => rfl
        | some x => exact absurd q (hh x)
      refine ⟨fun c => ⟨hin71, ?_⟩, fun c => hq0 (hnone (fun n hn => nosome (fun w' hf => ?_))) m wt (Fr.refl _ _) ht hwt (fun _ _ => rfl)⟩
      · -- the first level
        obtain ⟨F0, hF0, hF1⟩ : ∃ F0, (if (0 : Int32) < nI left - nI (mfw W (b + 1) (nB a - (b + 1))) then nI left - nI (mfw W (b + 1) (nB a - (b + 1))) else 0) = nI F0 ∧ F0 = left - mfw W (b + 1) (nB a - (b + 1)) := by
          refine ⟨_, ?_, rfl⟩
          have eT : (nI left - nI (mfw W (b + 1) (nB a - (b + 1)))).toInt = (left : Int) - (mfw W (b + 1) (nB a - (b + 1)) : Int) := by
            rw [Int32.toInt_sub, nI_toInt (by omega), nI_toInt (by omega)]
            exact Int.bmod_eq_of_le (by omega) (by omega)
          by_cases q : mfw W (b + 1) (nB a - (b + 1)) < left
          · rw [if_pos (by rw [Int32.lt_iff_toInt_lt, eT, Int32.toInt_zero]; omega)]
            apply Int32.toInt_inj.mp
            rw [eT, nI_toInt (by omega)]
            omega
          · rw [if_neg (by rw [Int32.lt_iff_toInt_lt, eT, Int32.toInt_zero]; omega), show left - mfw W (b + 1) (nB a - (b + 1)) = 0 by omega]
            rfl
        rw [hF0]
        have low : ∀ n, n < F0 → n ≤ 9 - dG d b r → n ≤ left → fs e (fun b => dG d b r) k (b + 1) (left - n) (fun i => if i = b then n else w i) = none := fun n hn h1 h2 => nosome (fun w' hf => by
          have := (good n w' h2 hf h1).2
          omega)
        have main : ∀ j n m1 wt1, n + j = 10 → F0 ≤ n → Fr [35, 36, 37, 38, 39, 56, 57, 58, 59, 74] m m1 → TrW m1 a d r wt1 → (∀ i, i < b → wt1 i = w i) → (∀ i, i < b → m1 74 i = m 74 i) → (∀ n', n' < n → n' ≤ min left (9 - dG d b r) → fs e (fun b => dG d b r) k (b + 1) (left - n') (fun i => if i = b then n' else w i) = none) → Ev l (h + (k + 1) + 6) m_Wo_givesFrom 61 ([.ref 68, .int (nI b), .int (nI left), .retAddr 0, .int (nI n)], [], st m1 ml z) (qI Q) := by
          intro j
          induction j with
          | zero =>
            intro n m1 wt1 hn hF F t1 hw1 h74 hno
            have : n = 10 := by omega
            subst this
            have hq0' := hq0 (hnone (fun n hn => hno n (by omega) hn)) m1 wt1 F t1 hw1 h74
            exact t_Wo_givesFrom_61 m1 ml z _ _ _ ⟨fun _ => hq0', fun _ => ⟨fun _ => hq0', fun c => absurd (by decide) c⟩⟩
          | succ j ihj =>
            intro n m1 wt1 hn hF F t1 hw1 h74 hno
            have hA1 : CA m1 a d := hA.of F (by decide)
            have hS1 : WoS m1 a d r en W := hS0.fr (fun q hq => F q (by simp; omega))
            refine t_Wo_givesFrom_61 m1 ml z _ _ _ ⟨fun c => ?_, fun c => ⟨fun c2 => absurd ((nI_leI (a := 10) (b := n) (by decide) (by omega)).mp c2) (by omega), fun _ => ⟨hin6, ?_⟩⟩⟩
            · rw [nI_ltI (by omega) (by omega)] at c
              exact hq0 (hnone (fun n' hn' => hno n' (by omega) hn')) m1 wt1 F t1 hw1 h74
            · rw [nI_ltI (by omega) (by omega)] at c
              rw [cl_nI (show b < 2 ^ 31 by omega), (hS1.2.2.2.1 b hbB).2, sr10 _ (hW b) n (by omega), nI_1]
              refine ⟨fun c3 => ihj (n + 1) m1 wt1 (by omega) (by omega) F t1 hw1 h74 (fun n' hn' hle' => ?_), fun c3 => ⟨hin6, ?_⟩⟩
              · by_cases q : n' = n
                · subst q
                  refine nosome (fun w' hf => ?_)
                  rw [(good n' w' (by omega) hf (by omega)).1] at c3
                  cases c3
                · exact hno n' (by omega) hle'
              · have c3' : tb (W b) n = true := by simpa using c3
                have hn9 : n ≤ 9 - dG d b r := by
                  by_cases q : n < 10 - dG d b r
                  · omega
                  · rw [(s4 b hbB).1, enc_hi _ _ _ (by omega)] at c3'; cases c3'
                have hin60 : vp_in (nI (10 * b + n)) 60 := in_nI (by omega) (by decide)
                have F2 : Fr [35, 36, 37, 38, 39, 56, 57, 58, 59, 74] m1 (up m1 74 b (nI n)) := (Fr_up _ _ _ _).weak (by simp)
                have g74 : ∀ i, (up m1 74 b (nI n)) 74 i = if i = b then nI n else m1 74 i := fun i => by
                  by_cases q : i = b
                  · subst q; rw [up_at, if_pos rfl]
                  · rw [up_nk _ _ _ q, if_neg q]
                have t2 : TrW (up m1 74 b (nI n)) a d r wt1 := t1.fr (fun q h1 h2 => up_ne _ _ _ (by omega))
                have hS2 : WoS (up m1 74 b (nI n)) a d r en W := hS1.fr (fun q hq => up_ne _ _ _ (by omega))
                generalize up m1 74 b (nI n) = m2 at F2 g74 t2 hS2 ⊢
                have hA2 : CA m2 a d := hA1.of F2 (by decide)
                refine t_Wo_level _ _ _ _ _ ⟨by rw [mul10]; exact hin60, t_Wo_level _ _ _ _ _ ⟨by rw [mul10]; exact hin60, ?_⟩⟩
                have hWL := hS2.2.2.1 b hbB n (by omega)
                rw [mul10, cl_nI (show 10 * b + n < 2 ^ 31 by omega), hS2.1]
                refine c_set_w (h := h + k + 4) hA2 hbB hr (by omega) hWL.1 hWL.2.1 t2 (fun m3 F3 t3 => ?_)
                have hA3 : CA m3 a d := hA2.of F3 (by decide)
                have hS3 : WoS m3 a d r en W := hS2.fr (fun q hq => F3 q (by simp; omega))
                have F13 : Fr [35, 36, 37, 38, 39, 56, 57, 58, 59, 74] m m3 := (F.step F2).step (F3.weak (by simp))
                have esb : nI left - nI n = nI (left - n) := by
                  apply Int32.toInt_inj.mp
                  rw [Int32.toInt_sub, nI_toInt (by omega), nI_toInt (by omega), nI_toInt (by omega)]
                  rw [show ((left : Nat) : Int) - ((n : Nat) : Int) = ((left - n : Nat) : Int) by omega]
                  exact Int.bmod_eq_of_le (by omega) (by omega)
                rw [esb, nI_1]
                have hv' : ∀ i, (if i = b then n else w i) ≤ 9 - dG d i r := fun i => by
                  by_cases q : i = b
                  · subst q; rw [if_pos rfl]; exact hn9
                  · rw [if_neg q]; exact hv i
                refine ih (h := h) (b := b + 1) (left := left - n) (m := m3) (w := fun i => if i = b then n else w i) (wt := fun i => if i = b then n else wt1 i) (by omega) (by omega) ?_ hA3 hS3 t3 (fun i hi => ?_) (fun i hi => by rw [if_neg (by omega)]; exact hz i (by omega)) hv' (fun i hi => ?_) (fun hf m4 wt4 F4 t4 hw4 k74 => ⟨fun _ => ?_, fun q => absurd rfl q⟩) (fun w' hf m4 F4 k74 => ⟨fun q => absurd q (by decide), fun _ => ?_⟩)
                · rw [sm_split (k := b + 1) (b := 0) (j := b) (by omega), show b + 1 - b = 1 by omega]
                  simp only [sm, Nat.zero_add, if_true]
                  rw [sm_congr (w := fun i => if i = b then n else w i) (w' := w) (fun i _ hi => by simp [show ¬ i = b by omega])]
                  omega
                · by_cases q : i = b
                  · simp only [q, if_true]
                  · simp only [q, if_false]; exact hw1 i (by omega)
                · rw [F3 74 (by decide), g74]
                  by_cases q : i = b
                  · rw [if_pos q]; simp only [q, if_true]
                  · rw [if_neg q]; simp only [q, if_false]; rw [h74 i (by omega)]; exact hm i (by omega)
                · refine ihj (n + 1) m4 wt4 (by omega) (by omega) (F13.step F4) t4 (fun i hi => by rw [hw4 i (by omega)]; simp [show ¬ i = b by omega]) (fun i hi => by rw [k74 i (by omega), F3 74 (by decide), g74, if_neg (by omega)]; exact h74 i hi) (fun n' hn' hle' => ?_)
                  by_cases q : n' = n
                  · rw [q]; exact hf
                  · exact hno n' (by omega) hle'
                · refine hq1 w' ?_ m4 (F13.step F4) k74
                  simp only [fs]
                  refine find_range_le (M := min left (9 - dG d b r)) (fun x hx hxM => hno x hx hxM) hf (by omega)
        exact main (10 - F0) F0 m wt (by omega) (Nat.le_refl _) (Fr.refl _ _) ht hwt (fun _ _ => rfl) (fun n' hn' hle' => low n' hn' (by omega) (by omega))
      · have hg := good n w' (by omega) hf (by omega)
        have := tb_log _ (hW b) n (by omega) hg.1
        omega
    · rw [hA.2.2.1.1, nI_ltI (by omega) (by omega)]
      exact hbB
