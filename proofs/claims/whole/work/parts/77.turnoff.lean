/-! ===== turnOff, count, fault ===== -/
def okT (a : Ln) (d : Dt) (o : Nat) : Bool := enc (flR (nB a) (dF d) (nBs a) (dW d) (fun b => !tb o b)) (nR a) == 0
def tfA (a : Ln) (d : Dt) : Nat := fwst (okT a d) (2 ^ nB a - 1) (2 ^ nB a - 1)
def turA (a : Ln) (d : Dt) (v : Int32) : Int32 := if v = 0 then nI (pop6 (tfA a d)) else if v = 1 then nI (tfA a d) else -2
theorem tfA_lt {a : Ln} {d : Dt} (ha : okLn a) : tfA a d < 64 := by
  have h64 := allB_lt (nB a) (by have := ha.1; omega)
  have := fwst_lt (ok := okT a d) (s := 2 ^ nB a - 1) (n := 2 ^ nB a - 1) (by omega)
  unfold tfA
  omega
theorem c_B_turnOff {l : Launch} {h : Nat} {mi : TMi} {ml : TMl} {z : Nat} {a : Ln} {d : Dt} {v : Int32} {Q : Int32 → TMi → TMl → Nat → Prop} (hA : CA mi a d) (hq : Q (turA a d v) mi ml z) : CI l (h + 6) m_B_turnOff [.ref 1, .int v] mi ml z Q := by
  have ha := hA.1
  unfold turA at hq
  have go : ∀ {Q' : Int32 → TMi → TMl → Nat → Prop}, Q' (nI (tfA a d)) mi ml z → CI l (h + 5) m_Sc_fewestToTurnOff [.ref 17] mi ml z Q' := fun {Q'} k => c_Sc_fewest_17 (f := dF d) (bs := nBs a) hA.2.2.1.1 ha.1 hA.2.2.1.2.1 ha.2.1 (hA.2.2.2.1.isW ha hA.2.1) hA.fl (fun b _ => (hA.2.1.2.1 b).1) hA.bs k
  refine t_B_turnOff mi ml z _ ⟨fun q => go ⟨fun k => absurd q k, fun _ => c_bitCount (tfA_lt ha) ?_⟩, fun q => ⟨fun q2 => go ⟨fun _ => ?_, fun k => absurd k q⟩, fun q2 => ?_⟩⟩
  · rw [if_pos q] at hq; exact hq
  · rw [if_neg q, if_pos q2] at hq; exact hq
  · rw [if_neg q, if_neg q2] at hq; exact hq
def rbT (ok : Nat → Bool) : Nat → Option Nat
  | 0 => none
  | n + 1 => match rbT ok n with
    | none => if ok n = true then some n else none
    | some b => if pop6 n < pop6 b ∧ ok n = true then some n else some b
theorem pop_all : ∀ B, B < 7 → ∀ i, i < 2 ^ B - 1 → pop6 i < pop6 (2 ^ B - 1) := by decide +kernel
theorem rbT_lt {ok : Nat → Bool} : ∀ {n b : Nat}, rbT ok n = some b → b < n
  | 0, b, h => by cases h
  | n + 1, b, h => by
    simp only [rbT] at h
    cases e : rbT ok n with
    | none =>
      rw [e] at h
      by_cases q : ok n = true
      · simp [q] at h; omega
      · simp [q] at h
    | some x =>
      rw [e] at h
      have := rbT_lt e
      dsimp only at h
      by_cases q : pop6 n < pop6 x ∧ ok n = true
      · rw [if_pos q] at h; cases h; omega
      · rw [if_neg q] at h; cases h; omega
theorem rb_fw {ok : Nat → Bool} {B : Nat} (hB : B < 7) : ∀ {i : Nat}, i ≤ 2 ^ B - 1 → fwst ok (2 ^ B - 1) i = (rbT ok i).getD (2 ^ B - 1)
  | 0, _ => rfl
  | i + 1, h => by
    simp only [fwst, rbT, rb_fw hB (i := i) (by omega)]
    cases e : rbT ok i with
    | none =>
      have := pop_all B hB i (by omega)
      by_cases q : ok i = true
      · simp [q, this]
      · simp [q]
    | some x =>
      by_cases q : pop6 i < pop6 x ∧ ok i = true
      · simp [q]
      · by_cases q1 : pop6 i < pop6 x
        · have : ¬ ok i = true := fun k => q ⟨q1, k⟩
          simp [this]
        · simp [q1]
theorem rb_all {ok : Nat → Bool} {B : Nat} (hB : B < 7) (h : ok (2 ^ B - 1) = true) : rbT ok (2 ^ B) = some (fwst ok (2 ^ B - 1) (2 ^ B - 1)) := by
  have hpos : 0 < 2 ^ B := Nat.pow_pos (by decide)
  rw [rb_fw hB (Nat.le_refl _)]
  obtain ⟨n, hn⟩ : ∃ n, 2 ^ B = n + 1 := ⟨2 ^ B - 1, by omega⟩
  have hn2 : 2 ^ B - 1 = n := by omega
  rw [hn2] at h ⊢
  rw [hn]
  simp only [rbT]
  cases e : rbT ok n with
  | none => simp [h]
  | some x =>
    have hx := rbT_lt e
    have := pop_all B hB x (by omega)
    rw [hn2] at this
    dsimp only
    rw [if_neg (fun k => by have := k.1; omega)]
    rfl
theorem okT_all {a : Ln} {d : Dt} (ha : okLn a) : okT a d (2 ^ nB a - 1) = true := by
  unfold okT
  rw [beq_iff_eq, enc_zero]
  intro r hr
  unfold flR
  rw [decide_eq_false_iff_not, smn_congr (q := fun _ => false) (g := dF d) (fun b hb => by dsimp only; rw [allB_tb (nB a) (by have := ha.1; omega) b hb]; simp) (fun _ _ => rfl)]
  have : ∀ n, smn (fun _ => false) (dF d) n = 0 := by
    intro n
    induction n with
    | zero => rfl
    | succ n ih => simp [smn, ih]
  rw [this]
  omega
def offD (d : Dt) (t j : Nat) : Dt := (fun i => if i < j ∧ tb t i = true then none else d.1 i, d.2)
theorem offD_0 (d : Dt) (t : Nat) : offD d t 0 = d := by obtain ⟨w, q⟩ := d; simp [offD]
theorem offD_s {d : Dt} {t j : Nat} (h : tb t j = true) : setW (offD d t j) j none = offD d t (j + 1) := by
  unfold setW offD
  congr 1
  funext i
  by_cases q : i = j
  · subst q; simp [h]
  · simp only [q, if_false]
    by_cases k : i < j
    · simp [k, show i < j + 1 by omega]
    · simp [k, show ¬ i < j + 1 by omega]
theorem offD_n {d : Dt} {t j : Nat} (h : tb t j = false) : offD d t j = offD d t (j + 1) := by
  unfold offD
  congr 1
  funext i
  by_cases q : i = j
  · subst q; simp [h]
  · by_cases k : i < j
    · simp [k, show i < j + 1 by omega]
    · simp [k, show ¬ i < j + 1 by omega]
theorem okV_off {a : Ln} {d : Dt} {t j : Nat} (h : okV a d) : okV a (offD d t j) := by
  refine ⟨fun b r e => h.1 b r ?_, h.2⟩
  unfold dW offD at e
  dsimp only at e
  by_cases q : b < j ∧ tb t b = true
  · rw [if_pos q] at e; cases e
  · rw [if_neg q] at e; exact e
theorem flo_off {a : Ln} {d : Dt} {t : Nat} : (floA a (offD d t (nB a)) = 0) ↔ okT a d t = true := by
  unfold floA okT
  rw [beq_iff_eq]
  have : enc (flR (nB a) (dF (offD d t (nB a))) (nBs a) (dW (offD d t (nB a))) (fun _ => true)) (nR a) = enc (flR (nB a) (dF d) (nBs a) (dW d) (fun b => !tb t b)) (nR a) := enc_congr (fun r _ => flR_congr (fun b hb => by
    show ((if b < nB a ∧ tb t b = true then none else dW d b) == some r && true) = _
    by_cases q : tb t b = true
    · simp [q, hb]
    · simp [q]))
  rw [this]
theorem c_R_turnOff {l : Launch} {h : Nat} {mi : TMi} {ml : TMl} {z : Nat} {a : Ln} {d : Dt} {v : Int32} {Q : Int32 → TMi → TMl → Nat → Prop} (hA : RA mi a d) (hq : ∀ mi', (∀ n, n < 119 → mi' n = mi n) → FX mi mi' d → Q (turA a d v) mi' ml z) : CI l (h + 4) m_R_turnOff [.ref 119, .int v] mi ml z Q := by
  have ha := hA.1
  have hB6 := ha.1
  have hR4 := ha.2.1
  have h64 : 2 ^ nB a ≤ 64 := Nat.pow_le_pow_right (show 2 > 0 by decide) hB6
  have hpos : 0 < 2 ^ nB a := Nat.pow_pos (by decide)
  have F0 : FQ mi (up mi 119 0 0) := FQ.u119 _ _ (by decide)
  have hA0 := hA.q F0
  unfold turA at hq
  refine t_R_turnOff mi ml z _ (c_R_within ?_)
  rw [t64, show (0 : Int64).toInt = 0 by decide, show (1 : Int64).toInt = 1 by decide, bI_0]
  refine ⟨fun c => c_keeps hA0.2.2.2.2 (fun m1 F1 hk1 => ?_), fun c => ?_⟩
  · rw [Bool.not_eq_false, decide_eq_true_eq, w01] at c
    have G1 : FRw mi m1 ∧ F120 mi m1 ∧ CrA m1 d := by
      have q1 : FRw mi (up mi 119 0 0) := ⟨fun n hn => F0.1 n (by omega), F0.2⟩
      have e9 : m1 119 = (up mi 119 0 0) 119 := F1 119 (by decide)
      have q2 : FRw (up mi 119 0 0) m1 := ⟨fun n hn => F1 n (by simp; omega), by rw [e9], by rw [e9], by rw [e9]⟩
      exact ⟨q1.trans q2, F120.of (by rw [F1 120 (by decide)]; exact F0.1 120 (by omega)), hA0.2.2.2.2.fr (F1 120 (by decide))⟩
    have hl1 : LnR (m1 120) a := hA.2.2.2.1.fr ha (fun k hk => G1.2.1 k (by omega))
    refine loop (P := fun t => ∀ m, FRw mi m → F120 mi m → CrA m d → Cr (m 128) d → Ev l (h + 4) m_R_turnOff 26 ([.ref 119, .int v, .int (oI (rbT (okT a d) t)), .int (nI t), .retAddr 0], [], st m ml z) (qI Q)) (2 ^ nB a) (fun m q1 q2 q3 q4 => ?_) (fun t ht ih m q1 q2 q3 q4 => ?_) m1 G1.1 G1.2.1 G1.2.2 hk1
    · have hl : LnR (m 120) a := hA.2.2.2.1.fr ha (fun k hk => q2 k (by omega))
      have hq := hq m (fun n hn => q1.1 n (by omega)) (FX.w q1 q2 q3)
      rw [rb_all (by omega) (okT_all ha)]
      refine t_R_turnOff_26 m ml z _ _ _ ⟨fun _ => ⟨fun k => c_R_bitsOf (tfA_lt ha) ?_, fun k => ?_⟩, fun k => absurd ?_ k⟩
      · rw [if_pos (c.resolve_right k)] at hq; exact hq
      · rw [if_neg (by rw [k]; decide), if_pos k] at hq; exact hq
      · rw [hl.1, shl7 _ (by omega)]
        exact (nI_leI (by omega) (by omega)).mpr (Nat.le_refl _)
    · have hl : LnR (m 120) a := hA.2.2.2.1.fr ha (fun k hk => q2 k (by omega))
      -- trying a set
      have try_ : (∀ m', FRw mi m' → F120 mi m' → CrA m' d → Cr (m' 128) d → (okT a d t = true → Ev l (h + 4) m_R_turnOff 26 ([.ref 119, .int v, .int (nI t), .int (nI (t + 1)), .retAddr 0], [], st m' ml z) (qI Q)) ∧ (okT a d t = false → Ev l (h + 4) m_R_turnOff 26 ([.ref 119, .int v, .int (oI (rbT (okT a d) t)), .int (nI (t + 1)), .retAddr 0], [], st m' ml z) (qI Q))) → Ev l (h + 4) m_R_turnOff 60 ([.ref 119, .int v, .int (oI (rbT (okT a d) t)), .int (nI t), .int 0], [], st m ml z) (qI Q) := fun hgo => by
        refine loop (P := fun j => ∀ m', FRw mi m' → F120 mi m' → CrA m' (offD d t j) → m' 128 = m 128 → Ev l (h + 4) m_R_turnOff 60 ([.ref 119, .int v, .int (oI (rbT (okT a d) t)), .int (nI t), .int (nI j)], [], st m' ml z) (qI Q)) (nB a) (fun m' k1 k2 k3 k4 => ?_) (fun j hj ihj m' k1 k2 k3 k4 => ?_) m q1 q2 (by rw [offD_0]; exact q3) rfl
        · have hl' : LnR (m' 120) a := hA.2.2.2.1.fr ha (fun k hk => k2 k (by omega))
          have hf16 : floA a (offD d t (nB a)) < 2 ^ nR a := enc_lt _ _
          have h16 := pow16 hR4
          refine t_R_turnOff_60 m' ml z _ _ _ _ ⟨fun _ => c_floodSet ha (okV_off hA.2.1.v) hl' k3 ?_, fun k => absurd (le_at hl'.1 (by omega)) k⟩
          have ag : ∀ {Q' : TMi → TMl → Nat → Prop}, (∀ m2, FRw mi m2 → F120 mi m2 → CrA m2 d → Cr (m2 128) d → Q' m2 ml z) → CV l (h + 3) m_R_isAgain [.ref 119] m' ml z Q' := fun {Q'} hQ => c_isAgain (d := d) (by rw [k4]; exact q4) (fun m2 F2 f2 c2 => by
            have e9 : m2 119 = m' 119 := F2 119 (by decide)
            exact hQ m2 (k1.trans ⟨fun n hn => F2 n (by simp; omega), by rw [e9], by rw [e9], by rw [e9]⟩) (k2.trans f2) c2 (by rw [F2 128 (by decide), k4]; exact q4))
          rw [nI_1]
          refine ⟨fun k => ag (fun m2 g1 g2 g3 g4 => ?_), fun k => ag (fun m2 g1 g2 g3 g4 => ?_)⟩
          · refine (hgo m2 g1 g2 g3 g4).2 ?_
            cases e : okT a d t
            · rfl
            · exact absurd (by rw [flo_off.mpr e]; rfl) k
          · exact (hgo m2 g1 g2 g3 g4).1 (flo_off.mp (nI_inj (b := 0) (by omega) (by decide) k))
        · have hl' : LnR (m' 120) a := hA.2.2.2.1.fr ha (fun k hk => k2 k (by omega))
          refine t_R_turnOff_60 m' ml z _ _ _ _ ⟨fun k => absurd k (ge_no hl'.1 (by omega) hj), fun _ => c_R_isIn (by omega) (by omega) ?_⟩
          rw [bI_0, nI_1]
          refine ⟨fun k => ihj m' k1 k2 (by rw [← offD_n k]; exact k3) k4, fun k => ⟨in_addL (a := 29) (by omega) (by decide), ?_⟩⟩
          rw [addL_cl 29 j (by omega)]
          have k' : tb t j = true := by simpa using k
          have e9 : (up m' 120 (29 + j) (-1)) 119 = m' 119 := up_ne _ _ _ (by decide)
          refine ihj _ (k1.trans ⟨fun n hn => up_ne _ _ _ (by omega), by rw [e9], by rw [e9], by rw [e9]⟩) (k2.trans (F120.u m' (-1) (by omega))) ?_ (by rw [up_ne _ _ _ (by decide)]; exact k4)
          rw [← offD_s k']
          exact CrA.up (d := offD d t j) (Cr.sW k3 (by omega) none)
      have keep : ∀ m', FRw mi m' → F120 mi m' → CrA m' d → Cr (m' 128) d → rbT (okT a d) (t + 1) = rbT (okT a d) t → Ev l (h + 4) m_R_turnOff 26 ([.ref 119, .int v, .int (oI (rbT (okT a d) t)), .int (nI (t + 1)), .retAddr 0], [], st m' ml z) (qI Q) := fun m' g1 g2 g3 g4 e => by
        have := ih m' g1 g2 g3 g4
        rw [e] at this
        exact this
      refine t_R_turnOff_26 m ml z _ _ _ ⟨fun k => ?_, fun _ => ?_⟩
      · rw [hl.1, shl7 _ (by omega), nI_leI (by omega) (by omega)] at k
        omega
      · cases e : rbT (okT a d) t with
        | none =>
          rw [e] at keep try_
          refine ⟨fun _ => try_ (fun m' g1 g2 g3 g4 => ⟨fun k => ?_, fun k => keep m' g1 g2 g3 g4 (by simp [rbT, e, k])⟩), fun k => absurd rfl k⟩
          have := ih m' g1 g2 g3 g4
          rw [show rbT (okT a d) (t + 1) = some t by simp [rbT, e, k]] at this
          exact this
        | some b =>
          rw [e] at keep try_
          have hb := rbT_lt e
          have p1 := pop6_le t
          have p2 := pop6_le b
          refine ⟨fun k => absurd k (neg1_ne (by omega)), fun _ => c_R_bitsOf (by omega) (c_R_bitsOf (by omega) ?_)⟩
          rw [nI_ltI (by omega) (by omega), nI_1]
          refine ⟨fun k => try_ (fun m' g1 g2 g3 g4 => ⟨fun k2 => ?_, fun k2 => keep m' g1 g2 g3 g4 (by simp [rbT, e, k2])⟩), fun k => keep m q1 q2 q3 q4 (by simp only [rbT, e]; rw [if_neg (fun k2 => k k2.1)])⟩
          have := ih m' g1 g2 g3 g4
          rw [show rbT (okT a d) (t + 1) = some t by simp only [rbT, e]; rw [if_pos ⟨k, k2⟩]] at this
          exact this
  · rw [decide_eq_false_iff_not, w01] at c
    have := hq _ (fun n hn => F0.1 n (by omega)) (F0.x hA)
    rw [if_neg (fun k => c (Or.inl k)), if_neg (fun k => c (Or.inr k))] at this
    exact this
theorem sumI_n {g : Nat → Int32} {a : Nat} {f : Nat → Nat} : ∀ {n : Nat}, (∀ i, i < n → g (a + i) = nI (f i)) → sumI g a n = nI (smr f n)
  | 0, _ => rfl
  | n + 1, h => by simp only [sumI, smr]; rw [sumI_n (n := n) (fun i hi => h i (by omega)), h n (by omega), nI_add]
theorem smr_z {f : Nat → Nat} {n : Nat} : ∀ {k : Nat}, (∀ i, n ≤ i → f i = 0) → smr f (n + k) = smr f n
  | 0, _ => rfl
  | k + 1, h => by
    rw [show n + (k + 1) = (n + k) + 1 by omega]
    simp only [smr, smr_z (k := k) h, h (n + k) (by omega), Nat.add_zero]
theorem gift_sum (g : Nat → Nat → Nat) : smr (fun i => g (i / 4) (i % 4)) 24 = smr (fun i => g (i % 6) (i / 6)) 24 := by
  simp only [smr, Nat.reduceDiv, Nat.reduceMod]
  omega
def cntA (a : Ln) (d : Dt) (hs : List Dt) (n : Nat) (v : Int32) : Int32 := if v = 0 then nI (nB a) else if v = 1 then nI (nR a) else if v = 2 then nI (enc (fun b => dW d b == none) (nB a)) else if v = 3 then nI (smr (dR d) 4) else if v = 4 then nI (smr (dF d) 6) else if v = 5 then nI (smr (fun i => dG d (i / 4) (i % 4)) 24) else if v = 6 then nI hs.length else if v = 7 then nI n else if v = 8 then nI (nN a) else -1
theorem c_B_count {l : Launch} {h : Nat} {mi : TMi} {ml : TMl} {z : Nat} {a : Ln} {d : Dt} {hs : List Dt} {im : Nat → Option (Ln × Dt)} {ty : Ty} {n : Nat} {tp : Nat → Nat} {fk fp v : Int32} {Q : Int32 → TMi → TMl → Nat → Prop} (hI : IC mi ml a d hs im ty n tp fk fp) (hq : Q (cntA a d hs n v) mi ml z) : CI l (h + 3) m_B_count [.ref 1, .int v] mi ml z Q := by
  obtain ⟨hA, hP, _, _, _, hT, _, _, _⟩ := hI
  have ha := hA.1
  have hB6 := ha.1
  have hR4 := ha.2.1
  have hc := hA.2.2.2.1
  unfold cntA at hq
  refine t_B_count mi ml z _ ⟨fun q => ?_, fun q => ?_, fun q => ?_, fun q => ?_, fun q => ?_, fun q => ?_, fun q => ?_, fun q => ?_, fun q => ?_, fun q0 q1 q2 q3 q4 q5 q6 q7 q8 => ?_⟩
  · rw [if_pos q] at hq; rw [hA.2.2.1.1]; exact hq
  · subst q; rw [if_neg (by decide), if_pos rfl] at hq; rw [hA.2.2.1.2.1]; exact hq
  · subst q; rw [if_neg (by decide), if_neg (by decide), if_pos rfl] at hq
    refine t_Sc_nowhere_17 _ _ _ (c_Sc_becksIn_17 (lw := 40) rfl (by decide) hA.2.2.1.1 hB6 ?_)
    rw [enc_congr (q := fun b => dW d b == none) (fun b hb => isW_none (hc.isW ha hA.2.1) hR4 hb)]
    exact hq
  · subst q; rw [if_neg (by decide), if_neg (by decide), if_neg (by decide), if_pos rfl] at hq
    refine c_Sc_total_17 (a := 12) (n := 4) (by decide) ?_
    rw [sumI_n (f := dR d) (fun i hi => hc.2.2.1 i hi)]; exact hq
  · subst q; rw [if_neg (by decide), if_neg (by decide), if_neg (by decide), if_neg (by decide), if_pos rfl] at hq
    refine c_Sc_total_17 (a := 6) (n := 6) (by decide) ?_
    rw [sumI_n (f := dF d) (fun i hi => hc.2.1 i hi)]; exact hq
  · subst q; rw [if_neg (by decide), if_neg (by decide), if_neg (by decide), if_neg (by decide), if_neg (by decide), if_pos rfl] at hq
    refine c_Sc_total_17 (a := 16) (n := 24) (by decide) ?_
    rw [sumI_n (f := fun i => dG d (i / 4) (i % 4)) (fun i hi => by
      have := hc.2.2.2 (i / 4) (i % 4) (by omega) (by omega)
      rw [show 4 * (i / 4) + i % 4 = i by omega] at this
      exact this)]; exact hq
  · subst q; rw [if_neg (by decide), if_neg (by decide), if_neg (by decide), if_neg (by decide), if_neg (by decide), if_neg (by decide), if_pos rfl] at hq
    obtain ⟨_, nx, _, _, e, _⟩ := hP
    rw [e]; exact hq
  · subst q; rw [if_neg (by decide), if_neg (by decide), if_neg (by decide), if_neg (by decide), if_neg (by decide), if_neg (by decide), if_neg (by decide), if_pos rfl] at hq
    rw [hT.1]; exact hq
  · subst q; rw [if_neg (by decide), if_neg (by decide), if_neg (by decide), if_neg (by decide), if_neg (by decide), if_neg (by decide), if_neg (by decide), if_neg (by decide), if_pos rfl] at hq
    rw [hA.2.2.1.2.2.1]; exact hq
  · rw [if_neg q0, if_neg q1, if_neg q2, if_neg q3, if_neg q4, if_neg q5, if_neg q6, if_neg q7, if_neg q8] at hq; exact hq
theorem c_R_count {l : Launch} {h : Nat} {mi : TMi} {ml : TMl} {z : Nat} {a : Ln} {d : Dt} {hs : List Dt} {im : Nat → Option (Ln × Dt)} {ty : Ty} {n : Nat} {tp : Nat → Nat} {fk fp v : Int32} {Q : Int32 → TMi → TMl → Nat → Prop} (hI : IR mi ml a d hs im ty n tp fk fp) (hq : ∀ mi', FQ mi mi' → Q (cntA a d hs n v) mi' ml z) : CI l (h + 3) m_R_count [.ref 119, .int v] mi ml z Q := by
  have F0 : FQ mi (up mi 119 0 0) := FQ.u119 _ _ (by decide)
  have hA0 := hI.1.q F0
  obtain ⟨hA, hP, _, _, hT, _, _⟩ := hI
  have ha := hA.1
  have hB6 := ha.1
  have hR4 := ha.2.1
  have hq := hq _ F0
  have hc := hA0.2.2.2.2
  have hl := hA0.2.2.2.1
  have hd := hA.2.1
  have e120 : (up mi 119 0 0) 120 = mi 120 := up_ne _ _ _ (by decide)
  unfold cntA at hq
  refine t_R_count mi ml z _ ⟨fun q => ?_, fun q => ?_, fun q => ?_, fun q => ?_, fun q => ?_, fun q => ?_, fun q => ?_, fun q => ?_, fun q => ?_, fun q0 q1 q2 q3 q4 q5 q6 q7 q8 => ?_⟩
  · rw [if_pos q] at hq; rw [hl.1]; exact hq
  · subst q; rw [if_neg (by decide), if_pos rfl] at hq; rw [hl.2.1]; exact hq
  · subst q; rw [if_neg (by decide), if_neg (by decide), if_pos rfl] at hq
    refine c_R_becksIn hl.1 hB6 ?_
    rw [enc_congr (q := fun b => dW d b == none) (fun b hb => isW_none (g := fun k => (up mi 119 0 0) 120 (29 + k)) (hc.isW ha hd) hR4 hb)]
    exact hq
  · subst q; rw [if_neg (by decide), if_neg (by decide), if_neg (by decide), if_pos rfl] at hq
    rw [hl.2.1]
    refine c_R_sumOf (a := 41) (by omega) ?_
    rw [sumI_n (f := dR d) (fun i hi => cr_rm hc (by omega))]
    have := smr_z (f := dR d) (n := nR a) (k := 4 - nR a) (fun i hi => (hd.2.2.1 i).2 hi)
    rw [show nR a + (4 - nR a) = 4 by omega] at this
    rw [← this]; exact hq
  · subst q; rw [if_neg (by decide), if_neg (by decide), if_neg (by decide), if_neg (by decide), if_pos rfl] at hq
    rw [hl.1]
    refine c_R_sumOf (a := 35) (by omega) ?_
    rw [sumI_n (f := dF d) (fun i hi => cr_fl hc (by omega))]
    have := smr_z (f := dF d) (n := nB a) (k := 6 - nB a) (fun i hi => (hd.2.1 i).2 hi)
    rw [show nB a + (6 - nB a) = 6 by omega] at this
    rw [← this]; exact hq
  · subst q; rw [if_neg (by decide), if_neg (by decide), if_neg (by decide), if_neg (by decide), if_neg (by decide), if_pos rfl] at hq
    refine c_R_sumOf (a := 45) (n := 24) (by decide) ?_
    rw [sumI_n (f := fun i => dG d (i % 6) (i / 6)) (fun i hi => by
      have := cr_gf hc (b := i % 6) (r := i / 6) (by omega) (by omega)
      rw [show 45 + 6 * (i / 6) + i % 6 = 45 + i by omega] at this
      exact this), ← gift_sum]; exact hq
  · subst q; rw [if_neg (by decide), if_neg (by decide), if_neg (by decide), if_neg (by decide), if_neg (by decide), if_neg (by decide), if_pos rfl] at hq
    rw [e120, hP.1]; exact hq
  · subst q; rw [if_neg (by decide), if_neg (by decide), if_neg (by decide), if_neg (by decide), if_neg (by decide), if_neg (by decide), if_neg (by decide), if_pos rfl] at hq
    rw [up_nk _ _ _ (by decide), hT.1]; exact hq
  · subst q; rw [if_neg (by decide), if_neg (by decide), if_neg (by decide), if_neg (by decide), if_neg (by decide), if_neg (by decide), if_neg (by decide), if_neg (by decide), if_pos rfl] at hq
    rw [hl.2.2.1]; exact hq
  · rw [if_neg q0, if_neg q1, if_neg q2, if_neg q3, if_neg q4, if_neg q5, if_neg q6, if_neg q7, if_neg q8] at hq; exact hq
