/-! ===== breaks, breaking, floods, turnOff, count, fault ===== -/
def lo (p : Nat → Bool) : Nat → Option Nat
  | 0 => none
  | n + 1 => match lo p n with
    | some x => some x
    | none => if p n = true then some n else none
theorem lo_congr {p q : Nat → Bool} : ∀ {n : Nat}, (∀ b, b < n → p b = q b) → lo p n = lo q n
  | 0, _ => rfl
  | n + 1, h => by simp only [lo, lo_congr (n := n) (fun b hb => h b (by omega)), h n (by omega)]
theorem lo_none {p : Nat → Bool} : ∀ {n : Nat}, (∀ b, b < n → p b = false) → lo p n = none
  | 0, _ => rfl
  | n + 1, h => by simp only [lo, lo_none (n := n) (fun b hb => h b (by omega)), h n (by omega)]; rfl
theorem lo_first {p : Nat → Bool} {i : Nat} (h0 : ∀ b, b < i → p b = false) (h1 : p i = true) : ∀ {n : Nat}, i < n → lo p n = some i
  | 0, h => absurd h (Nat.not_lt_zero _)
  | n + 1, h => by
    simp only [lo]
    by_cases q : i < n
    · rw [lo_first h0 h1 q]
    · have : i = n := by omega
      subst this
      rw [lo_none h0]
      simp [h1]
theorem lo_ext {p : Nat → Bool} {n : Nat} : ∀ {k : Nat}, (∀ b, n ≤ b → b < n + k → p b = false) → lo p (n + k) = lo p n
  | 0, _ => rfl
  | k + 1, h => by
    rw [show n + (k + 1) = (n + k) + 1 by omega]
    simp only [lo, lo_ext (k := k) (fun b h1 h2 => h b h1 (by omega)), h (n + k) (by omega) (by omega)]
    cases lo p n <;> rfl
theorem ntz0 : ∀ m, m < 16 → 0 < m → ¬ (0 : Int32) < ((nI m ^^^ (-1)) &&& (nI m - 1)) → ((nI m ^^^ (-1)) &&& (nI m - 1)) &&& 32 = oI (lo (fun i => tb m i) 4) := by decide +kernel
theorem ntz1 : ∀ m, m < 16 → 0 < m → (0 : Int32) < ((nI m ^^^ (-1)) &&& (nI m - 1)) → ((nI m ^^^ (-1)) &&& (nI m - 1)) ≤ 4 → (1 : Int32) + a_ushr ((nI m ^^^ (-1)) &&& (nI m - 1)) 1 = oI (lo (fun i => tb m i) 4) := by decide +kernel
theorem ntz2 : ∀ m, m < 16 → 0 < m → ¬ ((nI m ^^^ (-1)) &&& (nI m - 1)) ≤ 4 → ((1 : Int32) + 2) + a_ushr (a_ushr ((nI m ^^^ (-1)) &&& (nI m - 1)) 2) 1 = oI (lo (fun i => tb m i) 4) := by decide +kernel
theorem ntz3 : ∀ m, m < 16 → 0 < m → ((nI m ^^^ (-1)) &&& (nI m - 1)) ≤ 16 ∧ ((nI m ^^^ (-1)) &&& (nI m - 1)) ≤ 256 ∧ ((nI m ^^^ (-1)) &&& (nI m - 1)) ≤ 65536 := by decide +kernel
theorem c_ntz {l : Launch} {h : Nat} {mi : TMi} {ml : TMl} {z : Nat} {m : Nat} {Q : Int32 → TMi → TMl → Nat → Prop} (hm : m < 16) (h0 : 0 < m) (hq : Q (oI (lo (fun i => tb m i) 4)) mi ml z) : CI l (h + 1) m_JI_numberOfTrailingZeros [.int (nI m)] mi ml z Q := by
  obtain ⟨k1, k2, k3⟩ := ntz3 m hm h0
  refine t_JI_numberOfTrailingZeros mi ml z _ ⟨fun c => ⟨fun _ => ⟨fun _ => ⟨fun _ => ⟨fun c2 => ?_, fun c2 => ?_⟩, fun c2 => absurd k1 c2⟩, fun c2 => absurd k2 c2⟩, fun c2 => absurd k3 c2⟩, fun c => ?_⟩
  · rw [ntz1 m hm h0 c c2]; exact hq
  · rw [ntz2 m hm h0 c2]; exact hq
  · rw [ntz0 m hm h0 c]; exact hq
def bkA (a : Ln) (d : Dt) (b r : Nat) : Bool := brk (nB a) (lkD a d) (tkD a d) (dR d) (dW d) b r
def bksA (a : Ln) (d : Dt) : Nat := smr (fun b => cnt (bkA a d b) (nR a)) (nB a)
theorem c_B_breaks {l : Launch} {h : Nat} {mi : TMi} {ml : TMl} {z : Nat} {a : Ln} {d : Dt} {Q : Int32 → TMi → TMl → Nat → Prop} (hA : CA mi a d) (hq : Q (nI (bksA a d)) mi ml z) : CI l (h + 5) m_B_breaks [.ref 1] mi ml z Q := by
  have ha := hA.1
  have hB6 := ha.1
  have hR4 := ha.2.1
  have h16 := pow16 hR4
  refine t_B_breaks mi ml z ?_
  refine loop (P := fun i => Ev l (h + 5) m_B_breaks 4 ([.ref 1, .int (nI (smr (fun b => cnt (bkA a d b) (nR a)) i)), .int (nI i)], [], st mi ml z) (qI Q)) (nB a) ?_ (fun i hi ih => ?_)
  · exact t_B_breaks_4 mi ml z _ _ ⟨fun _ => hq, fun c => absurd (le_at hA.2.2.1.1 (by omega)) c⟩
  · refine t_B_breaks_4 mi ml z _ _ ⟨fun c => absurd c (ge_no hA.2.2.1.1 (by omega) hi), fun _ => c_Sc_breakersOf_17 (lw := 40) rfl (by decide) hA.2.2.1.1 hB6 hA.2.2.1.2.1 hR4 hA.2.2.2.2 (hA.2.2.2.1.isW ha hA.2.1) hi hA.rm ?_⟩
    have hlt := enc_lt (fun r => brk (nB a) (lkD a d) (tkD a d) (dR d) (dW d) i r) (nR a)
    refine c_bitCount (by omega) ?_
    rw [pop_enc _ (by omega), nI_add, nI_1]
    exact ih
theorem brk_LT {mi : TMi} {a : Ln} {d : Dt} (hl : LT mi a d) (hd : okD a d) {b r : Nat} (hb : b < nB a) (hr : r < nR a) : brk (nB a) (Lk mi 126) (Lk mi 127) (dR d) (dW d) b r = bkA a d b r := by
  unfold bkA brk
  rw [wdO_congr (hl b r hb hr), adm_congr hb (fun b' hb' => (hl b' r hb' hr).2)]
  congr 2
  unfold mov
  cases e : dW d b with
  | none => rfl
  | some r' =>
    have hr' := (hd.1 b r' e).2
    have k1 : pbO (Lk mi 126) b r = pbO (lkD a d) b r := hl.pb hb hr
    have k2 : pbO (Lk mi 126) b r' = pbO (lkD a d) b r' := hl.pb hb hr'
    dsimp only
    rw [k1, k2]
theorem c_breaksIt {l : Launch} {h : Nat} {mi : TMi} {ml : TMl} {z : Nat} {a : Ln} {d : Dt} {b r : Nat} {Q : Int32 → TMi → TMl → Nat → Prop} (hA : RA mi a d) (hl : LT mi a d) (hw : isW (mi 129) (nB a) (nR a) (dW d)) (hb : b < nB a) (hr : r < nR a) (hq : Q (bI (bkA a d b r)) mi ml z) : CI l (h + 3) m_R_breaksIt [.ref 119, .int (nI b), .int (nI r)] mi ml z Q := by
  have hH := hA.rh hl
  rw [← brk_LT hl hA.2.1 hb hr] at hq
  exact c_R_breaksIt hH.1 hH.2.1 hH.2.2.2.1 hH.b6 hH.b7 hw hb hr (hH.2.2.2.2.2.2.2.2 r hr).1 (hH.2.2.2.2.2.2.2.2 r hr).2 hq
theorem c_R_breaks {l : Launch} {h : Nat} {mi : TMi} {ml : TMl} {z : Nat} {a : Ln} {d : Dt} {Q : Int32 → TMi → TMl → Nat → Prop} (hA : RA mi a d) (hq : ∀ mi', FQ mi mi' → Q (nI (bksA a d)) mi' ml z) : CI l (h + 5) m_R_breaks [.ref 119] mi ml z Q := by
  have F0 : FQ mi (up mi 119 0 0) := FQ.u119 _ _ (by decide)
  have ha := hA.1
  have hB6 := ha.1
  have hR4 := ha.2.1
  refine t_R_breaks mi ml z (c_R_laysNow (hA.q F0) (fun m F hl hw => ?_))
  have hq := hq m (F0.trans F)
  have hA1 := hA.q (F0.trans F)
  refine loop (P := fun i => Ev l (h + 5) m_R_breaks 13 ([.ref 119, .int (nI (smr (fun b => cnt (bkA a d b) (nR a)) i)), .int (nI i), .retAddr 0], [], st m ml z) (qI Q)) (nB a) ?_ (fun i hi ih => ?_)
  · exact t_R_breaks_13 m ml z _ _ ⟨fun _ => hq, fun c => absurd (le_at hA1.2.2.2.1.1 (by omega)) c⟩
  · refine t_R_breaks_13 m ml z _ _ ⟨fun c => absurd c (ge_no hA1.2.2.2.1.1 (by omega) hi), fun _ => ?_⟩
    refine loop (P := fun j => Ev l (h + 5) m_R_breaks 25 ([.ref 119, .int (nI (smr (fun b => cnt (bkA a d b) (nR a)) i + cnt (bkA a d i) j)), .int (nI i), .int (nI j)], [], st m ml z) (qI Q)) (nR a) ?_ (fun j hj ihj => ?_)
    · refine t_R_breaks_25 m ml z _ _ _ ⟨fun _ => ?_, fun c => absurd (le_at hA1.2.2.2.1.2.1 (by omega)) c⟩
      rw [nI_1]
      exact ih
    · refine t_R_breaks_25 m ml z _ _ _ ⟨fun c => absurd c (ge_no hA1.2.2.2.1.2.1 (by omega) hj), fun _ => c_breaksIt hA1 hl hw hi hj ?_⟩
      rw [bI_0, nI_1, Int32.add_zero, nI_1]
      refine ⟨fun c => ?_, fun c => ?_⟩
      · rw [show cnt (bkA a d i) (j + 1) = cnt (bkA a d i) j by simp [cnt, c]] at ihj
        exact ihj
      · have c' : bkA a d i j = true := by simpa using c
        rw [show cnt (bkA a d i) (j + 1) = cnt (bkA a d i) j + 1 by simp [cnt, c']] at ihj
        exact ihj
def bkgV (a : Ln) (d : Dt) : Int32 := match lo (fun b => !(enc (bkA a d b) (nR a) == 0)) (nB a) with
  | none => -1
  | some b => match lo (bkA a d b) (nR a) with
    | none => -1
    | some r => nI (10 * b + r)
theorem lo_enc {p : Nat → Bool} {R : Nat} (hR : R ≤ 4) : lo (fun i => tb (enc p R) i) 4 = lo p R := by
  have e := lo_ext (p := fun i => tb (enc p R) i) (n := R) (k := 4 - R) (fun b h1 _ => enc_hi p R b h1)
  rw [show R + (4 - R) = 4 by omega] at e
  rw [e]
  exact lo_congr (fun b hb => enc_tb p R b hb)
theorem lo_ex {p : Nat → Bool} {R : Nat} (h : ¬ enc p R = 0) : ∃ r, lo p R = some r ∧ r < R := by
  have : ∃ n, n < R ∧ p n = true := Classical.byContradiction (fun k => h (enc_zero.mpr (fun b hb => by
    cases e : p b
    · rfl
    · exact absurd ⟨b, hb, e⟩ k)))
  have key : ∀ n, (∃ i, i < n ∧ p i = true) → ∃ r, lo p n = some r ∧ r < n := by
    intro n
    induction n with
    | zero => rintro ⟨i, hi, _⟩; omega
    | succ n ih =>
      rintro ⟨i, hi, hp⟩
      simp only [lo]
      cases e : lo p n with
      | some x =>
        refine ⟨x, rfl, ?_⟩
        by_cases q : ∃ i, i < n ∧ p i = true
        · obtain ⟨r, h1, h2⟩ := ih q
          rw [h1] at e; cases e; omega
        · rw [lo_none (fun b hb => by
            cases e2 : p b
            · rfl
            · exact absurd ⟨b, hb, e2⟩ q)] at e
          cases e
      | none =>
        by_cases q : i < n
        · obtain ⟨r, h1, h2⟩ := ih ⟨i, q, hp⟩
          rw [h1] at e; cases e
        · have : i = n := by omega
          subst this
          exact ⟨i, by simp [hp], by omega⟩
  exact key R this
theorem c_B_breaking {l : Launch} {h : Nat} {mi : TMi} {ml : TMl} {z : Nat} {a : Ln} {d : Dt} {Q : Int32 → TMi → TMl → Nat → Prop} (hA : CA mi a d) (hq : Q (bkgV a d) mi ml z) : CI l (h + 5) m_B_breaking [.ref 1] mi ml z Q := by
  have ha := hA.1
  have hB6 := ha.1
  have hR4 := ha.2.1
  have h16 := pow16 hR4
  unfold bkgV at hq
  refine t_B_breaking mi ml z ?_
  refine loop (P := fun i => (∀ b, b < i → enc (bkA a d b) (nR a) = 0) → Ev l (h + 5) m_B_breaking 2 ([.ref 1, .int (nI i), .retAddr 0], [], st mi ml z) (qI Q)) (nB a) (fun hk => ?_) (fun i hi ih hk => ?_) (fun b hb => absurd hb (Nat.not_lt_zero _))
  · rw [lo_none (fun b hb => by simp [hk b hb])] at hq
    exact t_B_breaking_2 mi ml z _ ⟨fun _ => hq, fun c => absurd (le_at hA.2.2.1.1 (by omega)) c⟩
  · refine t_B_breaking_2 mi ml z _ ⟨fun c => absurd c (ge_no hA.2.2.1.1 (by omega) hi), fun _ => c_Sc_breakersOf_17 (lw := 40) rfl (by decide) hA.2.2.1.1 hB6 hA.2.2.1.2.1 hR4 hA.2.2.2.2 (hA.2.2.2.1.isW ha hA.2.1) hi hA.rm ?_⟩
    have hlt : enc (bkA a d i) (nR a) < 2 ^ nR a := enc_lt _ _
    rw [show (fun r => brk (nB a) (lkD a d) (tkD a d) (dR d) (dW d) i r) = bkA a d i from rfl]
    refine ⟨fun c => ?_, fun c => ?_⟩
    · rw [nI_1]
      refine ih (fun b hb => ?_)
      by_cases q : b = i
      · rw [q]; exact nI_inj (b := 0) (by omega) (by decide) c
      · exact hk b (by omega)
    · have hne : ¬ enc (bkA a d i) (nR a) = 0 := fun q => c (by rw [q]; rfl)
      refine c_ntz (by omega) (by omega) ?_
      obtain ⟨r, hr1, hr2⟩ := lo_ex hne
      rw [lo_first (i := i) (fun b hb => by simp [hk b hb]) (by simp [hne]) hi] at hq
      dsimp only at hq
      rw [hr1] at hq
      rw [lo_enc hR4, hr1]
      show Q (10 * nI i + nI r) mi ml z
      rw [show (10 : Int32) * nI i = nI (10 * i) from mulL 10 i, nI_add]
      exact hq
theorem c_R_breaking {l : Launch} {h : Nat} {mi : TMi} {ml : TMl} {z : Nat} {a : Ln} {d : Dt} {Q : Int32 → TMi → TMl → Nat → Prop} (hA : RA mi a d) (hq : ∀ mi', FQ mi mi' → Q (bkgV a d) mi' ml z) : CI l (h + 5) m_R_breaking [.ref 119] mi ml z Q := by
  have F0 : FQ mi (up mi 119 0 0) := FQ.u119 _ _ (by decide)
  have ha := hA.1
  have hB6 := ha.1
  have hR4 := ha.2.1
  refine t_R_breaking mi ml z (c_R_laysNow (hA.q F0) (fun m F hl hw => ?_))
  have hq := hq m (F0.trans F)
  have hA1 := hA.q (F0.trans F)
  unfold bkgV at hq
  refine loop (P := fun i => (∀ b, b < i → enc (bkA a d b) (nR a) = 0) → Ev l (h + 5) m_R_breaking 11 ([.ref 119, .int (nI i), .retAddr 0], [], st m ml z) (qI Q)) (nB a) (fun hk => ?_) (fun i hi ih hk => ?_) (fun b hb => absurd hb (Nat.not_lt_zero _))
  · rw [lo_none (fun b hb => by simp [hk b hb])] at hq
    exact t_R_breaking_11 m ml z _ ⟨fun _ => hq, fun c => absurd (le_at hA1.2.2.2.1.1 (by omega)) c⟩
  · refine t_R_breaking_11 m ml z _ ⟨fun c => absurd c (ge_no hA1.2.2.2.1.1 (by omega) hi), fun _ => ?_⟩
    refine loop (P := fun j => (∀ r, r < j → bkA a d i r = false) → Ev l (h + 5) m_R_breaking 23 ([.ref 119, .int (nI i), .int (nI j)], [], st m ml z) (qI Q)) (nR a) (fun hj => ?_) (fun j hj ihj hkj => ?_) (fun b hb => absurd hb (Nat.not_lt_zero _))
    · refine t_R_breaking_23 m ml z _ _ ⟨fun _ => ?_, fun c => absurd (le_at hA1.2.2.2.1.2.1 (by omega)) c⟩
      rw [nI_1]
      refine ih (fun b hb => ?_)
      by_cases q : b = i
      · rw [q]; exact enc_zero.mpr hj
      · exact hk b (by omega)
    · refine t_R_breaking_23 m ml z _ _ ⟨fun c => absurd c (ge_no hA1.2.2.2.1.2.1 (by omega) hj), fun _ => c_breaksIt hA1 hl hw hi hj ?_⟩
      rw [bI_0]
      refine ⟨fun c => ?_, fun c => ?_⟩
      · rw [nI_1]
        refine ihj (fun r hr => ?_)
        by_cases q : r = j
        · rw [q]; exact c
        · exact hkj r (by omega)
      · have c' : bkA a d i j = true := by simpa using c
        have hne : ¬ enc (bkA a d i) (nR a) = 0 := fun q => by rw [enc_zero.mp q j hj] at c'; cases c'
        rw [lo_first (i := i) (fun b hb => by simp [hk b hb]) (by simp [hne]) hi] at hq
        dsimp only at hq
        rw [lo_first (i := j) hkj c' hj] at hq
        rw [show (10 : Int32) * nI i = nI (10 * i) from mulL 10 i, nI_add]
        exact hq
def floA (a : Ln) (d : Dt) : Nat := enc (flR (nB a) (dF d) (nBs a) (dW d) (fun _ => true)) (nR a)
theorem CA.bs {mi : TMi} {a : Ln} {d : Dt} (hA : CA mi a d) : ∀ r, r < nR a → mi 25 r = nI (nBs a r) ∧ nBs a r ≤ 99 := fun r hr => ⟨hA.2.2.1.2.2.2.2.2.2.1 r hr, (hA.1.2.2.2 r hr).2⟩
theorem c_B_floods {l : Launch} {h : Nat} {mi : TMi} {ml : TMl} {z : Nat} {a : Ln} {d : Dt} {Q : Int32 → TMi → TMl → Nat → Prop} (hA : CA mi a d) (hq : Q (nI (floA a d)) mi ml z) : CI l (h + 6) m_B_floods [.ref 1] mi ml z Q := by
  have ha := hA.1
  exact t_B_floods mi ml z (c_Sc_flooded_17 (f := dF d) (bs := nBs a) hA.2.2.1.1 ha.1 hA.2.2.1.2.1 ha.2.1 (hA.2.2.2.1.isW ha hA.2.1) hA.fl (fun b _ => (hA.2.1.2.1 b).1) hA.bs hq)
theorem c_floodSet {l : Launch} {h : Nat} {mi : TMi} {ml : TMl} {z : Nat} {a : Ln} {d : Dt} {Q : Int32 → TMi → TMl → Nat → Prop} (ha : okLn a) (hd : okV a d) (hl : LnR (mi 120) a) (hc : CrA mi d) (hq : Q (nI (floA a d)) mi ml z) : CI l (h + 3) m_R_floodSet [.ref 119] mi ml z Q := by
  have hB6 := ha.1
  exact c_R_floodSet (f := dF d) (bs := nBs a) (wo := dW d) hl.1 ha.1 hl.2.1 ha.2.1 (fun b hb => ⟨hc.1 b (by omega), fun r e => (hd.1 b r e).2⟩) (fun b hb => cr_fl hc (by omega)) (fun b _ => (hd.2.1 b).1) (fun r hr => ⟨hl.2.2.2.2.2.2.1 r hr, (ha.2.2.2 r hr).2⟩) hq
theorem c_R_floods {l : Launch} {h : Nat} {mi : TMi} {ml : TMl} {z : Nat} {a : Ln} {d : Dt} {Q : Int32 → TMi → TMl → Nat → Prop} (hA : RA mi a d) (hq : ∀ mi', FQ mi mi' → Q (nI (floA a d)) mi' ml z) : CI l (h + 4) m_R_floods [.ref 119] mi ml z Q := by
  have F0 : FQ mi (up mi 119 0 0) := FQ.u119 _ _ (by decide)
  have hA0 := hA.q F0
  exact t_R_floods mi ml z (c_floodSet hA.1 hA.2.1.v hA0.2.2.2.1 hA0.2.2.2.2 (hq _ F0))
