/-! ===== image and restore of both ===== -/
def setI (im : Nat → Option (Ln × Dt)) (i : Nat) (v : Ln × Dt) : Nat → Option (Ln × Dt) := fun j => if j = i then some v else im j
def inI (x : Int32) : Prop := 0 ≤ x.toInt ∧ x.toInt < 2
theorem inI_nI {x : Int32} (h : inI x) : x = nI x.toInt.toNat ∧ x.toInt.toNat < 2 := ⟨nI_toNat h.1, by have := h.2; have := h.1; omega⟩
theorem mr40 (z : Nat) {i : Nat} (hi : i < 2) : MR z 40 i = 79 + 16 * i := by
  match i, hi with
  | 0, _ => rfl
  | 1, _ => rfl
theorem mr79 (z : Nat) {i : Nat} (hi : i < 2) : MR z (79 + 16 * i) 0 = 80 + 16 * i := by
  match i, hi with
  | 0, _ => rfl
  | 1, _ => rfl
theorem shI79 {i : Nat} (hi : i < 2) : SH[79 + 16 * i]? = some (.inl 5) ∧ SH[80 + 16 * i]? = some (.inl 0) := by
  match i, hi with
  | 0, _ => exact ⟨rfl, rfl⟩
  | 1, _ => exact ⟨rfl, rfl⟩
theorem c_toImage {l : Launch} {h : Nat} {mi : TMi} {ml : TMl} {z : Nat} {i : Nat} {a : Ln} {Q : TMi → TMl → Nat → Prop} (hi : i < 2) (hl : LnC mi 18 a) (hB6 : nB a ≤ 6) (hR4 : nR a ≤ 4) (h8 : okC (mi (88 + 16 * i))) (hq : ∀ mi', (∀ n, n < 80 + 16 * i ∨ 89 + 16 * i ≤ n → mi' n = mi n) → LnC mi' (80 + 16 * i) a → Q mi' ml z) : CV l (h + 1) m_La_copyFrom [.ref (80 + 16 * i), .ref 18] mi ml z Q := by
  match i, hi with
  | 0, _ => exact c_La_copy_80_18 hl hB6 hR4 h8 (fun m F k => hq m (fun n hn => F n (by simp; omega)) k)
  | 1, _ => exact c_La_copy_96_18 hl hB6 hR4 h8 (fun m F k => hq m (fun n hn => F n (by simp; omega)) k)
theorem c_toImageS {l : Launch} {h : Nat} {mi : TMi} {ml : TMl} {z : Nat} {i : Nat} {a : Ln} {d : Dt} {Q : TMi → TMl → Nat → Prop} (hi : i < 2) (hB6 : nB a ≤ 6) (hR4 : nR a ≤ 4) (hc : Cs (mi 27) d) (hs : SL_17 mi a d) (hq : ∀ mi', (∀ n, n < 89 + 16 * i ∨ 95 + 16 * i ≤ n → mi' n = mi n) → Cs (mi' (89 + 16 * i)) d → SLp mi' (90 + 16 * i) (91 + 16 * i) (92 + 16 * i) (93 + 16 * i) (94 + 16 * i) (nB a) (nR a) allP (lkD a d) (tkD a d) → Q mi' ml z) : CV l (h + 1) m_Sc_copyFrom [.ref (79 + 16 * i), .ref 17] mi ml z Q := by
  match i, hi with
  | 0, _ => exact c_Sc_copy_79_17 hB6 hR4 hc hs (fun m F k k2 => hq m (fun n hn => F n (by simp; omega)) k k2)
  | 1, _ => exact c_Sc_copy_95_17 hB6 hR4 hc hs (fun m F k k2 => hq m (fun n hn => F n (by simp; omega)) k k2)
theorem c_ofImage {l : Launch} {h : Nat} {mi : TMi} {ml : TMl} {z : Nat} {i : Nat} {a : Ln} {Q : TMi → TMl → Nat → Prop} (hi : i < 2) (hl : LnC mi (80 + 16 * i) a) (hB6 : nB a ≤ 6) (hR4 : nR a ≤ 4) (h8 : okC (mi 26)) (hq : ∀ mi', (∀ n, n < 18 ∨ 27 ≤ n → mi' n = mi n) → LnC mi' 18 a → Q mi' ml z) : CV l (h + 1) m_La_copyFrom [.ref 18, .ref (80 + 16 * i)] mi ml z Q := by
  match i, hi with
  | 0, _ => exact c_La_copy_18_80 hl hB6 hR4 h8 (fun m F k => hq m (fun n hn => F n (by simp; omega)) k)
  | 1, _ => exact c_La_copy_18_96 hl hB6 hR4 h8 (fun m F k => hq m (fun n hn => F n (by simp; omega)) k)
theorem c_ofImageS {l : Launch} {h : Nat} {mi : TMi} {ml : TMl} {z : Nat} {i : Nat} {a : Ln} {d : Dt} {Q : TMi → TMl → Nat → Prop} (hi : i < 2) (hB6 : nB a ≤ 6) (hR4 : nR a ≤ 4) (hc : Cs (mi (89 + 16 * i)) d) (hs : SLp mi (90 + 16 * i) (91 + 16 * i) (92 + 16 * i) (93 + 16 * i) (94 + 16 * i) (nB a) (nR a) allP (lkD a d) (tkD a d)) (hq : ∀ mi', (∀ n, n < 27 ∨ 33 ≤ n → mi' n = mi n) → Cs (mi' 27) d → SL_17 mi' a d → Q mi' ml z) : CV l (h + 1) m_Sc_copyFrom [.ref 17, .ref (79 + 16 * i)] mi ml z Q := by
  match i, hi with
  | 0, _ => exact c_Sc_copy_17_79 hB6 hR4 hc hs (fun m F k k2 => hq m (fun n hn => F n (by simp; omega)) k k2)
  | 1, _ => exact c_Sc_copy_17_95 hB6 hR4 hc hs (fun m F k k2 => hq m (fun n hn => F n (by simp; omega)) k k2)
theorem c_B_image {l : Launch} {h : Nat} {mi : TMi} {ml : TMl} {z : Nat} {a : Ln} {d : Dt} {hs : List Dt} {im : Nat → Option (Ln × Dt)} {ty : Ty} {n : Nat} {tp : Nat → Nat} {fk fp x : Int32} {Q : Int32 → TMi → TMl → Nat → Prop} (hI : IC mi ml a d hs im ty n tp fk fp)
    (hq0 : ¬ inI x → Q (-2) mi ml z) (hq1 : inI x → ∀ m3, (∀ n, 119 ≤ n → m3 n = mi n) → IC m3 ml a d hs (setI im x.toInt.toNat (a, d)) ty n tp fk fp → Q 0 m3 ml z) : CI l (h + 2) m_B_image [.ref 1, .int x] mi ml z Q := by
  have hA := hI.1
  have hB6 := hA.1.1
  have hR4 := hA.1.2.1
  refine t_B_image mi ml z _ ?_
  simp only [Int32.lt_iff_toInt_lt, show (0 : Int32).toInt = 0 by decide, show (2 : Int32).toInt = 2 by decide]
  refine ⟨fun c => hq0 (fun k => by have := k.1; omega), fun c => ⟨fun c2 => ?_, fun c2 => hq0 (fun k => c2 k.2)⟩⟩
  have hx : inI x := ⟨by omega, c2⟩
  have hq1 := hq1 hx
  obtain ⟨ex, hi⟩ := inI_nI hx
  generalize x.toInt.toNat = i at ex hi hq1
  rw [ex]
  have hcl : (nI i).toNatClampNeg = i := cl_nI (show i < 2 ^ 31 by omega)
  have hin : vp_in (nI i) 2 := in_nI hi (by decide)
  simp only [hcl]
  rw [mr40 z hi, mr79 z hi]
  refine ⟨hin, ⟨by omega, by omega⟩, (shI79 hi).1, ⟨by omega, by omega⟩, (shI79 hi).2, ?_⟩
  refine c_toImage hi hA.2.2.1 hB6 hR4 (hI.2.2.2.1 i hi).2.1 (fun m1 F1 hl1 => ?_)
  rw [mr40 z hi]
  refine ⟨hin, ⟨by omega, by omega⟩, (shI79 hi).1, ?_⟩
  have hA1 : CA m1 a d := hA.fr (fun k k1 k2 => F1 k (by omega))
  refine c_toImageS hi hB6 hR4 hA1.2.2.2.1 hA1.2.2.2.2 (fun m2 F2 hc2 hs2 => ⟨hin, ?_⟩)
  have E : ∀ k, k ≠ 41 → k < 80 + 16 * i ∨ 95 + 16 * i ≤ k → (up m2 41 i (vp_nar .boolean 1)) k = mi k := fun k k1 k2 => by
    rw [up_ne _ _ _ k1, F2 k (by omega), F1 k (by omega)]
  obtain ⟨i1, i2, i3, i4, i5, i6, i7, i8, i9⟩ := hI
  refine hq1 _ (fun k hk => E k (by omega) (by omega)) ⟨i1.fr (fun k k1 k2 => E k (by omega) (by omega)), i2.fr (fun k k1 k2 => E k (by omega) (by omega)), i3, fun j hj => ?_, i5.fr (fun k k1 k2 => E k (by omega) (by omega)), ⟨by rw [E 1 (by omega) (by omega)]; exact i6.1, i6.2.1, fun j hj => by rw [E 2 (by omega) (by omega)]; exact i6.2.2 j hj⟩, by rw [E 1 (by omega) (by omega)]; exact i7, by rw [E 1 (by omega) (by omega)]; exact i8, by rw [E 11 (by omega) (by omega)]; exact i9⟩
  have U : ∀ k, k ≠ 41 → (up m2 41 i (vp_nar .boolean 1)) k = m2 k := fun k hk => up_ne _ _ _ hk
  by_cases q : j = i
  · subst q
    have hl2 : LnC m2 (80 + 16 * j) a := hl1.fr (fun k hk => F2 _ (by omega))
    refine ⟨?_, ?_, fun a' d' e => ?_⟩
    · rw [up_at]; simp only [setI, if_true]; rfl
    · rw [U _ (by omega)]; have := hl2.2.2.2.2.2.2.2.1; rw [show 80 + 16 * j + 8 = 88 + 16 * j by omega] at this; exact this
    · simp only [setI, if_true, Option.some.injEq, Prod.mk.injEq] at e
      obtain ⟨e1, e2⟩ := e
      subst e1 e2
      exact ⟨i1.1, i1.2.1, hl2.fr (fun k hk => U _ (by omega)), by rw [U _ (by omega)]; exact hc2, hs2.fr (U _ (by omega)) (U _ (by omega)) (U _ (by omega)) (U _ (by omega)) (U _ (by omega))⟩
  · obtain ⟨j1, j2, j3⟩ := i4 j hj
    have V : ∀ k, 80 + 16 * j ≤ k ∧ k < 95 + 16 * j → (up m2 41 i (vp_nar .boolean 1)) k = mi k := fun k hk => E k (by omega) (by omega)
    refine ⟨?_, ?_, fun a' d' e => ?_⟩
    · rw [up_nk _ _ _ q]; simp only [setI, if_neg q]
      rw [F2 41 (by omega), F1 41 (by omega)]; exact j1
    · rw [V _ (by omega)]; exact j2
    · simp only [setI, if_neg q] at e
      obtain ⟨g1, g2, g3, g4, g5⟩ := j3 a' d' e
      exact ⟨g1, g2, g3.fr (fun k hk => V _ (by omega)), by rw [V _ (by omega)]; exact g4, g5.fr (V _ (by omega)) (V _ (by omega)) (V _ (by omega)) (V _ (by omega)) (V _ (by omega))⟩
theorem c_B_restore {l : Launch} {h : Nat} {mi : TMi} {ml : TMl} {z : Nat} {a : Ln} {d : Dt} {hs : List Dt} {im : Nat → Option (Ln × Dt)} {ty : Ty} {n : Nat} {tp : Nat → Nat} {fk fp x : Int32} {Q : Int32 → TMi → TMl → Nat → Prop} (hI : IC mi ml a d hs im ty n tp fk fp)
    (hq0 : ¬ inI x → Q (-2) mi ml z) (hq1 : inI x → im x.toInt.toNat = none → Q (-5) mi ml z) (hq2 : inI x → ∀ a' d' m3, im x.toInt.toNat = some (a', d') → (∀ n, 119 ≤ n → m3 n = mi n) → IC m3 ml a' d' [] im ty n tp fk fp → Q 0 m3 ml z) : CI l (h + 2) m_B_restore [.ref 1, .int x] mi ml z Q := by
  have hA := hI.1
  refine t_B_restore mi ml z _ ?_
  simp only [Int32.lt_iff_toInt_lt, show (0 : Int32).toInt = 0 by decide, show (2 : Int32).toInt = 2 by decide]
  refine ⟨fun c => hq0 (fun k => by have := k.1; omega), fun c => ⟨fun c2 => ?_, fun c2 => hq0 (fun k => c2 k.2)⟩⟩
  have hx : inI x := ⟨by omega, c2⟩
  have hq1 := hq1 hx
  have hq2 := hq2 hx
  obtain ⟨ex, hi⟩ := inI_nI hx
  generalize x.toInt.toNat = i at ex hi hq1 hq2
  rw [ex]
  have hcl : (nI i).toNatClampNeg = i := cl_nI (show i < 2 ^ 31 by omega)
  have hin : vp_in (nI i) 2 := in_nI hi (by decide)
  simp only [hcl]
  obtain ⟨i1, i2, i3, i4, i5, i6, i7, i8, i9⟩ := hI
  obtain ⟨j1, j2, j3⟩ := i4 i hi
  rw [mr40 z hi, mr79 z hi, j1, bI_0]
  refine ⟨hin, fun c3 => ?_, fun c3 => hq1 (by cases e : im i with | none => rfl | some v => rw [e] at c3; cases c3)⟩
  obtain ⟨⟨a', d'⟩, e⟩ : ∃ v, im i = some v := by
    cases e : im i with
    | none => rw [e] at c3; exact absurd rfl c3
    | some v => exact ⟨v, rfl⟩
  obtain ⟨g1, g2, g3, g4, g5⟩ := j3 a' d' e
  refine ⟨hin, ⟨by omega, by omega⟩, (shI79 hi).1, ⟨by omega, by omega⟩, ?_⟩
  refine c_ofImage hi g3 g1.1 g1.2.1 hA.2.2.1.2.2.2.2.2.2.2.1 (fun m1 F1 hl1 => ?_)
  rw [mr40 z hi]
  refine ⟨hin, ⟨by omega, by omega⟩, ?_⟩
  refine c_ofImageS hi g1.1 g1.2.1 (by rw [F1 _ (by omega)]; exact g4) (g5.fr (F1 _ (by omega)) (F1 _ (by omega)) (F1 _ (by omega)) (F1 _ (by omega)) (F1 _ (by omega))) (fun m2 F2 hc2 hs2 => t_Pa_forget _ _ _ ?_)
  have E : ∀ k, k ≠ 42 → k < 18 ∨ 33 ≤ k → (up m2 42 3 0) k = mi k := fun k k1 k2 => by rw [up_ne _ _ _ k1, F2 k (by omega), F1 k (by omega)]
  have U : ∀ k, k ≠ 42 → (up m2 42 3 0) k = m2 k := fun k hk => up_ne _ _ _ hk
  refine hq2 a' d' _ e (fun k hk => E k (by omega) (by omega)) ⟨⟨g1, g2, hl1.fr (fun k hk => by rw [U _ (by omega), F2 _ (by omega)]), by rw [U 27 (by omega)]; exact hc2, hs2.fr (U _ (by omega)) (U _ (by omega)) (U _ (by omega)) (U _ (by omega)) (U _ (by omega))⟩, ?_, fun d2 hm => absurd hm (by simp), i4.fr (fun k hk => E k (by omega) (by omega)), i5.fr (fun k k1 k2 => E k (by omega) (by omega)), ⟨by rw [E 1 (by omega) (by omega)]; exact i6.1, i6.2.1, fun j hj => by rw [E 2 (by omega) (by omega)]; exact i6.2.2 j hj⟩, by rw [E 1 (by omega) (by omega)]; exact i7, by rw [E 1 (by omega) (by omega)]; exact i8, by rw [E 11 (by omega) (by omega)]; exact i9⟩
  obtain ⟨p0, nx, p1, p2, p3, p4⟩ := i2
  refine ⟨Nat.zero_le _, nx, ?_, p2, ?_, fun j d2 hj => by simp at hj⟩
  · rw [up_nk _ _ _ (by decide), F2 42 (by omega), F1 42 (by omega)]; exact p1
  · rw [up_at]; rfl
