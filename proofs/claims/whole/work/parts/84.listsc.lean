/-! ===== lists of both ===== -/
def ltT (ty : Ty) (t k : Nat) (f : Nat → Int64) : Ty := (ty.1, ty.2.1, fun u j => if u = t ∧ j < k then f j else ty.2.2 u j)
theorem ltT_congr {ty : Ty} {t k : Nat} {f g : Nat → Int64} (h : ∀ j, j < k → f j = g j) : ltT ty t k f = ltT ty t k g := by
  unfold ltT
  congr 2
  funext u j
  by_cases q : u = t ∧ j < k
  · rw [if_pos q, if_pos q, h j q.2]
  · rw [if_neg q, if_neg q]
theorem TrC.lt {mi : TMi} {ml l3 : TMl} {ty : Ty} {t k : Nat} {f : Nat → Int64} (h : TrC mi ml ty) (e1 : ∀ u, u ≠ 112 + 2 * t → l3 u = ml u) (e2 : ∀ j, j < k → l3 (112 + 2 * t) j = f j) (e3 : ∀ j, k ≤ j → l3 (112 + 2 * t) j = ml (112 + 2 * t) j) : TrC mi l3 (ltT ty t k f) := fun u hu => by
  obtain ⟨h1, h2, h3, h4, h5⟩ := h u hu
  refine ⟨h1, h2, h3, h4, fun j hj => ?_⟩
  show _ = if u = t ∧ j < k then f j else ty.2.2 u j
  by_cases q : u = t
  · subst q
    by_cases e : j < k
    · rw [e2 j e, if_pos ⟨rfl, e⟩]
    · rw [e3 j (by omega), if_neg (fun k => e k.2)]; exact h5 j hj
  · rw [e1 _ (by omega), if_neg (fun k => q k.1)]; exact h5 j hj
theorem TrR.lt {mi : TMi} {ml l3 : TMl} {ty : Ty} {t k : Nat} {f : Nat → Int64} (h : TrR mi ml ty) (hN : ∀ t, t < 4 → ty.2.1 t ≤ 40) (hk : k ≤ 40) (e2 : ∀ j, j < k → l3 136 (40 * t + j) = f j) (e3 : ∀ j, (∀ i, i < k → j ≠ 40 * t + i) → l3 136 j = ml 136 j) : TrR mi l3 (ltT ty t k f) := fun u hu => by
  obtain ⟨h1, h2, h3⟩ := h u hu
  have := hN u hu
  refine ⟨h1, h2, fun j hj => ?_⟩
  have hj : j < ty.2.1 u := hj
  show _ = if u = t ∧ j < k then f j else ty.2.2 u j
  by_cases q : u = t ∧ j < k
  · rw [q.1, e2 j q.2, if_pos ⟨rfl, q.2⟩]
  · rw [e3 _ (fun i hi e => q (by omega)), if_neg q]; exact h3 j hj
theorem cut_oI {s : Int32} {x : Option Nat} (h : ∀ r, x = some r → r < 4) : cutV s (oI x).toInt64 = (oI x).toInt64 := by
  have key : ∀ w : Int32, w.toInt64.toInt32.toInt8.toInt32.toInt64 = w.toInt64 → w.toInt64.toInt32.toInt16.toInt32.toInt64 = w.toInt64 → w.toInt64.toInt32.toInt64 = w.toInt64 → cutV s w.toInt64 = w.toInt64 := fun w h1 h2 h3 => by
    unfold cutV
    split
    · exact h1
    · split
      · exact h2
      · split
        · exact h3
        · rfl
  cases x with
  | none => exact key (-1) (by decide) (by decide) (by decide)
  | some r =>
    have hr := h r rfl
    match r, hr with
    | 0, _ => exact key 0 (by decide) (by decide) (by decide)
    | 1, _ => exact key 1 (by decide) (by decide) (by decide)
    | 2, _ => exact key 2 (by decide) (by decide) (by decide)
    | 3, _ => exact key 3 (by decide) (by decide) (by decide)
theorem c_lists99 {l : Launch} {h : Nat} {m : TMi} {ml : TMl} {z : Nat} {a : Ln} {t n k : Nat} {s : Int32} {wo : Nat → Option Nat} {Q : Int32 → TMi → TMl → Nat → Prop} (ha : okLn a) (ht : t < 4) (k1 : m (111 + 2 * t) 1 = s) (k3 : m (111 + 2 * t) 2 = nI n) (hn : n ≤ 40) (hk : k ≤ n) (hkB : k ≤ nB a) (hw : isW (m 56) (nB a) (nR a) wo)
    (hq : ∀ l3, (∀ u, u ≠ 112 + 2 * t → l3 u = ml u) → (∀ j, j < k → l3 (112 + 2 * t) j = (oI (wo j)).toInt64) → (∀ j, k ≤ j → l3 (112 + 2 * t) j = ml (112 + 2 * t) j) → Q (nI k) m l3 z) : Ev l (h + 3) m_B_lists 99 ([.ref 1, .int (nI t), .retAddr 0, .int (nI k), .int 0], [], st m ml z) (qI Q) := by
  have hB6 := ha.1
  have hR4 := ha.2.1
  refine loop (P := fun i => ∀ q, (∀ u, u ≠ 112 + 2 * t → q u = ml u) → (∀ j, j < i → q (112 + 2 * t) j = (oI (wo j)).toInt64) → (∀ j, i ≤ j → q (112 + 2 * t) j = ml (112 + 2 * t) j) → Ev l (h + 3) m_B_lists 99 ([.ref 1, .int (nI t), .retAddr 0, .int (nI k), .int (nI i)], [], st m q z) (qI Q)) k (fun q E1 E2 E3 => t_B_lists_99 m q z _ _ _ ⟨fun _ => hq q E1 E2 E3, fun c => absurd (le_at (N := k) rfl (by omega)) c⟩) (fun i hi ih q E1 E2 E3 => ?_) ml (fun _ _ => rfl) (fun j hj => absurd hj (Nat.not_lt_zero _)) (fun _ _ => rfl)
  refine t_B_lists_99 m q z _ _ _ ⟨fun c => absurd c (ge_no (N := k) rfl (by omega) hi), fun _ => ?_⟩
  rw [cl_nI (show t < 2 ^ 31 by omega), mr78 z ht, cl_nI (show i < 2 ^ 31 by omega), (hw i (by omega)).1, nI_1]
  refine ⟨in_nI ht (by decide), ⟨by omega, by omega⟩, in_nI (by omega) (by decide), shT ht, c_Tr_put ht k1 k3 hn (by omega) ?_⟩
  rw [cut_oI (fun r e => by have := (hw i (by omega)).2 r e; omega)]
  refine ih _ (fun u hu => by rw [upL_ne _ _ _ hu]; exact E1 u hu) (fun j hj => ?_) (fun j hj => by rw [upL_nk _ _ _ (by omega)]; exact E3 j (by omega))
  by_cases e : j = i
  · rw [e, upL_at]
  · rw [upL_nk _ _ _ e]; exact E2 j (by omega)
theorem minI : ∀ n, n < 41 → ∀ b, b < 7 → (if nI n > nI b then nI b else nI n) = nI (min n b) := by decide +kernel
def lsE (ty : Ty) (x y : Int32) : Int32 := if y = 0 ∨ y = 1 then noT ty x else -2
theorem c_B_lists {l : Launch} {h : Nat} {mi : TMi} {ml : TMl} {z : Nat} {a : Ln} {d : Dt} {hs : List Dt} {im : Nat → Option (Ln × Dt)} {ty : Ty} {n : Nat} {tp : Nat → Nat} {fk fp x y : Int32} {Q : Int32 → TMi → TMl → Nat → Prop} (hI : IC mi ml a d hs im ty n tp fk fp)
    (hq0 : ¬ lsE ty x y = 0 → Q (lsE ty x y) mi ml z)
    (hq1 : lsE ty x y = 0 → ∀ m3 l3 wo, (y = 0 → BestA a d wo) → (¬ y = 0 → WorstA a d wo) → (∀ n, 119 ≤ n → m3 n = mi n ∧ l3 n = ml n) → IC m3 l3 a d hs im (ltT ty x.toInt.toNat (min (ty.2.1 x.toInt.toNat) (nB a)) (fun b => (oI (wo b)).toInt64)) n tp fk fp → Q (nI (min (ty.2.1 x.toInt.toNat) (nB a))) m3 l3 z) : CI l (h + 6) m_B_lists [.ref 1, .int x, .int y] mi ml z Q := by
  have hA := hI.1
  have hB6 := hA.1.1
  have hT := hI.2.2.2.2.1
  unfold lsE noT at hq0 hq1
  refine t_B_lists mi ml z _ _ (c_isTray (fun c => ⟨fun q => absurd q (by decide), fun _ => ?_⟩) (fun c => ⟨fun _ => ?_, fun q => absurd rfl q⟩))
  · rw [if_pos c] at hq0 hq1
    obtain ⟨ex, ht⟩ := inT_nI c
    generalize x.toInt.toNat = t at ex ht hq1 hq0
    rw [ex]
    obtain ⟨k1, k2, k3, k4, k5⟩ := hT t ht
    have hin : vp_in (nI t) 4 := in_nI ht (by decide)
    have hcl : (nI t).toNatClampNeg = t := cl_nI (show t < 2 ^ 31 by omega)
    simp only [hcl]
    rw [mr78 z ht]
    have hd : (0 < 111 + 2 * t) ∧ 111 + 2 * t < 1000 := ⟨by omega, by omega⟩
    have fin : ¬ ty.1 t = none → (y = 0 ∨ y = 1) → ∀ m wo, Fr [56, 57, 58, 59] mi m → isW (m 56) (nB a) (nR a) wo → (y = 0 → BestA a d wo) → (¬ y = 0 → WorstA a d wo) → Ev l (h + 6) m_B_lists 99 ([.ref 1, .int (nI t), .retAddr 0, .int (if (m (111 + 2 * t) 2) > (m 18 0) then m 18 0 else m (111 + 2 * t) 2), .int 0], [], st m ml z) (qI Q) := fun q hy m wo F hw w1 w2 => by
      have e3 : m (111 + 2 * t) 2 = nI (ty.2.1 t) := by rw [F _ (by simp; omega)]; exact k3
      have e0 : m 18 0 = nI (nB a) := by rw [F 18 (by decide)]; exact hA.2.2.1.1
      rw [e3, e0, minI _ (by omega) _ (by omega)]
      rw [if_pos hy, if_neg q] at hq1
      refine c_lists99 hA.1 ht rfl e3 k4 (by omega) (by omega) hw (fun l3 E1 E2 E3 => hq1 rfl m l3 wo w1 w2 (fun u hu => ⟨F u (by simp; omega), E1 u (by omega)⟩) (hI.tr (fun u _ hu => ?_) ((hT.fr (fun u u1 u2 => F u (by simp; omega))).lt E1 E2 E3)))
      rename_i hns
      exact F u (fun k => hns (by simp at k ⊢; omega))
    refine ⟨fun y0 => ⟨hin, hd, shT ht, c_missing ht ?_⟩, fun y0 => ⟨fun y1 => ⟨hin, hd, shT ht, c_missing ht ?_⟩, fun y1 => ?_⟩⟩
    · rw [k1, oI_m1 (fun n e => by have := k2 n e; omega)]
      refine ⟨fun q => ⟨fun _ => ⟨fun c => absurd y0 c, fun _ => c_allBecks hA.2.2.1.1 hB6 (c_best_17 hA (fun m be F hw hbe => ?_))⟩, fun c => absurd rfl c⟩, fun q => ⟨fun c => absurd c (by decide), fun _ => by rw [if_pos (Or.inl y0), if_pos q] at hq0; exact hq0 (by decide)⟩⟩
      rw [mr78 z ht]
      exact ⟨hin, hd, shT ht, fin q (Or.inl y0) m be F hw (fun _ => hbe) (fun k => absurd y0 k)⟩
    · rw [k1, oI_m1 (fun n e => by have := k2 n e; omega)]
      refine ⟨fun q => ⟨fun _ => ⟨fun _ => c_worst_17 hA (fun m be F hw hbe => ?_), fun c => absurd c y0⟩, fun c => absurd rfl c⟩, fun q => ⟨fun c => absurd c (by decide), fun _ => by rw [if_pos (Or.inr y1), if_pos q] at hq0; exact hq0 (by decide)⟩⟩
      rw [mr78 z ht]
      exact ⟨hin, hd, shT ht, fin q (Or.inr y1) m be F hw (fun k => absurd k y0) (fun _ => hbe)⟩
    · rw [if_neg (fun k => k.elim y0 y1)] at hq0
      exact hq0 (by decide)
  · rw [if_neg c] at hq0
    split at hq0 <;> exact hq0 (by decide)
theorem c_R_lists {l : Launch} {h : Nat} {mi : TMi} {ml : TMl} {z : Nat} {a : Ln} {d : Dt} {hs : List Dt} {im : Nat → Option (Ln × Dt)} {ty : Ty} {n : Nat} {tp : Nat → Nat} {fk fp x y : Int32} {Q : Int32 → TMi → TMl → Nat → Prop} (hI : IR mi ml a d hs im ty n tp fk fp) (hS : ∀ t, t < 4 → ∀ s, ty.1 t = some s → s < 4) (hN : ∀ t, t < 4 → ty.2.1 t ≤ 40)
    (hq0 : ¬ lsE ty x y = 0 → ∀ m3, (∀ n, n < 119 → m3 n = mi n) → IR m3 ml a d hs im ty n tp fk fp → Q (lsE ty x y) m3 ml z)
    (hq1 : lsE ty x y = 0 → ∀ m3 l3 wo, (y = 0 → BestA a d wo) → (¬ y = 0 → WorstA a d wo) → (∀ n, n < 119 → m3 n = mi n ∧ l3 n = ml n) → IR m3 l3 a d hs im (ltT ty x.toInt.toNat (min (ty.2.1 x.toInt.toNat) (nB a)) (fun b => (oI (wo b)).toInt64)) n tp fk fp → Q (nI (min (ty.2.1 x.toInt.toNat) (nB a))) m3 l3 z) : CI l (h + 7) m_R_lists [.ref 119, .int x, .int y] mi ml z Q := by
  have F0 : FQ mi (up mi 119 0 0) := FQ.u119 _ _ (by decide)
  have hA := hI.1
  have hB6 := hA.1.1
  have hI0 := hI.fr (F0.x hA)
  have G0 : ∀ q, q < 119 → (up mi 119 0 0) q = mi q := fun q hq => F0.1 q (by omega)
  have hT0 := hI0.2.2.2.1
  have hq0 := fun k => hq0 k _ G0 hI0
  unfold lsE at hq0 hq1
  have noX : ¬ inT x → Q (-2) (up mi 119 0 0) ml z := fun k => by
    unfold noT at hq0
    rw [if_neg k] at hq0
    split at hq0 <;> exact hq0 (by decide)
  refine t_R_lists mi ml z _ _ (c_R_within ?_)
  rw [bI_0, t64, show (0 : Int64).toInt = 0 by decide, show (3 : Int64).toInt = 3 by decide]
  refine ⟨fun c => ?_, fun c => c_R_within ?_⟩
  · rw [decide_eq_false_iff_not] at c
    exact noX (fun k => c ⟨k.1, by have := k.2; omega⟩)
  rw [Bool.not_eq_false, decide_eq_true_eq] at c
  have hx : inT x := ⟨c.1, by omega⟩
  have hyy : (0 ≤ y.toInt ∧ y.toInt ≤ 1) ↔ (y = 0 ∨ y = 1) := by
    rw [← Int32.toInt_inj, ← Int32.toInt_inj, show (0 : Int32).toInt = 0 by decide, show (1 : Int32).toInt = 1 by decide]
    omega
  rw [bI_0, t64, show (0 : Int64).toInt = 0 by decide, show (1 : Int64).toInt = 1 by decide]
  refine ⟨fun c2 => c_R_noTray hT0 hS ?_, fun c2 => ?_⟩
  · rw [Bool.not_eq_false, decide_eq_true_eq, hyy] at c2
    rw [if_pos c2] at hq0 hq1
    show (noT ty x = 0 → _) ∧ (¬ noT ty x = 0 → _)
    refine ⟨fun c3 => c_held hI0.1 (fun m1 F1 hA1 hT1 hH1 hs1 => ?_), fun c3 => hq0 c3⟩
    have hq1 := hq1 c3
    have hI1 := hI0.fr (F1.x hI0.1)
    have G1 : ∀ q, q < 119 → m1 q = mi q := fun q hq => by rw [F1.1 q (by omega)]; exact G0 q hq
    obtain ⟨ex, ht⟩ := inT_nI hx
    generalize x.toInt.toNat = t at ex ht hq1
    have h40 := hN t ht
    have hin : vp_in (nI t) 4 := in_nI ht (by decide)
    have e5 : m1 135 t = nI (ty.2.1 t) := (hI1.2.2.2.1 t ht).2.1
    have e0 : m1 120 1 = nI (nB a) := hA1.2.2.2.1.1
    obtain ⟨wo, w1, w2⟩ : ∃ wo, (y = 0 → BestA a d wo) ∧ (¬ y = 0 → WorstA a d wo) := by
      by_cases q : y = 0
      · obtain ⟨be, hbe⟩ := ex_best (lkD a d) (tkD a d) (dR d) hA.1.1 hA.1.2.1
        exact ⟨be, fun _ => hbe, fun k => absurd q k⟩
      · obtain ⟨be, hbe⟩ := ex_worst (lkD a d) (tkD a d) (dR d) hA.1.1 hA.1.2.1
        exact ⟨be, fun k => absurd k q, fun _ => hbe⟩
    have hq1 := hq1 m1
    have key : ∀ k, k ≤ ty.2.1 t → k ≤ nB a → (∀ l3, (∀ n, n < 119 → m1 n = mi n ∧ l3 n = ml n) → IR m1 l3 a d hs im (ltT ty t k (fun b => (oI (wo b)).toInt64)) n tp fk fp → Q (nI k) m1 l3 z) → Ev l (h + 7) m_R_lists 81 ([.ref 119, .int (nI t), .int y, .retAddr 0, .int (nI k), .int 0], [], st m1 ml z) (qI Q) := fun k hk hkB hqk => by
      refine loop (P := fun i => ∀ q, (∀ u, u ≠ 136 → q u = ml u) → (∀ j, j < i → q 136 (40 * t + j) = (oI (wo j)).toInt64) → (∀ j, (∀ i', i' < i → j ≠ 40 * t + i') → q 136 j = ml 136 j) → Ev l (h + 7) m_R_lists 81 ([.ref 119, .int (nI t), .int y, .retAddr 0, .int (nI k), .int (nI i)], [], st m1 q z) (qI Q)) k (fun q E1 E2 E3 => t_R_lists_81 m1 q z _ _ _ _ ⟨fun _ => hqk q (fun u hu => ⟨G1 u hu, E1 u (by omega)⟩) (hI1.tr (fun _ _ => rfl) (hI1.2.2.2.1.lt hN (by omega) E2 E3)), fun c => absurd (le_at (N := k) rfl (by omega)) c⟩) (fun i hi ih q E1 E2 E3 => ?_) ml (fun _ _ => rfl) (fun j hj => absurd hj (Nat.not_lt_zero _)) (fun _ _ => rfl)
      have nx := ih (upL q 136 (40 * t + i) (oI (wo i)).toInt64) (fun u hu => by rw [upL_ne _ _ _ hu]; exact E1 u hu) (fun j hj => by
        by_cases e : j = i
        · rw [e, upL_at]
        · rw [upL_nk _ _ _ (by omega)]; exact E2 j (by omega)) (fun j hj => by rw [upL_nk _ _ _ (hj i (by omega))]; exact E3 j (fun i' hi' => hj i' (by omega)))
      refine t_R_lists_81 m1 q z _ _ _ _ ⟨fun c => absurd c (ge_no (N := k) rfl (by omega) hi), fun _ => ?_⟩
      rw [(ix40 t ht i (by omega)).1, nI_1]
      exact ⟨fun y0 => c_of_worst hA1 hT1 hs1 (by omega) (w2 y0) ⟨(ix40 t ht i (by omega)).2, nx⟩, fun y0 => c_of_best hA1 hT1 hs1 (by omega) (w1 y0) ⟨(ix40 t ht i (by omega)).2, nx⟩⟩
    rw [ex, cl_nI (show t < 2 ^ 31 by omega), e5, e0, nI_leI (by omega) (by omega)]
    refine ⟨hin, fun c4 => ⟨hin, key _ (by omega) c4 (fun l3 k1 k2 => ?_)⟩, fun c4 => key _ (by omega) (by omega) (fun l3 k1 k2 => ?_)⟩
    · rw [Nat.min_eq_left c4] at hq1; exact hq1 l3 wo w1 w2 k1 k2
    · rw [Nat.min_eq_right (by omega)] at hq1; exact hq1 l3 wo w1 w2 k1 k2
  · rw [decide_eq_false_iff_not, hyy] at c2
    rw [if_neg c2] at hq0
    exact hq0 (by decide)
