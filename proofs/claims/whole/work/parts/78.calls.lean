/-! ===== the class's calls that do something ===== -/
def kp (x : Int32) (hs : List Dt) (d : Dt) : List Dt := if whyC x = 0 then (d :: hs).take 10 else hs
theorem whyC_lt {x : Int32} : (x < -1) ↔ ¬ (-1 : Int32) ≤ x := by rw [Int32.lt_iff_toInt_lt, Int32.le_iff_toInt_le]; omega
theorem whyC_0 {x : Int32} (h : (-1 : Int32) ≤ x) : whyC x = 0 := if_pos h
theorem kept_okD {a : Ln} {d : Dt} {hs : List Dt} (hd : okD a d) (h : ∀ d', d' ∈ hs → okD a d') : ∀ d', d' ∈ (d :: hs).take 10 → okD a d' := fun d' hm => by
  have := List.mem_of_mem_take hm
  rcases List.mem_cons.mp this with e | e
  · rw [e]; exact hd
  · exact h d' e
/-- what is told of the class's memory when a deed is done, before it is kept -/
def DnC (mi m2 : TMi) (a : Ln) (d d' : Dt) : Prop := Fr [15, 16, 27, 28, 29, 30, 31, 32, 54] mi m2 ∧ Cs (m2 27) d' ∧ SL_17 m2 a d' ∧ okD a d' ∧ Cs (m2 54) d
theorem DnC.ca {mi m2 : TMi} {a : Ln} {d d' : Dt} (h : DnC mi m2 a d d') (hA : CA mi a d) : CA m2 a d' := ⟨hA.1, h.2.2.2.1, hA.2.2.1.fr (fun k hk => h.1 _ (by simp; omega)), h.2.1, h.2.2.1⟩
theorem IC.done {mi m2 m3 : TMi} {ml : TMl} {a : Ln} {d d' : Dt} {hs hs' : List Dt} {im : Nat → Option (Ln × Dt)} {ty : Ty} {n : Nat} {tp : Nat → Nat} {fk fp : Int32} (hI : IC mi ml a d hs im ty n tp fk fp) (hD : DnC mi m2 a d d') (e : ∀ n, n < 42 ∨ 54 ≤ n ∨ n = 43 → m3 n = m2 n) (hP : PsC m3 hs') (ho : ∀ d', d' ∈ hs' → okD a d') : IC m3 ml a d' hs' im ty n tp fk fp := by
  obtain ⟨h1, h2, h3, h4, h5, h6, h7, h8, h9⟩ := hI
  have E : ∀ n, n ∉ [15, 16, 27, 28, 29, 30, 31, 32, 54] → n < 42 ∨ 54 ≤ n ∨ n = 43 → m3 n = mi n := fun n hn hk => by rw [e n hk]; exact hD.1 n hn
  refine ⟨(hD.ca h1).fr (fun n k1 k2 => e n (by omega)), hP, ho, h4.fr (fun k hk => E k (by simp; omega) (by omega)), h5.fr (fun k k1 k2 => E k (by simp; omega) (by omega)), ⟨by rw [E 1 (by decide) (by omega)]; exact h6.1, h6.2.1, fun j hj => by rw [E 2 (by decide) (by omega)]; exact h6.2.2 j hj⟩, by rw [E 1 (by decide) (by omega)]; exact h7, by rw [E 1 (by decide) (by omega)]; exact h8, by rw [E 11 (by decide) (by omega)]; exact h9⟩
theorem c_keptIfDone {l : Launch} {h : Nat} {mi m2 : TMi} {ml : TMl} {z : Nat} {a : Ln} {d d' : Dt} {hs : List Dt} {im : Nat → Option (Ln × Dt)} {ty : Ty} {n : Nat} {tp : Nat → Nat} {fk fp x : Int32} {Q : Int32 → TMi → TMl → Nat → Prop} (hI : IC mi ml a d hs im ty n tp fk fp) (hD : DnC mi m2 a d d') (hw : whyC x = 0 ↔ (-1 : Int32) ≤ x)
    (hq : ∀ m3, (∀ n, 119 ≤ n → m3 n = mi n) → IC m3 ml a d' (kp x hs d) im ty n tp fk fp → Q x m3 ml z) : CI l (h + 3) m_B_keptIfDone [.ref 1, .int x] m2 ml z Q := by
  unfold kp at hq
  have hP2 : PsC m2 hs := hI.2.1.fr (fun k k1 k2 => hD.1 k (by simp; omega))
  refine t_B_keptIfDone m2 ml z _ ⟨fun c => ?_, fun c => c_keep hP2 hD.2.2.2.2 (fun m3 e hP => ?_)⟩
  · rw [if_neg (fun k => whyC_lt.mp c (hw.mp k))] at hq
    exact hq m2 (fun k hk => hD.1 k (by simp; omega)) (hI.done hD (fun _ _ => rfl) hP2 hI.2.2.1)
  · have c' : (-1 : Int32) ≤ x := by rw [whyC_lt] at c; exact Decidable.not_not.mp c
    rw [if_pos (hw.mpr c')] at hq
    exact hq m3 (fun k hk => by rw [e k (by omega)]; exact hD.1 k (by simp; omega)) (hI.done hD e hP (kept_okD hI.1.2.1 hI.2.2.1))
/-- the answers of deeds: at least -1, or one of why not -/
def okX (x : Int32) : Prop := whyC x = 0 ↔ (-1 : Int32) ≤ x
theorem okX_11 : okX (-11) := ⟨fun e => absurd e (by decide), fun e => absurd e (by decide)⟩
theorem okX_12 : okX (-12) := ⟨fun e => absurd e (by decide), fun e => absurd e (by decide)⟩
theorem okX_13 : okX (-13) := ⟨fun e => absurd e (by decide), fun e => absurd e (by decide)⟩
theorem okX_14 : okX (-14) := ⟨fun e => absurd e (by decide), fun e => absurd e (by decide)⟩
theorem okX_nI {n : Nat} (h : n < 2 ^ 31) : okX (nI n) := by
  have : (-1 : Int32) ≤ nI n := by
    have := m1lt h
    rw [Int32.lt_iff_toInt_lt] at this
    rw [Int32.le_iff_toInt_le]
    omega
  exact ⟨fun _ => this, fun _ => if_pos this⟩
theorem okX_m1 : okX (-1) := ⟨fun _ => by decide, fun _ => by decide⟩
theorem okX_oI {x : Option Nat} (h : ∀ n, x = some n → n < 2 ^ 31) : okX (oI x) := by
  cases x with
  | none => exact okX_m1
  | some n => exact okX_nI (h n rfl)
theorem c_looked {l : Launch} {h : Nat} {mi : TMi} {ml : TMl} {z : Nat} {a : Ln} {d : Dt} {Q : TMi → TMl → Nat → Prop} (hA : CA mi a d) (hq : ∀ m1, Fr [54] mi m1 → Cs (m1 54) d → CA m1 a d → Q m1 ml z) : CV l (h + 1) m_Pa_look [.ref 42, .ref 27] mi ml z Q := c_look hA.2.2.2.1 (fun m1 F h54 => hq m1 F h54 (hA.of F (by simp)))
theorem c_B_declare {l : Launch} {h : Nat} {mi : TMi} {ml : TMl} {z : Nat} {a : Ln} {d : Dt} {hs : List Dt} {im : Nat → Option (Ln × Dt)} {ty : Ty} {n : Nat} {tp : Nat → Nat} {fk fp x y : Int32} {Q : Int32 → TMi → TMl → Nat → Prop} (hI : IC mi ml a d hs im ty n tp fk fp) (hx : okX (iInto a d x y).1)
    (hq : ∀ m3, (∀ n, 119 ≤ n → m3 n = mi n) → IC m3 ml a (iInto a d x y).2 (kp (iInto a d x y).1 hs d) im ty n tp fk fp → Q (iInto a d x y).1 m3 ml z) : CI l (h + 5) m_B_declare [.ref 1, .int x, .int y] mi ml z Q := by
  have hA := hI.1
  refine t_B_declare mi ml z _ _ (c_looked hA (fun m1 F1 h54 hA1 => c_goInto_17 hA1.1 hA1.2.1 hA1.2.2.1 hA1.2.2.2.1 hA1.2.2.2.2 (fun m2 F2 hc2 => c_keptIfDone hI ⟨(F1.weak (by simp)).step (F2.weak (by simp)), hc2, ?_, okD_iInto hA.2.1 x y, by rw [F2 54 (by decide)]; exact h54⟩ hx hq)))
  unfold SL_17
  rw [(lk_same (a := a) (iInto_fg a d _ _)).1, (lk_same (a := a) (iInto_fg a d _ _)).2]
  exact hA1.2.2.2.2.fr (F2 _ (by decide)) (F2 _ (by decide)) (F2 _ (by decide)) (F2 _ (by decide)) (F2 _ (by decide))
theorem c_B_leave {l : Launch} {h : Nat} {mi : TMi} {ml : TMl} {z : Nat} {a : Ln} {d : Dt} {hs : List Dt} {im : Nat → Option (Ln × Dt)} {ty : Ty} {n : Nat} {tp : Nat → Nat} {fk fp x : Int32} {Q : Int32 → TMi → TMl → Nat → Prop} (hI : IC mi ml a d hs im ty n tp fk fp) (hx : okX (iOut a d x).1)
    (hq : ∀ m3, (∀ n, 119 ≤ n → m3 n = mi n) → IC m3 ml a (iOut a d x).2 (kp (iOut a d x).1 hs d) im ty n tp fk fp → Q (iOut a d x).1 m3 ml z) : CI l (h + 5) m_B_leave [.ref 1, .int x] mi ml z Q := by
  have hA := hI.1
  refine t_B_leave mi ml z _ (c_looked hA (fun m1 F1 h54 hA1 => c_goOut_17 hA1.1 hA1.2.1 hA1.2.2.1 hA1.2.2.2.1 (fun m2 F2 hc2 => c_keptIfDone hI ⟨(F1.weak (by simp)).step (F2.weak (by simp)), hc2, ?_, okD_iOut hA.2.1 x, by rw [F2 54 (by decide)]; exact h54⟩ hx hq)))
  unfold SL_17
  rw [(lk_same (a := a) (iOut_fg a d _)).1, (lk_same (a := a) (iOut_fg a d _)).2]
  exact hA1.2.2.2.2.fr (F2 _ (by decide)) (F2 _ (by decide)) (F2 _ (by decide)) (F2 _ (by decide)) (F2 _ (by decide))
theorem c_B_send {l : Launch} {h : Nat} {mi : TMi} {ml : TMl} {z : Nat} {a : Ln} {d : Dt} {hs : List Dt} {im : Nat → Option (Ln × Dt)} {ty : Ty} {n : Nat} {tp : Nat → Nat} {fk fp y x v : Int32} {Q : Int32 → TMi → TMl → Nat → Prop} (hI : IC mi ml a d hs im ty n tp fk fp) (hx : okX (iGive a d y x v).1)
    (hq : ∀ m3, (∀ n, 119 ≤ n → m3 n = mi n) → IC m3 ml a (iGive a d y x v).2 (kp (iGive a d y x v).1 hs d) im ty n tp fk fp → Q (iGive a d y x v).1 m3 ml z) : CI l (h + 5) m_B_send [.ref 1, .int y, .int x, .int v] mi ml z Q := by
  have hA := hI.1
  exact t_B_send mi ml z _ _ _ (c_looked hA (fun m1 F1 h54 hA1 => c_give_17 hA1.1 hA1.2.1 hA1.2.2.1 hA1.2.2.2.1 hA1.2.2.2.2 (fun m2 F2 hc2 hs2 => c_keptIfDone hI ⟨(F1.weak (by simp)).step (F2.weak (by simp)), hc2, hs2, okD_iGive hA.2.1 y x v, by rw [F2 54 (by decide)]; exact h54⟩ hx hq)))
theorem c_B_rain {l : Launch} {h : Nat} {mi : TMi} {ml : TMl} {z : Nat} {a : Ln} {d : Dt} {hs : List Dt} {im : Nat → Option (Ln × Dt)} {ty : Ty} {n : Nat} {tp : Nat → Nat} {fk fp x v : Int32} {Q : Int32 → TMi → TMl → Nat → Prop} (hI : IC mi ml a d hs im ty n tp fk fp) (hx : okX (iPour a d x v).1)
    (hq : ∀ m3, (∀ n, 119 ≤ n → m3 n = mi n) → IC m3 ml a (iPour a d x v).2 (kp (iPour a d x v).1 hs d) im ty n tp fk fp → Q (iPour a d x v).1 m3 ml z) : CI l (h + 6) m_B_rain [.ref 1, .int x, .int v] mi ml z Q := by
  have hA := hI.1
  exact t_B_rain mi ml z _ _ (c_looked hA (fun m1 F1 h54 hA1 => c_pour_17 hA1.1 hA1.2.1 hA1.2.2.1 hA1.2.2.2.1 hA1.2.2.2.2 (fun m2 F2 hc2 hs2 => c_keptIfDone hI ⟨(F1.weak (by simp)).step (F2.weak (by simp)), hc2, hs2, okD_iPour hA.2.1 x v, by rw [F2 54 (by decide)]; exact h54⟩ hx hq)))
theorem c_B_room {l : Launch} {h : Nat} {mi : TMi} {ml : TMl} {z : Nat} {a : Ln} {d : Dt} {hs : List Dt} {im : Nat → Option (Ln × Dt)} {ty : Ty} {n : Nat} {tp : Nat → Nat} {fk fp y v : Int32} {Q : Int32 → TMi → TMl → Nat → Prop} (hI : IC mi ml a d hs im ty n tp fk fp) (hx : okX (iWide a d y v).1)
    (hq : ∀ m3, (∀ n, 119 ≤ n → m3 n = mi n) → IC m3 ml a (iWide a d y v).2 (kp (iWide a d y v).1 hs d) im ty n tp fk fp → Q (iWide a d y v).1 m3 ml z) : CI l (h + 4) m_B_room [.ref 1, .int y, .int v] mi ml z Q := by
  have hA := hI.1
  refine t_B_room mi ml z _ _ (c_looked hA (fun m1 F1 h54 hA1 => c_widen_17 hA1.1 hA1.2.1 hA1.2.2.1 hA1.2.2.2.1 hA1.2.2.2.2 (fun m2 F2 hc2 => c_keptIfDone hI ⟨(F1.weak (by simp)).step (F2.weak (by simp)), hc2, ?_, okD_iWide hA.1 hA.2.1 y v, by rw [F2 54 (by decide)]; exact h54⟩ hx hq)))
  unfold SL_17
  rw [(lk_same (a := a) (iWide_fg a d _ _)).1, (lk_same (a := a) (iWide_fg a d _ _)).2]
  exact hA1.2.2.2.2.fr (F2 _ (by decide)) (F2 _ (by decide)) (F2 _ (by decide)) (F2 _ (by decide)) (F2 _ (by decide))
def kpN (k : Nat) (hs : List Dt) (d : Dt) : List Dt := if k = 0 then hs else (d :: hs).take 10
theorem c_keptIfSome {l : Launch} {h : Nat} {mi m2 : TMi} {ml : TMl} {z : Nat} {a : Ln} {d d' : Dt} {hs : List Dt} {im : Nat → Option (Ln × Dt)} {ty : Ty} {n k : Nat} {tp : Nat → Nat} {fk fp : Int32} {Q : Int32 → TMi → TMl → Nat → Prop} (hk : k < 1000) (hI : IC mi ml a d hs im ty n tp fk fp) (hD : DnC mi m2 a d d')
    (hq : ∀ m3, (∀ n, 119 ≤ n → m3 n = mi n) → IC m3 ml a d' (kpN k hs d) im ty n tp fk fp → Q (nI k) m3 ml z) : CI l (h + 3) m_B_keptIfSome [.ref 1, .int (nI k)] m2 ml z Q := by
  unfold kpN at hq
  have hP2 : PsC m2 hs := hI.2.1.fr (fun k k1 k2 => hD.1 k (by simp; omega))
  refine t_B_keptIfSome m2 ml z _ ?_
  show (nI k ≤ nI 0 → _) ∧ (¬ nI k ≤ nI 0 → _)
  rw [nI_leI (by omega) (by decide)]
  refine ⟨fun c => ?_, fun c => c_keep hP2 hD.2.2.2.2 (fun m3 e hP => ?_)⟩
  · rw [if_pos (by omega)] at hq
    exact hq m2 (fun k hk => hD.1 k (by simp; omega)) (hI.done hD (fun _ _ => rfl) hP2 hI.2.2.1)
  · rw [if_neg (by omega)] at hq
    exact hq m3 (fun k hk => by rw [e k (by omega)]; exact hD.1 k (by simp; omega)) (hI.done hD e hP (kept_okD hI.1.2.1 hI.2.2.1))
def noT (ty : Ty) (x : Int32) : Int32 := if inT x then (if ty.1 x.toInt.toNat = none then -6 else 0) else -2
theorem c_B_perform {l : Launch} {h : Nat} {mi : TMi} {ml : TMl} {z : Nat} {a : Ln} {d : Dt} {hs : List Dt} {im : Nat → Option (Ln × Dt)} {ty : Ty} {n : Nat} {tp : Nat → Nat} {fk fp x : Int32} {Q : Int32 → TMi → TMl → Nat → Prop} (hI : IC mi ml a d hs im ty n tp fk fp)
    (hq0 : ¬ noT ty x = 0 → Q (noT ty x) mi ml z) (hq1 : noT ty x = 0 → ∀ m3, (∀ n, 119 ≤ n → m3 n = mi n) → IC m3 ml a (runD a (ty.2.2 x.toInt.toNat) (ty.2.1 x.toInt.toNat) 0 d).2.2 (kpN (runD a (ty.2.2 x.toInt.toNat) (ty.2.1 x.toInt.toNat) 0 d).1 hs d) im ty n tp fk fp → Q (nI (runD a (ty.2.2 x.toInt.toNat) (ty.2.1 x.toInt.toNat) 0 d).1) m3 ml z) : CI l (h + 8) m_B_perform [.ref 1, .int x] mi ml z Q := by
  have hA := hI.1
  have hT := hI.2.2.2.2.1
  unfold noT at hq0 hq1
  refine t_B_perform mi ml z _ (c_isTray (fun c => ⟨fun _ => ?_, fun q => absurd q (by decide)⟩) (fun c => ⟨fun q => absurd rfl q, fun _ => by rw [if_neg c] at hq0; exact hq0 (by decide)⟩))
  rw [if_pos c] at hq0 hq1
  obtain ⟨ex, ht⟩ := inT_nI c
  generalize x.toInt.toNat = t at ex ht hq1 hq0
  rw [ex]
  obtain ⟨k1, k2, k3, k4, k5⟩ := hT t ht
  have hin : vp_in (nI t) 4 := in_nI ht (by decide)
  rw [cl_nI (show t < 2 ^ 31 by omega), mr78 z ht]
  refine ⟨hin, ⟨by omega, by omega⟩, shT ht, c_missing ht ?_⟩
  rw [k1, oI_m1 (fun n e => by have := k2 n e; omega)]
  refine ⟨fun q => ⟨fun _ => c_looked hA (fun m1 F1 h54 hA1 => ⟨hin, ⟨by rw [mr78 z ht]; omega, by rw [mr78 z ht]; omega⟩, ?_⟩), fun c => absurd rfl c⟩, fun q => ⟨fun c => absurd c (by decide), fun _ => by rw [if_pos q] at hq0; exact hq0 (by decide)⟩⟩
  rw [if_neg q] at hq1
  rw [mr78 z ht]
  refine c_doAll_17 ht (hT.fr (fun n k1 k2 => F1 n (by simp; omega))) hA1.1 hA1.2.1 hA1.2.2.1 hA1.2.2.2.1 hA1.2.2.2.2 (fun m2 F2 hc2 hs2 => ?_)
  have := runD_le (a := a) (vs := ty.2.2 t) (k := ty.2.1 t) (i := 0) (d := d)
  exact c_keptIfSome (by omega) hI ⟨(F1.weak (by simp)).step (F2.weak (by simp)), hc2, hs2, okD_run hA.1 hA.2.1, by rw [F2 54 (by decide)]; exact h54⟩ (hq1 rfl)
/-! a year of draws -/
def nxD (x : Int32) : Int32 := 1103515245 * x + 12345
def drD (x m : Int32) : Int32 := a_rem (a_ushr (nxD x) 16) m
def deedX (x : Int32) : Int32 × Int32 := if drD x 6 = 4 then (200 + 10 * drD (nxD x) 4 + drD (nxD (nxD x)) 6, nxD (nxD (nxD x))) else if drD x 6 = 3 then (100 + drD (nxD x) 6, nxD (nxD x)) else if 3 ≤ drD x 6 then (300 + 10 * drD (nxD x) 6 + drD (nxD (nxD x)) 10, nxD (nxD (nxD x))) else (10 * drD (nxD x) 6 + drD (nxD (nxD x)) 4, nxD (nxD (nxD x)))
theorem c_drawn {l : Launch} {h : Nat} {mi : TMi} {ml : TMl} {z : Nat} {m : Int32} {Q : Int32 → TMi → TMl → Nat → Prop} (hm : ¬ m ≤ 0) (hm0 : ¬ m = 0) (hq : Q (drD (mi 1 18) m) (up mi 1 18 (nxD (mi 1 18))) ml z) : CI l (h + 1) m_B_drawn [.ref 1, .int m] mi ml z Q := by
  refine t_B_drawn mi ml z _ ⟨fun c => absurd c hm, fun _ => ⟨hm0, ?_⟩⟩
  rw [up_at]
  exact hq
theorem up_up (mi : TMi) (n k : Nat) (x y : Int32) : up (up mi n k x) n k y = up mi n k y := by
  funext m j
  rw [up_eq, up_eq, up_eq]
  by_cases q : m = n ∧ j = k
  · rw [if_pos q, if_pos q]
  · rw [if_neg q, if_neg q, if_neg q]
theorem le23 (x : Int32) : ((2 : Int32) < x) ↔ ((3 : Int32) ≤ x) := by
  rw [Int32.lt_iff_toInt_lt, Int32.le_iff_toInt_le, show (2 : Int32).toInt = 2 by decide, show (3 : Int32).toInt = 3 by decide]
  omega
theorem c_drawnDeed {l : Launch} {h : Nat} {mi : TMi} {ml : TMl} {z : Nat} {Q : Int32 → TMi → TMl → Nat → Prop} (hq : Q (deedX (mi 1 18)).1 (up mi 1 18 (deedX (mi 1 18)).2) ml z) : CI l (h + 2) m_B_drawnDeed [.ref 1] mi ml z Q := by
  unfold deedX at hq
  refine t_B_drawnDeed mi ml z (c_drawn (by decide) (by decide) ?_)
  rw [le23]
  refine ⟨fun c => ⟨fun c2 => ⟨fun c3 => c_drawn (by decide) (by decide) (c_drawn (by decide) (by decide) ?_), fun c3 => c_drawn (by decide) (by decide) (c_drawn (by decide) (by decide) ?_)⟩, fun c2 => c_drawn (by decide) (by decide) ?_⟩, fun c => c_drawn (by decide) (by decide) (c_drawn (by decide) (by decide) ?_)⟩
  · rw [if_neg c3, if_neg c2, if_pos c] at hq
    simp only [up_at, up_up]
    exact hq
  · rw [if_pos c3] at hq
    simp only [up_at, up_up]
    exact hq
  · rw [if_neg (by rw [c2]; decide), if_pos c2] at hq
    simp only [up_at, up_up]
    exact hq
  · rw [if_neg (fun k => c (by rw [k]; decide)), if_neg (fun k => c (by rw [k]; decide)), if_neg c] at hq
    simp only [up_at, up_up]
    exact hq
def yrS (a : Ln) (s : Int32 × Nat × Dt) : Int32 × Nat × Dt := ((deedX s.1).2, (if whyC (iDeed a s.2.2 (deedX s.1).1.toInt64).1 = 0 then s.2.1 + 1 else s.2.1), (iDeed a s.2.2 (deedX s.1).1.toInt64).2)
def yrN (a : Ln) (s : Int32 × Nat × Dt) : Nat → Int32 × Nat × Dt
  | 0 => s
  | k + 1 => yrS a (yrN a s k)
theorem yrN_le {a : Ln} {x : Int32} {d : Dt} : ∀ {k : Nat}, (yrN a (x, 0, d) k).2.1 ≤ k
  | 0 => Nat.le_refl _
  | k + 1 => by
    have := yrN_le (a := a) (x := x) (d := d) (k := k)
    simp only [yrN, yrS]
    split <;> omega
theorem yrN_ok {a : Ln} {x : Int32} {d : Dt} (ha : okLn a) (hd : okD a d) : ∀ {k : Nat}, okD a (yrN a (x, 0, d) k).2.2
  | 0 => hd
  | k + 1 => okD_deed ha (yrN_ok ha hd) _
theorem c_B_year {l : Launch} {h : Nat} {mi : TMi} {ml : TMl} {z : Nat} {a : Ln} {d : Dt} {hs : List Dt} {im : Nat → Option (Ln × Dt)} {ty : Ty} {n : Nat} {tp : Nat → Nat} {fk fp x v : Int32} {Q : Int32 → TMi → TMl → Nat → Prop} (hI : IC mi ml a d hs im ty n tp fk fp)
    (hq0 : ¬ (1 ≤ v.toInt ∧ v.toInt ≤ 40) → Q (-3) mi ml z) (hq1 : 1 ≤ v.toInt ∧ v.toInt ≤ 40 → ∀ m3, (∀ n, 119 ≤ n → m3 n = mi n) → IC m3 ml a (yrN a (x, 0, d) v.toInt.toNat).2.2 (kpN (yrN a (x, 0, d) v.toInt.toNat).2.1 hs d) im ty n tp fk fp → Q (nI (yrN a (x, 0, d) v.toInt.toNat).2.1) m3 ml z) : CI l (h + 7) m_B_year [.ref 1, .int x, .int v] mi ml z Q := by
  have hA := hI.1
  refine t_B_year mi ml z _ _ ?_
  rw [Int32.lt_iff_toInt_lt, Int32.le_iff_toInt_le, show (1 : Int32).toInt = 1 by decide, show (40 : Int32).toInt = 40 by decide]
  refine ⟨fun c => hq0 (by omega), fun c => ⟨fun c2 => c_looked hA (fun m1 F1 h54 hA1 => ?_), fun c2 => hq0 (by omega)⟩⟩
  have hq1 := hq1 ⟨by omega, c2⟩
  have ev := nI_toNat (x := v) (by omega)
  have h40 : v.toInt.toNat ≤ 40 := by omega
  generalize v.toInt.toNat = k at ev h40 hq1
  rw [ev]
  -- the drawing cell lies in the object itself: carry it beside
  have hI1 : IC (up mi 1 18 0) ml a d hs im ty n tp fk fp := by
    obtain ⟨h1, h2, h3, h4, h5, h6, h7, h8, h9⟩ := hI
    exact ⟨h1.fr (fun q q1 q2 => up_ne _ _ _ (by omega)), h2.fr (fun q q1 q2 => up_ne _ _ _ (by omega)), h3, h4.fr (fun q hq => up_ne _ _ _ (by omega)), h5.fr (fun q q1 q2 => up_ne _ _ _ (by omega)), ⟨by rw [up_nk _ _ _ (by decide)]; exact h6.1, h6.2.1, fun j hj => by rw [up_ne _ _ _ (by decide)]; exact h6.2.2 j hj⟩, by rw [up_nk _ _ _ (by decide)]; exact h7, by rw [up_nk _ _ _ (by decide)]; exact h8, by rw [up_ne _ _ _ (by decide)]; exact h9⟩
  have IC18 : ∀ m w, IC (up m 1 18 0) ml a d hs im ty n tp fk fp → IC (up m 1 18 w) ml a d hs im ty n tp fk fp := fun m w hJ => by
    obtain ⟨h1, h2, h3, h4, h5, h6, h7, h8, h9⟩ := hJ
    have e : ∀ q, q ≠ 1 → (up m 1 18 w) q = (up m 1 18 0) q := fun q hq => by rw [up_ne _ _ _ hq, up_ne _ _ _ hq]
    have e1 : ∀ j, j ≠ 18 → (up m 1 18 w) 1 j = (up m 1 18 0) 1 j := fun j hj => by rw [up_nk _ _ _ hj, up_nk _ _ _ hj]
    exact ⟨h1.fr (fun q q1 q2 => e q (by omega)), h2.fr (fun q q1 q2 => e q (by omega)), h3, h4.fr (fun q hq => e q (by omega)), h5.fr (fun q q1 q2 => e q (by omega)), ⟨by rw [e1 1 (by decide)]; exact h6.1, h6.2.1, fun j hj => by rw [e 2 (by decide)]; exact h6.2.2 j hj⟩, by rw [e1 5 (by decide)]; exact h7, by rw [e1 6 (by decide)]; exact h8, by rw [e 11 (by decide)]; exact h9⟩
  have FU : ∀ (m : TMi) (w : Int32), Fr [15, 16, 27, 28, 29, 30, 31, 32, 54] mi m → Fr [15, 16, 27, 28, 29, 30, 31, 32, 54] (up mi 1 18 w) (up m 1 18 w) := fun m w F q hq' => by
    by_cases e : q = 1
    · subst e; rw [up_self, up_self, F 1 (by decide)]
    · rw [up_ne _ _ _ e, up_ne _ _ _ e]; exact F q hq'
  refine loop (P := fun i => ∀ m, Fr [15, 16, 27, 28, 29, 30, 31, 32, 54] mi m → Cs (m 27) (yrN a (x, 0, d) i).2.2 → SL_17 m a (yrN a (x, 0, d) i).2.2 → Cs (m 54) d → Ev l (h + 7) m_B_year 38 ([.ref 1, .retAddr 0, .int (nI k), .int (nI (yrN a (x, 0, d) i).2.1), .int (nI i)], [], st (up m 1 18 (yrN a (x, 0, d) i).1) ml z) (qI Q)) k (fun m F hc hs' h5 => ?_) (fun i hi ih m F hc hs' h5 => ?_) m1 (F1.weak (by simp)) hA1.2.2.2.1 hA1.2.2.2.2 h54
  · refine t_B_year_38 _ ml z _ _ _ ⟨fun _ => ?_, fun c => absurd (le_at (N := k) rfl (by omega)) c⟩
    have hle := yrN_le (a := a) (x := x) (d := d) (k := k)
    refine c_keptIfSome (mi := up mi 1 18 (yrN a (x, 0, d) k).1) (by omega) (IC18 mi _ hI1) ⟨FU m _ F, by rw [up_ne _ _ _ (by decide)]; exact hc, hs'.fr (up_ne _ _ _ (by decide)) (up_ne _ _ _ (by decide)) (up_ne _ _ _ (by decide)) (up_ne _ _ _ (by decide)) (up_ne _ _ _ (by decide)), yrN_ok hA.1 hA.2.1, by rw [up_ne _ _ _ (by decide)]; exact h5⟩ (fun m3 e3 hI3 => hq1 m3 (fun q hq' => by rw [e3 q hq', up_ne _ _ _ (by omega)]) hI3)
  · refine t_B_year_38 _ ml z _ _ _ ⟨fun c => absurd c (ge_no (N := k) rfl (by omega) hi), fun _ => c_drawnDeed ?_⟩
    rw [up_at, up_up]
    have okd := yrN_ok (x := x) hA.1 hA.2.1 (k := i)
    have hl : LnC (up m 1 18 (deedX (yrN a (x, 0, d) i).1).2) 18 a := hA.2.2.1.fr (fun q hq' => by rw [up_ne _ _ _ (by omega)]; exact F _ (by simp; omega))
    refine c_whyNot_17 hA.1 okd hl (by rw [up_ne _ _ _ (by decide)]; exact hc) (hs'.fr (up_ne _ _ _ (by decide)) (up_ne _ _ _ (by decide)) (up_ne _ _ _ (by decide)) (up_ne _ _ _ (by decide)) (up_ne _ _ _ (by decide))) (fun m4 F4 hc4 hs4 => ?_)
    -- the memory after it: the same but for the drawing cell
    have hm4 : m4 = up (up m4 1 18 (m 1 18)) 1 18 (deedX (yrN a (x, 0, d) i).1).2 := by
      rw [up_up]
      funext q j
      rw [up_eq]
      by_cases e : q = 1 ∧ j = 18
      · rw [if_pos e, e.1, e.2, F4 1 (by decide), up_at]
      · rw [if_neg e]
    have F5 : Fr [15, 16, 27, 28, 29, 30, 31, 32, 54] mi (up m4 1 18 (m 1 18)) := fun q hq' => by
      by_cases e : q = 1
      · subst e
        funext j
        rw [up_eq]
        by_cases ej : j = 18
        · rw [if_pos ⟨rfl, ej⟩, ej, F 1 (by decide)]
        · rw [if_neg (fun k => ej k.2), F4 1 (by decide), up_nk _ _ _ ej, F 1 (by decide)]
      · rw [up_ne _ _ _ e, F4 q (by simp at hq' ⊢; omega), up_ne _ _ _ e]; exact F q hq'
    have ih := ih (up m4 1 18 (m 1 18)) F5 (by rw [up_ne _ _ _ (by decide)]; exact hc4) (hs4.fr (up_ne _ _ _ (by decide)) (up_ne _ _ _ (by decide)) (up_ne _ _ _ (by decide)) (up_ne _ _ _ (by decide)) (up_ne _ _ _ (by decide))) (by rw [up_ne _ _ _ (by decide), F4 54 (by decide), up_ne _ _ _ (by decide)]; exact h5)
    rw [show (yrN a (x, 0, d) (i + 1)).1 = (deedX (yrN a (x, 0, d) i).1).2 from rfl, ← hm4] at ih
    simp only [yrN, yrS] at ih
    rw [nI_1, nI_1]
    refine ⟨fun c => ?_, fun c => ?_⟩
    · rw [if_neg c] at ih; exact ih
    · rw [if_pos c] at ih; exact ih
