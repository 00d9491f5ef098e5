/-! ===== write, lists of both ===== -/
def ptT (ty : Ty) (t i : Nat) (v : Int64) : Ty := (ty.1, ty.2.1, fun u j => if u = t ∧ j = i then v else ty.2.2 u j)
theorem TrC.pt {mi : TMi} {ml : TMl} {ty : Ty} {t i : Nat} {v : Int64} (h : TrC mi ml ty) : TrC mi (upL ml (112 + 2 * t) i v) (ptT ty t i v) := fun u hu => by
  obtain ⟨h1, h2, h3, h4, h5⟩ := h u hu
  refine ⟨h1, h2, h3, h4, fun j hj => ?_⟩
  show _ = if u = t ∧ j = i then v else ty.2.2 u j
  by_cases q : u = t
  · subst q
    by_cases e : j = i
    · rw [e, upL_at, if_pos ⟨rfl, rfl⟩]
    · rw [upL_nk _ _ _ e, if_neg (fun k => e k.2)]; exact h5 j hj
  · rw [upL_ne _ _ _ (by omega), if_neg (fun k => q k.1)]; exact h5 j hj
theorem TrR.pt {mi : TMi} {ml : TMl} {ty : Ty} {t i : Nat} {v : Int64} (h : TrR mi ml ty) (hN : ∀ t, t < 4 → ty.2.1 t ≤ 40) (hi : i < 40) : TrR mi (upL ml 136 (40 * t + i) v) (ptT ty t i v) := fun u hu => by
  obtain ⟨h1, h2, h3⟩ := h u hu
  have := hN u hu
  refine ⟨h1, h2, fun j hj => ?_⟩
  have hj : j < ty.2.1 u := hj
  show _ = if u = t ∧ j = i then v else ty.2.2 u j
  by_cases q : u = t ∧ j = i
  · rw [q.1, q.2, upL_at, if_pos ⟨rfl, rfl⟩]
  · rw [upL_nk _ _ _ (by omega), if_neg q]; exact h3 j hj
theorem c_B_write {l : Launch} {h : Nat} {mi : TMi} {ml : TMl} {z : Nat} {a : Ln} {d : Dt} {hs : List Dt} {im : Nat → Option (Ln × Dt)} {ty : Ty} {n : Nat} {tp : Nat → Nat} {fk fp x y : Int32} {v : Int64} {Q : Int64 → TMi → TMl → Nat → Prop} (hI : IC mi ml a d hs im ty n tp fk fp)
    (hq0 : ¬ noT ty x = 0 → Q (noT ty x).toInt64 mi ml z) (hq1 : noT ty x = 0 → ¬ (0 ≤ y.toInt ∧ y.toInt < ty.2.1 x.toInt.toNat) → Q (-7) mi ml z)
    (hq2 : noT ty x = 0 → 0 ≤ y.toInt ∧ y.toInt < ty.2.1 x.toInt.toNat → ∀ l3, (∀ n, 119 ≤ n → l3 n = ml n) → IC mi l3 a d hs im (ptT ty x.toInt.toNat y.toInt.toNat (cutV (oI (ty.1 x.toInt.toNat)) v)) n tp fk fp → Q (cutV (oI (ty.1 x.toInt.toNat)) v) mi l3 z) : CLg l (h + 3) m_B_write [.ref 1, .int x, .int y, .long v] mi ml z Q := by
  have hT := hI.2.2.2.2.1
  unfold noT at hq0 hq1 hq2
  refine t_B_write mi ml z _ _ _ (c_isTray (fun c => ⟨fun _ => ?_, fun q => absurd q (by decide)⟩) (fun c => ⟨fun q => absurd rfl q, fun _ => by rw [if_neg c] at hq0; exact hq0 (by decide)⟩))
  rw [if_pos c] at hq0 hq1 hq2
  obtain ⟨ex, ht⟩ := inT_nI c
  generalize x.toInt.toNat = t at ex ht hq1 hq0 hq2
  rw [ex]
  obtain ⟨k1, k2, k3, k4, k5⟩ := hT t ht
  have hin : vp_in (nI t) 4 := in_nI ht (by decide)
  have hcl : (nI t).toNatClampNeg = t := cl_nI (show t < 2 ^ 31 by omega)
  simp only [hcl]
  rw [mr78 z ht]
  refine ⟨hin, ⟨by omega, by omega⟩, shT ht, c_missing ht ?_⟩
  rw [k1, oI_m1 (fun n e => by have := k2 n e; omega), mr78 z ht]
  refine ⟨fun q => ⟨fun _ => ⟨hin, ⟨by omega, by omega⟩, shT ht, ?_⟩, fun c => absurd rfl c⟩, fun q => ⟨fun c => absurd c (by decide), fun _ => by rw [if_pos q] at hq0; exact hq0 (by decide)⟩⟩
  rw [if_neg q] at hq1 hq2
  refine c_hasPlace ht k3 k4 (fun c2 => ⟨fun q => absurd q (by decide), fun _ => ?_⟩) (fun c2 => ⟨fun _ => hq1 rfl c2, fun q => absurd rfl q⟩)
  rw [mr78 z ht]
  refine ⟨hin, ⟨by omega, by omega⟩, shT ht, ?_⟩
  have hq2 := hq2 rfl c2
  have ey := nI_toNat (x := y) c2.1
  have hi : y.toInt.toNat < ty.2.1 t := by omega
  generalize y.toInt.toNat = i at ey hi hq2
  rw [ey]
  exact c_Tr_put ht k1 k3 k4 hi (hq2 _ (fun u hu => upL_ne _ _ _ (by omega)) (hI.tr (fun _ _ _ => rfl) hT.pt))
theorem c_R_cut {l : Launch} {h : Nat} {mi : TMi} {ml : TMl} {z : Nat} {s : Int32} {v : Int64} {Q : Int64 → TMi → TMl → Nat → Prop} (hq : Q (cutV s v) mi ml z) : CLg l (h + 1) m_R_cut [.long v, .int s] mi ml z Q := by
  unfold cutV at hq
  refine t_R_cut mi ml z _ _ ⟨fun c0 => ⟨fun c1 => ⟨fun c2 => ?_, fun c2 => ?_⟩, fun c1 => ?_⟩, fun c0 => ?_⟩
  · rw [if_neg c0, if_neg c1, if_neg c2] at hq; exact hq
  · rw [if_neg c0, if_neg c1, if_pos c2] at hq; exact hq
  · rw [if_neg c0, if_pos c1] at hq; exact hq
  · rw [if_pos c0] at hq; exact hq
theorem c_R_write {l : Launch} {h : Nat} {mi : TMi} {ml : TMl} {z : Nat} {a : Ln} {d : Dt} {hs : List Dt} {im : Nat → Option (Ln × Dt)} {ty : Ty} {n : Nat} {tp : Nat → Nat} {fk fp x y : Int32} {v : Int64} {Q : Int64 → TMi → TMl → Nat → Prop} (hI : IR mi ml a d hs im ty n tp fk fp) (hS : ∀ t, t < 4 → ∀ s, ty.1 t = some s → s < 4) (hN : ∀ t, t < 4 → ty.2.1 t ≤ 40)
    (hq0 : ¬ noT ty x = 0 → ∀ m3, (∀ n, n < 119 → m3 n = mi n) → IR m3 ml a d hs im ty n tp fk fp → Q (noT ty x).toInt64 m3 ml z) (hq1 : noT ty x = 0 → ¬ (0 ≤ y.toInt ∧ y.toInt < ty.2.1 x.toInt.toNat) → ∀ m3, (∀ n, n < 119 → m3 n = mi n) → IR m3 ml a d hs im ty n tp fk fp → Q (-7) m3 ml z)
    (hq2 : noT ty x = 0 → 0 ≤ y.toInt ∧ y.toInt < ty.2.1 x.toInt.toNat → ∀ m3 l3, (∀ n, n < 119 → m3 n = mi n ∧ l3 n = ml n) → IR m3 l3 a d hs im (ptT ty x.toInt.toNat y.toInt.toNat (cutV (oI (ty.1 x.toInt.toNat)) v)) n tp fk fp → Q (cutV (oI (ty.1 x.toInt.toNat)) v) m3 l3 z) : CLg l (h + 3) m_R_write [.ref 119, .int x, .int y, .long v] mi ml z Q := by
  have F0 : FQ mi (up mi 119 0 0) := FQ.u119 _ _ (by decide)
  have hI0 := hI.fr (F0.x hI.1)
  have G0 : ∀ q, q < 119 → (up mi 119 0 0) q = mi q := fun q hq => F0.1 q (by omega)
  have hT0 := hI0.2.2.2.1
  refine t_R_write mi ml z _ _ _ (c_R_noTray hT0 hS ?_)
  show (noT ty x = 0 → _) ∧ (¬ noT ty x = 0 → _)
  refine ⟨fun c => ?_, fun c => hq0 c _ G0 hI0⟩
  have hq1 := fun k => hq1 c k _ G0 hI0
  have hq2 := hq2 c
  have hx : inT x := by
    by_cases q : inT x
    · exact q
    · unfold noT at c; rw [if_neg q] at c; exact absurd c (by decide)
  obtain ⟨ex, ht⟩ := inT_nI hx
  generalize x.toInt.toNat = t at ex ht hq1 hq2
  obtain ⟨k1, k2, k3⟩ := hT0 t ht
  have h40 := hN t ht
  have hin : vp_in (nI t) 4 := in_nI ht (by decide)
  rw [ex, cl_nI (show t < 2 ^ 31 by omega)]
  refine ⟨hin, c_R_within ?_⟩
  rw [k2, t64, t64, show (0 : Int64).toInt = 0 by decide, sub1_40 _ (by omega), bI_0]
  refine ⟨fun c2 => ⟨hin, c_R_cut ?_⟩, fun c2 => ?_⟩
  · rw [Bool.not_eq_false, decide_eq_true_eq] at c2
    have hq2 := hq2 (by omega)
    have ey := nI_toNat (x := y) c2.1
    have hi : y.toInt.toNat < ty.2.1 t := by omega
    generalize y.toInt.toNat = i at ey hi hq2
    rw [ey, (ix40 t ht i (by omega)).1, upL_at, k1]
    exact ⟨(ix40 t ht i (by omega)).2, (ix40 t ht i (by omega)).2, hq2 _ _ (fun u hu => ⟨G0 u hu, upL_ne _ _ _ (by omega)⟩) (hI0.tr (fun _ _ => rfl) (hT0.pt hN (by omega)))⟩
  · rw [decide_eq_false_iff_not] at c2
    exact hq1 (fun k => c2 (by omega))
