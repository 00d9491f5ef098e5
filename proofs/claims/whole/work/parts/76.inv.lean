/-! ===== what is true between calls; turnOff, count, fault ===== -/
def ImC (mi : TMi) (im : Nat → Option (Ln × Dt)) : Prop := ∀ i, i < 2 → mi 41 i = bI (im i).isSome ∧ okC (mi (88 + 16 * i)) ∧ ∀ a d, im i = some (a, d) → okLn a ∧ okD a d ∧ LnC mi (80 + 16 * i) a ∧ Cs (mi (89 + 16 * i)) d ∧ SLp mi (90 + 16 * i) (91 + 16 * i) (92 + 16 * i) (93 + 16 * i) (94 + 16 * i) (nB a) (nR a) allP (lkD a d) (tkD a d)
def ImR (mi : TMi) (im : Nat → Option (Ln × Dt)) : Prop := ∀ i, i < 2 → mi 121 i = bI (im i).isSome ∧ ∀ a d, im i = some (a, d) → bdLn a ∧ LnR (fun k => mi 120 (1371 * (i + 1) + k)) a ∧ Cr (fun k => mi 120 (1371 * (i + 1) + (29 + k))) d
/-- a byte as the class keeps it -/
def sby (x : Nat) : Int32 := if x < 128 then nI x else nI x - 256
def TpC (mi : TMi) (n : Nat) (tp : Nat → Nat) : Prop := mi 1 1 = nI n ∧ n ≤ 900 ∧ ∀ j, j < n → mi 2 j = sby (tp j) ∧ tp j < 256
def TpR (mi : TMi) (n : Nat) (tp : Nat → Nat) : Prop := mi 119 5 = nI n ∧ ∀ j, j < n → mi 122 j = nI (tp j)
/-- the draft's code between calls: anything -/
def any11 (g : Nat → Int32) : Prop := g = g
def IC (mi : TMi) (ml : TMl) (a : Ln) (d : Dt) (hs : List Dt) (im : Nat → Option (Ln × Dt)) (ty : Ty) (n : Nat) (tp : Nat → Nat) (fk fp : Int32) : Prop := CA mi a d ∧ PsC mi hs ∧ (∀ d', d' ∈ hs → okD a d') ∧ ImC mi im ∧ TrC mi ml ty ∧ TpC mi n tp ∧ mi 1 5 = fk ∧ mi 1 6 = fp ∧ any11 (mi 11)
def IR (mi : TMi) (ml : TMl) (a : Ln) (d : Dt) (hs : List Dt) (im : Nat → Option (Ln × Dt)) (ty : Ty) (n : Nat) (tp : Nat → Nat) (fk fp : Int32) : Prop := RA mi a d ∧ PsR (mi 120) hs ∧ ImR mi im ∧ TrR mi ml ty ∧ TpR mi n tp ∧ mi 119 13 = fk ∧ mi 119 14 = fp
theorem ImC.fr {mi mi' : TMi} {im : Nat → Option (Ln × Dt)} (h : ImC mi im) (e : ∀ n, n = 41 ∨ (79 ≤ n ∧ n < 111) → mi' n = mi n) : ImC mi' im := fun i hi => by
  obtain ⟨h1, h2, h3⟩ := h i hi
  refine ⟨by rw [e 41 (by omega)]; exact h1, by rw [e _ (by omega)]; exact h2, fun a d k => ?_⟩
  obtain ⟨k1, k2, k3, k4, k5⟩ := h3 a d k
  exact ⟨k1, k2, k3.fr (fun j hj => e _ (by omega)), by rw [e _ (by omega)]; exact k4, k5.fr (e _ (by omega)) (e _ (by omega)) (e _ (by omega)) (e _ (by omega)) (e _ (by omega))⟩
theorem IC.fr {mi mi' : TMi} {ml : TMl} {a : Ln} {d : Dt} {hs : List Dt} {im : Nat → Option (Ln × Dt)} {ty : Ty} {n : Nat} {tp : Nat → Nat} {fk fp : Int32} (h : IC mi ml a d hs im ty n tp fk fp) (F : ∀ n, n ∉ SC → n < 119 → mi' n = mi n) : IC mi' ml a d hs im ty n tp fk fp := by
  obtain ⟨h1, h2, h3, h4, h5, h6, h7, h8, h9⟩ := h
  refine ⟨h1.fr (fun k k1 k2 => F k (by simp; omega) (by omega)), h2.fr (fun k k1 k2 => F k (by simp; omega) (by omega)), h3, h4.fr (fun k hk => F k (by simp; omega) (by omega)), h5.fr (fun k k1 k2 => F k (by simp; omega) (by omega)), ⟨by rw [F 1 (by decide) (by decide)]; exact h6.1, h6.2.1, fun j hj => by rw [F 2 (by decide) (by decide)]; exact h6.2.2 j hj⟩, by rw [F 1 (by decide) (by decide)]; exact h7, by rw [F 1 (by decide) (by decide)]; exact h8, by rw [F 11 (by decide) (by decide)]; exact h9⟩
theorem IC.sc {mi mi' : TMi} {ml : TMl} {a : Ln} {d : Dt} {hs : List Dt} {im : Nat → Option (Ln × Dt)} {ty : Ty} {n : Nat} {tp : Nat → Nat} {fk fp : Int32} (h : IC mi ml a d hs im ty n tp fk fp) (F : Fr SC mi mi') : IC mi' ml a d hs im ty n tp fk fp := h.fr (fun n hn _ => F n hn)
/-- what the reference's calls that ask leave as it was -/
def FX (mi mi' : TMi) (d : Dt) : Prop := ((∀ n, n = 121 ∨ n = 122 ∨ n = 134 ∨ n = 135 → mi' n = mi n) ∧ mi' 119 5 = mi 119 5 ∧ mi' 119 13 = mi 119 13 ∧ mi' 119 14 = mi 119 14) ∧ F120 mi mi' ∧ CrA mi' d
theorem FQ.x {mi mi' : TMi} {a : Ln} {d : Dt} (h : FQ mi mi') (hA : RA mi a d) : FX mi mi' d := ⟨⟨fun n hn => h.1 n (by omega), h.2⟩, F120.of (h.1 120 (by omega)), hA.2.2.2.2.fr (h.1 120 (by omega))⟩
theorem IR.fr {mi mi' : TMi} {ml : TMl} {a : Ln} {d : Dt} {hs : List Dt} {im : Nat → Option (Ln × Dt)} {ty : Ty} {n : Nat} {tp : Nat → Nat} {fk fp : Int32} (h : IR mi ml a d hs im ty n tp fk fp) (F : FX mi mi' d) : IR mi' ml a d hs im ty n tp fk fp := by
  obtain ⟨h1, h2, h3, h4, h5, h6, h7⟩ := h
  obtain ⟨⟨f1, f2, f3, f4⟩, f5, f6⟩ := F
  refine ⟨⟨h1.1, h1.2.1, h1.2.2.1, h1.2.2.2.1.fr h1.1 (fun k hk => f5 k (by omega)), f6⟩, ⟨by rw [f5 69 (by omega)]; exact h2.1, fun j d' hj => (h2.2 j d' hj).ext (fun k hk => f5 _ (by omega))⟩, fun i hi => ?_, h4.fr (f1 134 (by omega)) (f1 135 (by omega)), ⟨by rw [f2]; exact h5.1, fun j hj => by rw [f1 122 (by omega)]; exact h5.2 j hj⟩, by rw [f3]; exact h6, by rw [f4]; exact h7⟩
  obtain ⟨k1, k2⟩ := h3 i hi
  refine ⟨by rw [f1 121 (by omega)]; exact k1, fun a' d' e => ?_⟩
  obtain ⟨g1, g2, g3⟩ := k2 a' d' e
  have e1 : (fun k => mi' 120 (1371 * (i + 1) + k)) = (fun k => mi 120 (1371 * (i + 1) + k)) := funext (fun k => f5 _ (by omega))
  have e2 : (fun k => mi' 120 (1371 * (i + 1) + (29 + k))) = (fun k => mi 120 (1371 * (i + 1) + (29 + k))) := funext (fun k => f5 _ (by omega))
  rw [e1, e2]
  exact ⟨g1, g2, g3⟩
theorem IC.lo {mi mi' : TMi} {ml : TMl} {a : Ln} {d : Dt} {hs : List Dt} {im : Nat → Option (Ln × Dt)} {ty : Ty} {n : Nat} {tp : Nat → Nat} {fk fp : Int32} (h : IC mi ml a d hs im ty n tp fk fp) (F : ∀ n, n < 119 → mi' n = mi n) : IC mi' ml a d hs im ty n tp fk fp := h.fr (fun n _ hn => F n hn)
theorem IR.hi {mi mi' : TMi} {ml : TMl} {a : Ln} {d : Dt} {hs : List Dt} {im : Nat → Option (Ln × Dt)} {ty : Ty} {n : Nat} {tp : Nat → Nat} {fk fp : Int32} (h : IR mi ml a d hs im ty n tp fk fp) (F : ∀ n, 119 ≤ n → mi' n = mi n) : IR mi' ml a d hs im ty n tp fk fp :=
  h.fr ⟨⟨fun k hk => F k (by omega), by rw [F 119 (by omega)], by rw [F 119 (by omega)], by rw [F 119 (by omega)]⟩, F120.of (F 120 (by omega)), h.1.2.2.2.2.fr (F 120 (by omega))⟩
/-- a call of both: the class answers x and leaves IC, the reference answers the same -/
theorem FX.w {mi mi' : TMi} {d : Dt} (F : FRw mi mi') (k : F120 mi mi') (c : CrA mi' d) : FX mi mi' d := ⟨⟨fun n hn => F.1 n (by omega), F.2⟩, k, c⟩
