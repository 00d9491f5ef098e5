/-! ===== what a land is, what a scene is: data of both sides ===== -/
abbrev Dt : Type := (Nat → Option Nat) × (Nat → Nat) × (Nat → Nat) × (Nat → Nat → Nat)
def dW (d : Dt) : Nat → Option Nat := d.1
def dF (d : Dt) : Nat → Nat := d.2.1
def dR (d : Dt) : Nat → Nat := d.2.2.1
def dG (d : Dt) : Nat → Nat → Nat := d.2.2.2
abbrev Ln : Type := Nat × Nat × Nat × (Nat → Nat) × (Nat → Nat) × (Nat → Nat) × (Nat → Nat) × ((Nat → Int32) → Int32) × ((Nat → Int32) → Int32)
def nB (a : Ln) : Nat := a.1
def nR (a : Ln) : Nat := a.2.1
def nN (a : Ln) : Nat := a.2.2.1
def nM (a : Ln) : Nat → Nat := a.2.2.2.1
def nD (a : Ln) : Nat → Nat := a.2.2.2.2.1
def nNm (a : Ln) : Nat → Nat := a.2.2.2.2.2.1
def nBs (a : Ln) : Nat → Nat := a.2.2.2.2.2.2.1
def nL (a : Ln) : (Nat → Int32) → Int32 := a.2.2.2.2.2.2.2.1
def nT (a : Ln) : (Nat → Int32) → Int32 := a.2.2.2.2.2.2.2.2
def W0 (a : Ln) (d : Dt) (b r : Nat) : Nat → Int32 := wds b (nI (dF d b)) (nI (nM a b)) r (nI (nNm a r)) (nI (dG d b r))
def lkD (a : Ln) (d : Dt) (b r : Nat) : Int := (nL a (W0 a d b r)).toInt
def tkD (a : Ln) (d : Dt) (b r : Nat) : Int := (nT a (W0 a d b r)).toInt
def okLn (a : Ln) : Prop := nB a ≤ 6 ∧ nR a ≤ 4 ∧ (∀ b, b < nB a → nM a b ≤ 9 ∧ nD a b ≤ 10) ∧ ∀ r, r < nR a → nNm a r ≤ 9 ∧ nBs a r ≤ 99
def okD (a : Ln) (d : Dt) : Prop := (∀ b r, dW d b = some r → b < nB a ∧ r < nR a) ∧ (∀ b, dF d b ≤ 9 ∧ (nB a ≤ b → dF d b = 0)) ∧ (∀ r, dR d r ≤ 6 ∧ (nR a ≤ r → dR d r = 0)) ∧ (∀ b r, dG d b r ≤ 9) ∧ ∀ r, r < nR a → cnt (inn (dW d) r) (nB a) ≤ dR d r
theorem okW_wds {b r : Nat} {f m n g : Nat} (hb : b < 6) (hf : f ≤ 9) (hm : m ≤ 9) (hr : r < 4) (hn : n ≤ 9) (hg : g ≤ 9) : okW (wds b (nI f) (nI m) r (nI n) (nI g)) := by
  intro k hk
  match k, hk with
  | 0, _ => simp only [wds]; rw [nI_toInt (by omega)]; omega
  | 1, _ => simp only [wds]; rw [nI_toInt (by omega)]; omega
  | 2, _ => simp only [wds]; rw [nI_toInt (by omega)]; omega
  | 3, _ => simp only [wds]; rw [nI_toInt (by omega)]; omega
  | 4, _ => simp only [wds]; rw [nI_toInt (by omega)]; omega
  | 5, _ => simp only [wds]; rw [nI_toInt (by omega)]; omega
theorem okW0 {a : Ln} {d : Dt} (ha : okLn a) (hd : okD a d) {b r : Nat} (hb : b < nB a) (hr : r < nR a) : okW (W0 a d b r) := okW_wds (Nat.lt_of_lt_of_le hb ha.1) (hd.2.1 b).1 (ha.2.2.1 b hb).1 (Nat.lt_of_lt_of_le hr ha.2.1) (ha.2.2.2 r hr).1 (hd.2.2.2.1 b r)
/-- cells as the class lays them, as the reference lays them -/
def Cs (g : Nat → Int32) (d : Dt) : Prop := (∀ b, b < 6 → g b = oI (dW d b)) ∧ (∀ b, b < 6 → g (6 + b) = nI (dF d b)) ∧ (∀ r, r < 4 → g (12 + r) = nI (dR d r)) ∧ ∀ b r, b < 6 → r < 4 → g (16 + (4 * b + r)) = nI (dG d b r)
def Cr (g : Nat → Int32) (d : Dt) : Prop := (∀ b, b < 6 → g b = oI (dW d b)) ∧ (∀ b, b < 6 → g (6 + b) = nI (dF d b)) ∧ (∀ r, r < 4 → g (12 + r) = nI (dR d r)) ∧ ∀ b r, b < 6 → r < 4 → g (16 + (6 * r + b)) = nI (dG d b r)
def setW (d : Dt) (b : Nat) (x : Option Nat) : Dt := (fun i => if i = b then x else d.1 i, d.2)
def setF (d : Dt) (b x : Nat) : Dt := (d.1, fun i => if i = b then x else d.2.1 i, d.2.2)
def setR (d : Dt) (r x : Nat) : Dt := (d.1, d.2.1, fun i => if i = r then x else d.2.2.1 i, d.2.2.2)
def setG (d : Dt) (b r x : Nat) : Dt := (d.1, d.2.1, d.2.2.1, fun i j => if i = b ∧ j = r then x else d.2.2.2 i j)
theorem up_self (mi : TMi) (n k : Nat) (x : Int32) : up mi n k x n = upd (mi n) k x := by simp [up]
theorem upd_at (g : Nat → Int32) (k : Nat) (x : Int32) : upd g k x k = x := by simp [upd]
theorem upd_ne (g : Nat → Int32) {k j : Nat} (x : Int32) (h : j ≠ k) : upd g k x j = g j := by simp [upd, h]
theorem Cs.sW {g : Nat → Int32} {d : Dt} (h : Cs g d) {b : Nat} (hb : b < 6) (x : Option Nat) : Cs (upd g b (oI x)) (setW d b x) := by
  refine ⟨fun i hi => ?_, fun i hi => ?_, fun i hi => ?_, fun i j hi hj => ?_⟩
  · by_cases e : i = b
    · subst e; rw [upd_at]; simp [setW, dW]
    · rw [upd_ne _ _ e, h.1 i hi]; simp [setW, dW, e]
  · rw [upd_ne _ _ (by omega)]; exact h.2.1 i hi
  · rw [upd_ne _ _ (by omega)]; exact h.2.2.1 i hi
  · rw [upd_ne _ _ (by omega)]; exact h.2.2.2 i j hi hj
theorem Cs.sF {g : Nat → Int32} {d : Dt} (h : Cs g d) {b : Nat} (hb : b < 6) (x : Nat) : Cs (upd g (6 + b) (nI x)) (setF d b x) := by
  refine ⟨fun i hi => ?_, fun i hi => ?_, fun i hi => ?_, fun i j hi hj => ?_⟩
  · rw [upd_ne _ _ (by omega)]; exact h.1 i hi
  · by_cases e : i = b
    · subst e; rw [upd_at]; simp [setF, dF]
    · rw [upd_ne _ _ (by omega), h.2.1 i hi]; simp [setF, dF, e]
  · rw [upd_ne _ _ (by omega)]; exact h.2.2.1 i hi
  · rw [upd_ne _ _ (by omega)]; exact h.2.2.2 i j hi hj
theorem Cs.sR {g : Nat → Int32} {d : Dt} (h : Cs g d) {r : Nat} (hr : r < 4) (x : Nat) : Cs (upd g (12 + r) (nI x)) (setR d r x) := by
  refine ⟨fun i hi => ?_, fun i hi => ?_, fun i hi => ?_, fun i j hi hj => ?_⟩
  · rw [upd_ne _ _ (by omega)]; exact h.1 i hi
  · rw [upd_ne _ _ (by omega)]; exact h.2.1 i hi
  · by_cases e : i = r
    · subst e; rw [upd_at]; simp [setR, dR]
    · rw [upd_ne _ _ (by omega), h.2.2.1 i hi]; simp [setR, dR, e]
  · rw [upd_ne _ _ (by omega)]; exact h.2.2.2 i j hi hj
theorem Cs.sG {g : Nat → Int32} {d : Dt} (h : Cs g d) {b r : Nat} (hb : b < 6) (hr : r < 4) (x : Nat) : Cs (upd g (16 + (4 * b + r)) (nI x)) (setG d b r x) := by
  refine ⟨fun i hi => ?_, fun i hi => ?_, fun i hi => ?_, fun i j hi hj => ?_⟩
  · rw [upd_ne _ _ (by omega)]; exact h.1 i hi
  · rw [upd_ne _ _ (by omega)]; exact h.2.1 i hi
  · rw [upd_ne _ _ (by omega)]; exact h.2.2.1 i hi
  · by_cases e : i = b ∧ j = r
    · obtain ⟨rfl, rfl⟩ := e; rw [upd_at]; simp [setG, dG]
    · rw [upd_ne _ _ (by omega), h.2.2.2 i j hi hj]; simp [setG, dG, e]
theorem Cr.sW {g : Nat → Int32} {d : Dt} (h : Cr g d) {b : Nat} (hb : b < 6) (x : Option Nat) : Cr (upd g b (oI x)) (setW d b x) := by
  refine ⟨fun i hi => ?_, fun i hi => ?_, fun i hi => ?_, fun i j hi hj => ?_⟩
  · by_cases e : i = b
    · subst e; rw [upd_at]; simp [setW, dW]
    · rw [upd_ne _ _ e, h.1 i hi]; simp [setW, dW, e]
  · rw [upd_ne _ _ (by omega)]; exact h.2.1 i hi
  · rw [upd_ne _ _ (by omega)]; exact h.2.2.1 i hi
  · rw [upd_ne _ _ (by omega)]; exact h.2.2.2 i j hi hj
theorem Cr.sF {g : Nat → Int32} {d : Dt} (h : Cr g d) {b : Nat} (hb : b < 6) (x : Nat) : Cr (upd g (6 + b) (nI x)) (setF d b x) := by
  refine ⟨fun i hi => ?_, fun i hi => ?_, fun i hi => ?_, fun i j hi hj => ?_⟩
  · rw [upd_ne _ _ (by omega)]; exact h.1 i hi
  · by_cases e : i = b
    · subst e; rw [upd_at]; simp [setF, dF]
    · rw [upd_ne _ _ (by omega), h.2.1 i hi]; simp [setF, dF, e]
  · rw [upd_ne _ _ (by omega)]; exact h.2.2.1 i hi
  · rw [upd_ne _ _ (by omega)]; exact h.2.2.2 i j hi hj
theorem Cr.sR {g : Nat → Int32} {d : Dt} (h : Cr g d) {r : Nat} (hr : r < 4) (x : Nat) : Cr (upd g (12 + r) (nI x)) (setR d r x) := by
  refine ⟨fun i hi => ?_, fun i hi => ?_, fun i hi => ?_, fun i j hi hj => ?_⟩
  · rw [upd_ne _ _ (by omega)]; exact h.1 i hi
  · rw [upd_ne _ _ (by omega)]; exact h.2.1 i hi
  · by_cases e : i = r
    · subst e; rw [upd_at]; simp [setR, dR]
    · rw [upd_ne _ _ (by omega), h.2.2.1 i hi]; simp [setR, dR, e]
  · rw [upd_ne _ _ (by omega)]; exact h.2.2.2 i j hi hj
theorem Cr.sG {g : Nat → Int32} {d : Dt} (h : Cr g d) {b r : Nat} (hb : b < 6) (hr : r < 4) (x : Nat) : Cr (upd g (16 + (6 * r + b)) (nI x)) (setG d b r x) := by
  refine ⟨fun i hi => ?_, fun i hi => ?_, fun i hi => ?_, fun i j hi hj => ?_⟩
  · rw [upd_ne _ _ (by omega)]; exact h.1 i hi
  · rw [upd_ne _ _ (by omega)]; exact h.2.1 i hi
  · rw [upd_ne _ _ (by omega)]; exact h.2.2.1 i hi
  · by_cases e : i = b ∧ j = r
    · obtain ⟨rfl, rfl⟩ := e; rw [upd_at]; simp [setG, dG]
    · rw [upd_ne _ _ (by omega), h.2.2.2 i j hi hj]; simp [setG, dG, e]
theorem Cs.isW {g : Nat → Int32} {a : Ln} {d : Dt} (h : Cs g d) (ha : okLn a) (hd : okD a d) : isW g (nB a) (nR a) (dW d) := fun b hb => ⟨h.1 b (Nat.lt_of_lt_of_le hb ha.1), fun r e => (hd.1 b r e).2⟩
theorem Cr.isW {g : Nat → Int32} {a : Ln} {d : Dt} (h : Cr g d) (ha : okLn a) (hd : okD a d) : isW g (nB a) (nR a) (dW d) := fun b hb => ⟨h.1 b (Nat.lt_of_lt_of_le hb ha.1), fun r e => (hd.1 b r e).2⟩
/-- a law's code, of which n cells are written -/
def CLn (g : Nat → Int32) (x : Int32) (n : Nat) (f : (Nat → Int32) → Int32) : Prop :=
  (x = -1 ∧ ∀ W, f W = 1) ∨ ∃ (s e dp : Nat) (c : Nat → Nat), x = nI s ∧ e < n ∧ n ≤ 900 ∧ dp ≤ 64 ∧ (∀ j, j < n → g j = nI (c j) ∧ c j < 14000) ∧ c e = 4000 ∧ ∀ c' : Nat → Nat, (∀ j, j < n → c' j = c j) → Cseg c' s e dp f
theorem CLn.law {g : Nat → Int32} {x : Int32} {n : Nat} {f : (Nat → Int32) → Int32} (h : CLn g x n f) (hg : okC g) : CLaw g x f := by
  rcases h with h | ⟨s, e, dp, c, h1, h2, h3, h4, h5, h6, h7⟩
  · exact Or.inl h
  · refine Or.inr ⟨s, e, dp, fun j => if j < n then c j else (g j).toNatClampNeg, h1, by omega, h4, fun j hj => ?_, ?_, h7 _ (fun j hj => ?_)⟩
    · by_cases q : j < n
      · simp only [q, if_true]; exact h5 j q
      · obtain ⟨v, hv1, hv2⟩ := hg j hj
        simp only [q, if_false]
        rw [hv1, nI_clamp (by omega)]
        exact ⟨rfl, hv2⟩
    · dsimp only; rw [if_pos h2]; exact h6
    · exact if_pos hj
theorem CLn.cp {g g' : Nat → Int32} {x : Int32} {n : Nat} {f : (Nat → Int32) → Int32} (h : CLn g x n f) (hg : ∀ j, j < n → g' j = g j) : CLn g' x n f := by
  rcases h with h | ⟨s, e, dp, c, h1, h2, h3, h4, h5, h6, h7⟩
  · exact Or.inl h
  · exact Or.inr ⟨s, e, dp, c, h1, h2, h3, h4, fun j hj => by rw [hg j hj]; exact h5 j hj, h6, h7⟩
/-- a land of the class, by its object's name -/
def LnC (mi : TMi) (o : Nat) (a : Ln) : Prop := mi o 0 = nI (nB a) ∧ mi o 1 = nI (nR a) ∧ mi o 2 = nI (nN a) ∧ (∀ b, b < nB a → mi (o + 2) b = nI (nM a b)) ∧ (∀ b, b < nB a → mi (o + 3) b = nI (nD a b)) ∧ (∀ r, r < nR a → mi (o + 6) r = nI (nNm a r)) ∧ (∀ r, r < nR a → mi (o + 7) r = nI (nBs a r)) ∧ okC (mi (o + 8)) ∧ ∃ n, mi o 11 = nI n ∧ n ≤ 900 ∧ CLn (mi (o + 8)) (mi o 12) n (nL a) ∧ CLn (mi (o + 8)) (mi o 13) n (nT a)
theorem LnC.fr {mi mi' : TMi} {o : Nat} {a : Ln} (h : LnC mi o a) (e : ∀ k, k ≤ 8 → mi' (o + k) = mi (o + k)) : LnC mi' o a := by
  have e0 : mi' o = mi o := e 0 (by decide)
  unfold LnC
  rw [e0, e 2 (by decide), e 3 (by decide), e 6 (by decide), e 7 (by decide), e 8 (by decide)]
  exact h
theorem LnC.ld {mi : TMi} {a : Ln} (h : LnC mi 18 a) (ha : okLn a) : Ld mi (nB a) (nR a) (nL a) (nT a) := by
  obtain ⟨h0, h1, _, _, _, _, _, hc, n, _, _, hl, ht⟩ := h
  exact ⟨h0, ha.1, h1, ha.2.1, hl.law hc, ht.law hc⟩
theorem SLp.cong {mi : TMi} {lk tk bo ro mu B R : Nat} {P P' : Nat → Nat → Prop} {L T L' T' : Nat → Nat → Int} (h : SLp mi lk tk bo ro mu B R P L T) (k : ∀ b r, b < B → r < R → P' b r → P b r ∧ L' b r = L b r ∧ T' b r = T b r) : SLp mi lk tk bo ro mu B R P' L' T' :=
  ⟨fun b r hb hr hp => by
    obtain ⟨k1, k2, k3⟩ := k b r hb hr hp
    unfold pbO prO
    rw [k2, k3]
    exact h.1 b r hb hr k1, fun b hb => by
    obtain ⟨m, h1, h2, h3⟩ := h.2 b hb
    refine ⟨m, h1, h2, fun r hr hp => ?_⟩
    obtain ⟨k1, k2, k3⟩ := k b r hb hr hp
    unfold wdO
    rw [k2, k3]
    exact h3 r hr k1⟩
theorem nI_toNat {x : Int32} (h : 0 ≤ x.toInt) : x = nI x.toInt.toNat := by
  apply Int32.toInt_inj.mp
  have := Int32.toInt_lt x
  rw [nI_toInt (by omega)]
  omega
/-- deeds -/
def dInto (a : Ln) (d : Dt) (b r : Nat) : Int32 × Dt :=
  if dW d b = some r then (-12, d) else if wdO (lkD a d) (tkD a d) b r = false then (-13, d) else if adm (nB a) (tkD a d) (dR d) (dW d) b r = false then (-14, d)
  else if cnt (inn (dW d) r) (nB a) < dR d r then (-1, setW d b (some r)) else match lst (inn (dW d) r) (fun b' => prO (tkD a d) b' r) (nB a) with
    | none => (-1, setW d b (some r))
    | some m => (nI m, setW (setW d m none) b (some r))
def dOut (d : Dt) (b : Nat) : Int32 × Dt := match dW d b with
  | none => (-12, d)
  | some r => (nI r, setW d b none)
def dGive (d : Dt) (r b n : Nat) : Int32 × Dt := if dG d b r + n ≤ 9 then (nI (dG d b r + n), setG d b r (dG d b r + n)) else (-12, d)
abbrev inB (a : Ln) (x : Int32) : Prop := 0 ≤ x.toInt ∧ x.toInt < nB a
abbrev inR (a : Ln) (x : Int32) : Prop := 0 ≤ x.toInt ∧ x.toInt < nR a
def iInto (a : Ln) (d : Dt) (x y : Int32) : Int32 × Dt := if inB a x ∧ inR a y then dInto a d x.toInt.toNat y.toInt.toNat else (-11, d)
def iOut (a : Ln) (d : Dt) (x : Int32) : Int32 × Dt := if inB a x then dOut d x.toInt.toNat else (-11, d)
def iGive (a : Ln) (d : Dt) (y x n : Int32) : Int32 × Dt := if inB a x ∧ inR a y ∧ 1 ≤ n.toInt ∧ n.toInt ≤ 9 then dGive d y.toInt.toNat x.toInt.toNat n.toInt.toNat else (-11, d)
def iPour (a : Ln) (d : Dt) (x n : Int32) : Int32 × Dt := if inB a x ∧ 0 ≤ n.toInt ∧ n.toInt ≤ 9 then (nI (dF d x.toInt.toNat), setF d x.toInt.toNat n.toInt.toNat) else (-11, d)
