/-! ===== the laws, as the class runs them ===== -/
def opC (v : Nat) (x y : Int32) : Int32 :=
  if v / 1000 = 6 then Int32.ofInt (ck (x.toInt + y.toInt)) else if v / 1000 = 7 then Int32.ofInt (ck (x.toInt - y.toInt)) else if v / 1000 = 8 then Int32.ofInt (ck (x.toInt * y.toInt))
  else if v / 1000 = 9 then bI (decide (x = y)) else if v / 1000 = 10 then bI (decide (x < y)) else if v / 1000 = 11 then bI (decide (y < x)) else if v / 1000 = 12 then x &&& y else x ||| y
theorem m32 : (1000000 : Int64).toInt32 = 1000000 := by decide
theorem m32n : (-1000000 : Int64).toInt32 = -1000000 := by decide
theorem leL {a v : Nat} (ha : a < 2 ^ 31) (hv : v < 2 ^ 31) : ((OfNat.ofNat a : Int32) ≤ nI v) ↔ a ≤ v := nI_leI ha hv
theorem ltL {a v : Nat} (ha : a < 2 ^ 31) (hv : v < 2 ^ 31) : (nI v < (OfNat.ofNat a : Int32)) ↔ v < a := nI_ltI hv ha
theorem eqL {a v : Nat} (ha : a < 2 ^ 31) (hv : v < 2 ^ 31) : (nI v = (OfNat.ofNat a : Int32)) ↔ v = a := nI_eq hv ha
theorem c_Lw_joined {l : Launch} {h : Nat} {mi : TMi} {ml : TMl} {z : Nat} {v : Nat} {x y : Int32} {Q : Int32 → TMi → TMl → Nat → Prop} (hv : v < 14000) (hx : -1000000 ≤ x.toInt ∧ x.toInt ≤ 1000000) (hy : -1000000 ≤ y.toInt ∧ y.toInt ≤ 1000000) (hq : Q (opC v x y) mi ml z) : CI l (h + 1) m_Lw_joined [.int (nI v), .int x, .int y] mi ml z Q := by
  have ed : nI v / 1000 = nI (v / 1000) := pk_div (d := 1000) (by omega) (by decide) (by decide)
  have ee : ∀ a, a < 100 → ((nI v / 1000 = (OfNat.ofNat a : Int32)) ↔ v / 1000 = a) := fun a ha => by rw [ed]; exact eqL (by omega) (by omega)
  refine t_Lw_joined mi ml z _ _ _ ?_
  rw [propext (ee 6 (by decide)), propext (ee 7 (by decide)), propext (ee 8 (by decide)), propext (ee 9 (by decide)), propext (ee 10 (by decide)), propext (ee 11 (by decide)), propext (ee 12 (by decide))]
  unfold opC at hq
  refine ⟨fun e => ?_, fun e => ?_, fun e => ?_, fun e => ?_, fun e => ?_, fun e => ?_, fun e => ?_, fun e1 e2 e3 e4 e5 e6 e7 => ?_⟩
  · rw [if_pos e] at hq
    have := ckL (P := fun v => Q v mi ml z) (x + y).toInt64 (by
      rw [Int32.toInt_toInt64, Int32.toInt_add, Int.bmod_eq_of_le (by omega) (by omega)]; exact hq)
    rw [m32, m32n] at this
    exact this
  · rw [if_neg (by omega), if_pos e] at hq
    have := ckL (P := fun v => Q v mi ml z) (x - y).toInt64 (by
      rw [Int32.toInt_toInt64, Int32.toInt_sub, Int.bmod_eq_of_le (by omega) (by omega)]; exact hq)
    rw [m32, m32n] at this
    exact this
  · rw [if_neg (by omega), if_neg (by omega), if_pos e] at hq
    have := ckL (P := fun v => Q v mi ml z) (x.toInt64 * y.toInt64) (by rw [l_mul]; exact hq)
    rw [m32, m32n] at this
    exact this
  · rw [if_neg (by omega), if_neg (by omega), if_neg (by omega), if_pos e] at hq
    refine ⟨fun d => ?_, fun d => ?_⟩
    · simp [bI, d] at hq; exact hq
    · simp [bI, d] at hq; subst d; exact hq
  · rw [if_neg (by omega), if_neg (by omega), if_neg (by omega), if_neg (by omega), if_pos e] at hq
    refine ⟨fun d => ?_, fun d => ?_⟩
    · rw [show decide (x < y) = false from decide_eq_false (Int32.not_lt.mpr d)] at hq; exact hq
    · rw [show decide (x < y) = true from decide_eq_true (Int32.not_le.mp d)] at hq; exact hq
  · rw [if_neg (by omega), if_neg (by omega), if_neg (by omega), if_neg (by omega), if_neg (by omega), if_pos e] at hq
    refine ⟨fun d => ?_, fun d => ?_⟩
    · rw [show decide (y < x) = false from decide_eq_false (Int32.not_lt.mpr d)] at hq; exact hq
    · rw [show decide (y < x) = true from decide_eq_true (Int32.not_le.mp d)] at hq; exact hq
  · rw [if_neg (by omega), if_neg (by omega), if_neg (by omega), if_neg (by omega), if_neg (by omega), if_neg (by omega), if_pos e] at hq
    exact hq
  · rw [if_neg e1, if_neg e2, if_neg e3, if_neg e4, if_neg e5, if_neg e6, if_neg e7] at hq
    exact hq
/-- a step of the class's laws: the place, the parts (the top one first) -/
def cst (W : Nat → Int32) (c : Nat → Nat) (q : Nat × List Int32) : Option (Nat × List Int32) :=
  if ¬ q.1 < 900 then none else
  if c q.1 < 1000 then (if q.2.length < 64 then some (q.1 + 1, nI (c q.1) :: q.2) else none)
  else if c q.1 < 1006 then (if q.2.length < 64 then some (q.1 + 1, W (c q.1 - 1000) :: q.2) else none)
  else if c q.1 < 2000 then none
  else if c q.1 < 3000 then some (c q.1 - 2000, q.2)
  else if c q.1 < 4000 then (match q.2 with | x :: t => some (if x = 0 then c q.1 - 3000 else q.1 + 1, t) | _ => none)
  else if c q.1 = 5000 then (match q.2 with | x :: t => some (q.1 + 1, (1 - x) :: t) | _ => none)
  else if 6000 ≤ c q.1 ∧ c q.1 < 14000 then (match q.2 with | y :: x :: t => if (-1000000 ≤ x.toInt ∧ x.toInt ≤ 1000000) ∧ -1000000 ≤ y.toInt ∧ y.toInt ≤ 1000000 then some (q.1 + 1, opC (c q.1) x y :: t) else none | _ => none)
  else none
def cit (W : Nat → Int32) (c : Nat → Nat) : Nat → Nat × List Int32 → Option (Nat × List Int32)
  | 0, q => some q
  | n + 1, q => (cst W c q).bind (cit W c n)
theorem cit_add (W : Nat → Int32) (c : Nat → Nat) : ∀ (a b : Nat) (q : Nat × List Int32), cit W c (a + b) q = (cit W c a q).bind (cit W c b)
  | 0, b, q => by simp [cit]
  | a + 1, b, q => by
    rw [show a + 1 + b = (a + b) + 1 by omega]
    simp only [cit]
    cases h : cst W c q with
    | none => rfl
    | some q' => simp only [Option.bind_some]; exact cit_add W c a b q'
abbrev lwV (l : Launch) (h : Nat) (m : TMi) (ml : TMl) (z : Nat) (Q : Int32 → TMi → TMl → Nat → Prop) (a n k : Nat) : Prop := Ev l (h + 2) m_Lw_value 14 ([.ref 14, .ref 26, .retAddr 0, .int (nI a), .int (nI n), .int (nI k), .retAddr 0], [], st m ml z) (qI Q)
theorem lw_step {l : Launch} {h : Nat} {m : TMi} {ml : TMl} {z : Nat} {Q : Int32 → TMi → TMl → Nat → Prop} {W : Nat → Int32} {c : Nat → Nat} {a : Nat} {s : List Int32} {a' : Nat} {s' : List Int32} {k : Nat} (hc : ∀ j, j < 900 → m 26 j = nI (c j) ∧ c j < 14000) (hw : ∀ j, j < 6 → m 15 j = W j) (hs : stkA (m 16) s) (hsl : s.length ≤ 64) (hk : k < 900) (hst : cst W c (a, s) = some (a', s'))
    (hn : ∀ m', Fr [16] m m' → stkA (m' 16) s' → s'.length ≤ 64 → lwV l h m' ml z Q a' s'.length (k + 1)) : lwV l h m ml z Q a s.length k := by
  unfold cst at hst
  by_cases ha : a < 900
  case neg => rw [if_pos ha] at hst; cases hst
  rw [if_neg (by simpa using ha)] at hst
  dsimp only at hst
  have hca := hc a ha
  have hcl := hca.2
  generalize hv : c a = v at hst hca hcl
  have f1 : ¬ (900 : Int32) ≤ nI k := fun q => by have : 900 ≤ k := (leL (by decide) (by omega)).mp q; omega
  have f2 : ¬ nI 900 ≤ nI a := nI_ge ha (by decide)
  have g2000 : ((2000 : Int32) ≤ nI v) ↔ 2000 ≤ v := leL (by decide) (by omega)
  have g6000 : (nI v < (6000 : Int32)) ↔ v < 6000 := ltL (by decide) (by omega)
  have g5000 : (nI v = (5000 : Int32)) ↔ v = 5000 := eqL (by decide) (by omega)
  have g3000 : (nI v < (3000 : Int32)) ↔ v < 3000 := ltL (by decide) (by omega)
  have g2000' : (nI v < (2000 : Int32)) ↔ v < 2000 := ltL (by decide) (by omega)
  have g3000' : ((3000 : Int32) ≤ nI v) ↔ 3000 ≤ v := leL (by decide) (by omega)
  have g4000 : ((4000 : Int32) ≤ nI v) ↔ 4000 ≤ v := leL (by decide) (by omega)
  have g1000 : ((1000 : Int32) ≤ nI v) ↔ 1000 ≤ v := leL (by decide) (by omega)
  have gl0 : (nI s.length ≤ (0 : Int32)) ↔ s.length ≤ 0 := nI_leI (b := 0) (by omega) (by decide)
  have gl1 : (nI s.length ≤ (1 : Int32)) ↔ s.length ≤ 1 := nI_leI (b := 1) (by omega) (by decide)
  have gl64 : ((64 : Int32) ≤ nI s.length) ↔ 64 ≤ s.length := leL (by decide) (by omega)
  have hFu : ∀ j x, Fr [16] m (up m 16 j x) := fun j x => Fr_up m 16 j x
  have u16 : ∀ j x, up m 16 j x 16 = upd (m 16) j x := fun j x => by simp [up]
  refine t_Lw_value_14 m ml z _ _ _ ?_
  rw [cl_nI (show a < 2 ^ 31 by omega), hca.1]
  simp only [f1, f2, g2000, g6000, g5000, g3000, g2000', g3000', g4000, g1000, gl0, gl1, gl64, false_implies, not_false_eq_true, true_implies, true_and]
  refine ⟨in_nI ha (by decide), ?_⟩
  by_cases k1 : v < 1000
  · rw [if_pos k1] at hst
    by_cases k2 : s.length < 64
    · rw [if_pos k2] at hst
      simp only [Option.some.injEq, Prod.mk.injEq] at hst
      obtain ⟨rfl, rfl⟩ := hst
      have := hn (up m 16 s.length (nI v)) (hFu _ _) (by rw [u16]; exact stkA_push hs) (by simp; omega)
      simp only [show ¬ 2000 ≤ v by omega, show ¬ 64 ≤ s.length by omega, show ¬ 1000 ≤ v by omega, false_implies, not_false_eq_true, true_implies, true_and, and_true]
      rw [cl_nI (by omega)]
      simp only [nI_1]
      exact ⟨in_nI (by omega) (by decide), this⟩
    · rw [if_neg k2] at hst; cases hst
  · rw [if_neg k1] at hst
    by_cases k3 : v < 1006
    · rw [if_pos k3] at hst
      by_cases k2 : s.length < 64
      · rw [if_pos k2] at hst
        simp only [Option.some.injEq, Prod.mk.injEq] at hst
        obtain ⟨rfl, rfl⟩ := hst
        have e6 : nI v - 1000 = nI (v - 1000) := pk_sub (a := v) (b := 1000) (by omega)
        have := hn (up m 16 s.length (W (v - 1000))) (hFu _ _) (by rw [u16]; exact stkA_push hs) (by simp; omega)
        simp only [show ¬ 2000 ≤ v by omega, show ¬ 64 ≤ s.length by omega, show 1000 ≤ v by omega, false_implies, not_false_eq_true, not_true_eq_false, true_implies, true_and, and_true]
        refine t_Lw_valueOf _ _ _ _ ?_
        rw [e6, cl_nI (show v - 1000 < 2 ^ 31 by omega), cl_nI (show s.length < 2 ^ 31 by omega)]
        refine ⟨fun c6 => by have : 6 ≤ v - 1000 := (leL (by decide) (by omega)).mp c6; omega, fun _ => ⟨in_nI (by omega) (by decide), in_nI (by omega) (by decide), ?_⟩⟩
        rw [hw (v - 1000) (by omega)]
        simp only [nI_1]
        exact this
      · rw [if_neg k2] at hst; cases hst
    · rw [if_neg k3] at hst
      by_cases k4 : v < 2000
      · rw [if_pos k4] at hst; cases hst
      · rw [if_neg k4] at hst
        by_cases k5 : v < 3000
        · rw [if_pos k5] at hst
          simp only [Option.some.injEq, Prod.mk.injEq] at hst
          obtain ⟨rfl, rfl⟩ := hst
          have := hn m (Fr.refl _ _) hs hsl
          have e6 : nI v - 2000 = nI (v - 2000) := pk_sub (a := v) (b := 2000) (by omega)
          simp only [show 2000 ≤ v by omega, show v < 6000 by omega, show ¬ v = 5000 by omega, show v < 3000 by omega, show ¬ v < 2000 by omega, show ¬ 3000 ≤ v by omega, false_implies, not_false_eq_true, not_true_eq_false, true_implies, true_and, and_true, e6, nI_1]
          exact this
        · rw [if_neg k5] at hst
          by_cases k6 : v < 4000
          · rw [if_pos k6] at hst
            match s, hs, hsl, hst, gl0, gl1, gl64, hn with
            | [], _, _, hst, _, _, _, _ => cases hst
            | x :: t, hs, hsl, hst, gl0, gl1, gl64, hn =>
              simp only [Option.some.injEq, Prod.mk.injEq] at hst
              obtain ⟨rfl, rfl⟩ := hst
              have hx : m 16 t.length = x := hs.1
              have := hn m (Fr.refl _ _) hs.2 (by simp at hsl; omega)
              have e6 : nI v - 3000 = nI (v - 3000) := pk_sub (a := v) (b := 3000) (by omega)
              have a1 : nI (x :: t).length + (-1) = nI t.length := addm1 (by simp)
              simp only [show 2000 ≤ v by omega, show v < 6000 by omega, show ¬ v = 5000 by omega, show ¬ v < 3000 by omega, show ¬ 4000 ≤ v by omega, show ¬ (x :: t).length ≤ 0 by simp, false_implies, not_false_eq_true, not_true_eq_false, true_implies, true_and, and_true, e6, a1]
              rw [cl_nI (show t.length < 2 ^ 31 by simp at hsl; omega), hx]
              refine ⟨in_nI (by simp at hsl; omega) (by decide), fun c0 => ?_, fun c0 => ?_⟩
              · rw [if_neg c0] at this
                simp only [nI_1]
                exact this
              · rw [if_pos c0] at this
                simp only [nI_1]
                exact this
          · rw [if_neg k6] at hst
            by_cases k7 : v = 5000
            · rw [if_pos k7] at hst
              match s, hs, hsl, hst, gl0, gl1, gl64, hn with
              | [], _, _, hst, _, _, _, _ => cases hst
              | x :: t, hs, hsl, hst, gl0, gl1, gl64, hn =>
                simp only [Option.some.injEq, Prod.mk.injEq] at hst
                obtain ⟨rfl, rfl⟩ := hst
                have hx : m 16 t.length = x := hs.1
                have := hn (up m 16 t.length (1 - x)) (hFu _ _) (by rw [u16]; exact stkA_push hs.2) (by simpa using hsl)
                have a1 : nI (x :: t).length - 1 = nI t.length := sub1 (by simp) (by simp at hsl ⊢; omega)
                simp only [show 2000 ≤ v by omega, show v < 6000 by omega, eq_true k7, show ¬ (x :: t).length ≤ 0 by simp, false_implies, not_false_eq_true, not_true_eq_false, true_implies, true_and, and_true, a1]
                rw [cl_nI (show t.length < 2 ^ 31 by simp at hsl; omega), hx]
                simp only [nI_1]
                exact ⟨in_nI (by simp at hsl; omega) (by decide), in_nI (by simp at hsl; omega) (by decide), this⟩
            · rw [if_neg k7] at hst
              by_cases k8 : 6000 ≤ v ∧ v < 14000
              · rw [if_pos k8] at hst
                match s, hs, hsl, hst, gl0, gl1, gl64, hn with
                | [], _, _, hst, _, _, _, _ => cases hst
                | [_], _, _, hst, _, _, _, _ => cases hst
                | y :: x :: t, hs, hsl, hst, gl0, gl1, gl64, hn =>
                  dsimp only at hst
                  by_cases k9 : (-1000000 ≤ x.toInt ∧ x.toInt ≤ 1000000) ∧ -1000000 ≤ y.toInt ∧ y.toInt ≤ 1000000
                  · rw [if_pos k9] at hst
                    simp only [Option.some.injEq, Prod.mk.injEq] at hst
                    obtain ⟨rfl, rfl⟩ := hst
                    have hx : m 16 t.length = x := hs.2.1
                    have hy : m 16 (t.length + 1) = y := hs.1
                    simp only [List.length_cons] at hsl
                    have := hn (up m 16 t.length (opC v x y)) (hFu _ _) (by rw [u16]; exact stkA_push hs.2.2) (by simp; omega)
                    have a1 : nI (y :: x :: t).length + (-1) = nI (t.length + 1) := addm1 (by simp)
                    have a2 : nI (t.length + 1) - 1 = nI t.length := sub1 (by omega) (by omega)
                    simp only [show 2000 ≤ v by omega, show ¬ v < 6000 by omega, show ¬ (y :: x :: t).length ≤ 1 by simp, false_implies, not_false_eq_true, not_true_eq_false, true_implies, true_and, and_true, a1, a2]
                    rw [cl_nI (show t.length < 2 ^ 31 by omega), cl_nI (show t.length + 1 < 2 ^ 31 by omega), hx, hy]
                    have hi : vp_in (nI t.length) 64 := in_nI (by omega) (by decide)
                    simp only [nI_1]
                    exact ⟨hi, in_nI (by omega) (by decide), c_Lw_joined (by omega) k9.1 k9.2 ⟨hi, this⟩⟩
                  · rw [if_neg k9] at hst; cases hst
              · rw [if_neg k8] at hst; cases hst
theorem lw_iter {l : Launch} {h : Nat} {ml : TMl} {z : Nat} {Q : Int32 → TMi → TMl → Nat → Prop} {W : Nat → Int32} {c : Nat → Nat} : ∀ (t : Nat) {m : TMi} {a : Nat} {s : List Int32} {a' : Nat} {s' : List Int32} {k : Nat}, (∀ j, j < 900 → m 26 j = nI (c j) ∧ c j < 14000) → (∀ j, j < 6 → m 15 j = W j) → stkA (m 16) s → s.length ≤ 64 → k + t ≤ 900 → cit W c t (a, s) = some (a', s') →
    (∀ m', Fr [16] m m' → stkA (m' 16) s' → s'.length ≤ 64 → lwV l h m' ml z Q a' s'.length (k + t)) → lwV l h m ml z Q a s.length k
  | 0, m, a, s, a', s', k, hc, hw, hs, hsl, hk, hst, hn => by
    simp only [cit, Option.some.injEq, Prod.mk.injEq] at hst
    obtain ⟨rfl, rfl⟩ := hst
    exact hn m (Fr.refl _ _) hs hsl
  | t + 1, m, a, s, a', s', k, hc, hw, hs, hsl, hk, hst, hn => by
    simp only [cit] at hst
    cases h1 : cst W c (a, s) with
    | none => rw [h1] at hst; cases hst
    | some q =>
      obtain ⟨a1, s1⟩ := q
      rw [h1, Option.bind_some] at hst
      refine lw_step hc hw hs hsl (by omega) h1 (fun m1 hF1 hs1 hl1 => ?_)
      refine lw_iter t (m := m1) (fun j hj => by rw [hF1 26 (by simp)]; exact hc j hj) (fun j hj => by rw [hF1 15 (by simp)]; exact hw j hj) hs1 hl1 (by omega) hst (fun m2 hF2 hs2 hl2 => ?_)
      rw [show k + 1 + t = k + (t + 1) by omega]
      exact hn m2 (hF1.step hF2) hs2 hl2
def Cseg (c : Nat → Nat) (s e d : Nat) (f : (Nat → Int32) → Int32) : Prop := s ≤ e ∧ (∀ W, okW W → -1000000 ≤ (f W).toInt ∧ (f W).toInt ≤ 1000000) ∧ ∀ W, okW W → ∀ stk : List Int32, stk.length + d ≤ 64 → ∃ t, t ≤ e - s ∧ cit W c t (s, stk) = some (e, f W :: stk)
/-- code cells as they can be -/
def okC (g : Nat → Int32) : Prop := ∀ j, j < 900 → ∃ v : Nat, g j = nI v ∧ v < 14000
def CLaw (g : Nat → Int32) (a : Int32) (f : (Nat → Int32) → Int32) : Prop :=
  (a = -1 ∧ ∀ W, f W = 1) ∨ ∃ (s e d : Nat) (c : Nat → Nat), a = nI s ∧ e < 900 ∧ d ≤ 64 ∧ (∀ j, j < 900 → g j = nI (c j) ∧ c j < 14000) ∧ c e = 4000 ∧ Cseg c s e d f
theorem CLaw_bd {g : Nat → Int32} {a : Int32} {f : (Nat → Int32) → Int32} (h : CLaw g a f) {W : Nat → Int32} (hW : okW W) : -1000000 ≤ (f W).toInt ∧ (f W).toInt ≤ 1000000 := by
  rcases h with ⟨-, h⟩ | ⟨s, e, d, c, -, -, -, -, -, h⟩
  · rw [h]; decide
  · exact h.2.1 W hW
theorem c_Lw_value {l : Launch} {h : Nat} {mi : TMi} {ml : TMl} {z : Nat} {a : Int32} {W : Nat → Int32} {f : (Nat → Int32) → Int32} {Q : Int32 → TMi → TMl → Nat → Prop} (hW : okW W) (hw : ∀ j, j < 6 → mi 15 j = W j) (hf : CLaw (mi 26) a f) (hq : ∀ mi', Fr [16] mi mi' → Q (f W) mi' ml z) : CI l (h + 2) m_Lw_value [.ref 14, .ref 26, .int a] mi ml z Q := by
  rcases hf with ⟨rfl, h1⟩ | ⟨s, e, d, c, rfl, he, hd, hc, hce, hse, -, hrun⟩
  · refine t_Lw_value mi ml z _ ⟨fun c => absurd c (by decide), fun _ => ?_⟩
    have := hq mi (Fr.refl _ _)
    rw [h1] at this
    exact this
  · refine t_Lw_value mi ml z _ ⟨fun _ => ?_, fun c => absurd (nI_pos' (by omega)) c⟩
    obtain ⟨t, ht, hit⟩ := hrun W hW [] (by simpa using hd)
    have := lw_iter (l := l) (h := h) (ml := ml) (z := z) (Q := Q) t (m := mi) (s := []) (k := 0) hc hw trivial (by simp) (by omega) hit (fun m' hF hs' hl' => by
      have f1 : ¬ (900 : Int32) ≤ nI (0 + t) := fun q => by have : 900 ≤ 0 + t := (leL (by decide) (by omega)).mp q; omega
      have f2 : ¬ nI 900 ≤ nI e := nI_ge he (by decide)
      refine t_Lw_value_14 m' ml z _ _ _ ?_
      have e26 : m' 26 e = nI 4000 := by rw [hF 26 (by simp), (hc e he).1, hce]
      rw [cl_nI (show e < 2 ^ 31 by omega), e26]
      have g1 : ((2000 : Int32) ≤ nI 4000) = True := by decide
      have g2 : (nI 4000 < (6000 : Int32)) = True := by decide
      have g3 : (nI 4000 = (5000 : Int32)) = False := by decide
      have g4 : (nI 4000 < (3000 : Int32)) = False := by decide
      have g5 : ((4000 : Int32) ≤ nI 4000) = True := by decide
      have g6 : (nI 4000 < (2000 : Int32)) = False := by decide
      have g7 : ((3000 : Int32) ≤ nI 4000) = True := by decide
      have g8 : (nI [f W].length ≤ (0 : Int32)) = False := (by decide : (nI 1 ≤ (0 : Int32)) = False)
      have a1 : nI [f W].length - 1 = nI 0 := (by decide : nI 1 - 1 = nI 0)
      have a2 : (nI 0).toNatClampNeg = 0 := by decide
      simp only [f1, f2, g1, g2, g3, g4, g5, g6, g7, g8, false_implies, not_false_eq_true, not_true_eq_false, true_implies, true_and, and_true, a1, a2]
      refine ⟨in_nI he (by decide), in_nI (by decide) (by decide), ?_⟩
      rw [show m' 16 0 = f W from hs'.1]
      exact hq m' hF)
    exact this
