/-! ===== the laws, as the reference reckons them ===== -/
def ck (x : Int) : Int := if x > 1000000 then 1000000 else if x < -1000000 then -1000000 else x
theorem ck_bd (x : Int) : -1000000 ≤ ck x ∧ ck x ≤ 1000000 := by unfold ck; split <;> (try split) <;> omega
def opV (c : Int32) (x y : Int32) : Int32 :=
  if c = 3003 then bI (decide (x = y)) else if c = 3004 then bI (decide (x < y)) else if c = 3005 then bI (decide (y < x)) else if c = 3007 then x &&& y else if c = 3008 then x ||| y
  else if c = 3000 then Int32.ofInt (ck (x.toInt + y.toInt)) else if c = 3001 then Int32.ofInt (ck (x.toInt - y.toInt)) else Int32.ofInt (ck (x.toInt * y.toInt))
theorem i32_bd (x : Int32) : -2147483648 ≤ x.toInt ∧ x.toInt ≤ 2147483647 := ⟨Int32.le_toInt x, by have := Int32.toInt_lt x; omega⟩
theorem l_add (x y : Int32) : (x.toInt64 + y.toInt64).toInt = x.toInt + y.toInt := by
  have hx := i32_bd x; have hy := i32_bd y
  rw [Int64.toInt_add, Int32.toInt_toInt64, Int32.toInt_toInt64]
  apply Int.bmod_eq_of_le <;> omega
theorem l_sub (x y : Int32) : (x.toInt64 - y.toInt64).toInt = x.toInt - y.toInt := by
  have hx := i32_bd x; have hy := i32_bd y
  rw [Int64.toInt_sub, Int32.toInt_toInt64, Int32.toInt_toInt64]
  apply Int.bmod_eq_of_le <;> omega
theorem mul_bd {x y c : Int} (hx : -c ≤ x ∧ x ≤ c) (hy : -c ≤ y ∧ y ≤ c) : -(c * c) ≤ x * y ∧ x * y ≤ c * c := by
  have h1 : x.natAbs ≤ c.natAbs := by omega
  have h2 : y.natAbs ≤ c.natAbs := by omega
  have h3 : (x * y).natAbs ≤ c.natAbs * c.natAbs := by rw [Int.natAbs_mul]; exact Nat.mul_le_mul h1 h2
  have h4 : (c * c).natAbs = c.natAbs * c.natAbs := Int.natAbs_mul c c
  have h5 : 0 ≤ c * c := by
    rw [← Int.natAbs_mul_self]
    exact Int.natCast_nonneg _
  omega
theorem l_mul (x y : Int32) : (x.toInt64 * y.toInt64).toInt = x.toInt * y.toInt := by
  have hx := i32_bd x; have hy := i32_bd y
  have h := mul_bd (c := 2147483648) (x := x.toInt) (y := y.toInt) (by omega) (by omega)
  rw [Int64.toInt_mul, Int32.toInt_toInt64, Int32.toInt_toInt64]
  apply Int.bmod_eq_of_le <;> omega
theorem lc_le (x y : Int64) : (lg_cmp x y ≤ 0) = (x ≤ y) := by
  have h : (lg_cmp x y ≤ 0) ↔ ¬ (0 < lg_cmp x y) := Int32.not_lt.symm
  have h2 : (x ≤ y) ↔ ¬ (y < x) := Int64.not_lt.symm
  rw [propext h, propext h2, lc_gt]
theorem lc_ge (x y : Int64) : (0 ≤ lg_cmp x y) = (y ≤ x) := by
  have h : (0 ≤ lg_cmp x y) ↔ ¬ (lg_cmp x y < 0) := Int32.not_lt.symm
  have h2 : (y ≤ x) ↔ ¬ (x < y) := Int64.not_lt.symm
  rw [propext h, propext h2, lc_lt]
theorem m64 : (1000000 : Int64).toInt = 1000000 := by decide
theorem m64n : (-1000000 : Int64).toInt = -1000000 := by decide
theorem ckL (v : Int64) {P : Int32 → Prop} (h : P (Int32.ofInt (ck v.toInt))) : (lg_cmp v 1000000 ≤ 0 → ((0 ≤ lg_cmp v (-1000000) → P v.toInt32) ∧ (¬ 0 ≤ lg_cmp v (-1000000) → P (-1000000 : Int64).toInt32))) ∧ (¬ lg_cmp v 1000000 ≤ 0 → P (1000000 : Int64).toInt32) := by
  rw [lc_le, lc_ge, Int64.le_iff_toInt_le, Int64.le_iff_toInt_le, m64, m64n]
  unfold ck at h
  refine ⟨fun c1 => ⟨fun c2 => ?_, fun c2 => ?_⟩, fun c1 => ?_⟩
  · rw [if_neg (by omega), if_neg (by omega)] at h
    rw [show v.toInt32 = Int32.ofInt v.toInt by
      apply Int32.toInt_inj.mp
      rw [Int64.toInt_toInt32, Int32.toInt_ofInt]]
    exact h
  · rw [if_neg (by omega), if_pos (by omega)] at h
    exact h
  · rw [if_pos (by omega)] at h
    exact h
theorem c_R_between {l : Launch} {h : Nat} {mi : TMi} {ml : TMl} {z : Nat} {c x y : Int32} {Q : Int32 → TMi → TMl → Nat → Prop} (hc : ¬ c = 3006) (hq : Q (opV c x y) mi ml z) : CI l (h + 1) m_R_between [.int c, .int x, .int y] mi ml z Q := by
  refine t_R_between mi ml z _ _ _ ⟨fun e => ?_, fun e => ?_, fun e => ?_, fun e => absurd e hc, fun e => ?_, fun e => ?_, fun e1 e2 e3 e4 e5 e6 => ?_⟩
  · rw [e] at hq
    refine ⟨fun d => ?_, fun d => ?_⟩
    · have : opV 3003 x y = 0 := by simp [opV, bI, d]
      rw [this] at hq; exact hq
    · have : opV 3003 x y = 1 := by simp [opV, bI, d]
      rw [this] at hq; exact hq
  · rw [e] at hq
    refine ⟨fun d => ?_, fun d => ?_⟩
    · have : opV 3004 x y = 0 := by simp [opV, bI, d]
      rw [this] at hq; exact hq
    · have : opV 3004 x y = 1 := by simp [opV, bI, Int32.not_le.mp d]
      rw [this] at hq; exact hq
  · rw [e] at hq
    refine ⟨fun d => ?_, fun d => ?_⟩
    · have : opV 3005 x y = 0 := by simp [opV, bI, d]
      rw [this] at hq; exact hq
    · have : opV 3005 x y = 1 := by simp [opV, bI, Int32.not_le.mp d]
      rw [this] at hq; exact hq
  · rw [e] at hq; exact hq
  · rw [e] at hq; exact hq
  · unfold opV at hq
    rw [if_neg e1, if_neg e2, if_neg e3, if_neg e5, if_neg e6] at hq
    refine ⟨fun d1 => ⟨fun d2 => ?_, fun d2 => ?_⟩, fun d1 => ?_⟩
    · rw [if_neg d1, if_neg d2] at hq
      exact ckL (P := fun v => Q v mi ml z) _ (by rw [l_mul]; exact hq)
    · rw [if_neg d1, if_pos d2] at hq
      exact ckL (P := fun v => Q v mi ml z) _ (by rw [l_sub]; exact hq)
    · rw [if_pos d1] at hq
      exact ckL (P := fun v => Q v mi ml z) _ (by rw [l_add]; exact hq)
/-- words of a law: small -/
def okW (W : Nat → Int32) : Prop := ∀ k, k < 6 → 0 ≤ (W k).toInt ∧ (W k).toInt ≤ 9
def rst (W : Nat → Int32) (c : Int32) (s : List Int32) : Option (List Int32) :=
  if 3000 ≤ c then
    if c = 3006 then (match s with | x :: t => some ((1 - x) :: t) | _ => none)
    else if c = 3009 then (match s with | u :: y :: x :: t => some ((if x = 1 then y else u) :: t) | _ => none)
    else (match s with | y :: x :: t => some (opV c x y :: t) | _ => none)
  else if 1000 ≤ c then (if (c.toInt - 1000).toNat < 6 then some (W (c.toInt - 1000).toNat :: s) else none)
  else some (c :: s)
def rrun (W : Nat → Int32) : List Int32 → List Int32 → Option (List Int32)
  | [], s => some s
  | c :: cs, s => (rst W c s).bind (rrun W cs)
def stkA (g : Nat → Int32) : List Int32 → Prop
  | [] => True
  | x :: t => g t.length = x ∧ stkA g t
theorem stkA_upd {g : Nat → Int32} {x : Int32} : ∀ {t : List Int32} {n : Nat}, t.length ≤ n → stkA g t → stkA (upd g n x) t
  | [], _, _, _ => trivial
  | a :: t, n, h, hs => by
    simp only [List.length_cons] at h
    refine ⟨?_, stkA_upd (by omega) hs.2⟩
    unfold upd
    rw [if_neg (by omega)]
    exact hs.1
theorem stkA_push {g : Nat → Int32} {x : Int32} {t : List Int32} (h : stkA g t) : stkA (upd g t.length x) (x :: t) := ⟨by simp [upd], stkA_upd (Nat.le_refl _) h⟩
def wdR (g : Nat → Int32) (b r : Nat) (k : Nat) : Int32 := match k with
  | 0 => nI b
  | 1 => g (35 + b)
  | 2 => g (9 + b)
  | 3 => nI r
  | 4 => g (21 + r)
  | _ => g (45 + 6 * r + b)
def Rseg (cs : List Int32) (f : (Nat → Int32) → Int32) : Prop := ∀ W, okW W → ∀ s, rrun W cs s = some (f W :: s)
/-- a law as the reference holds it: f tells its value -/
def RLaw (g : Nat → Int32) (law : Nat) (f : (Nat → Int32) → Int32) : Prop :=
  (g (3 + law) = 0 ∧ ∀ W, f W = 1) ∨ (¬ g (3 + law) = 0 ∧ ∃ (fr : Nat) (cs : List Int32), g (5 + law) = nI fr ∧ g (7 + law) = nI cs.length ∧ fr + cs.length ≤ 900 ∧ (∀ k, k < cs.length → cs[k]? = some (g (471 + fr + k))) ∧ Rseg cs f)
theorem sub1 {n : Nat} (h : 0 < n) (hn : n < 2 ^ 31) : nI n - 1 = nI (n - 1) := by
  obtain ⟨k, rfl⟩ : ∃ k, n = k + 1 := ⟨n - 1, by omega⟩
  rw [nI_pred]; rfl
theorem addm1 {n : Nat} (h : 0 < n) : nI n + (-1) = nI (n - 1) := sb_m1 h
theorem addm2 {n : Nat} (h : 1 < n) : nI n + (-2) = nI (n - 2) := by
  obtain ⟨k, rfl⟩ : ∃ k, n = k + 2 := ⟨n - 2, by omega⟩
  rw [show (-2 : Int32) = -1 + -1 by decide, ← Int32.add_assoc, addm1 (by omega), addm1 (by omega)]
  rfl
theorem c_R_reckons {l : Launch} {h : Nat} {mi : TMi} {ml : TMl} {z : Nat} {law b r : Nat} {f : (Nat → Int32) → Int32} {Q : Int32 → TMi → TMl → Nat → Prop} (hlaw : law < 2) (hb : b < 6) (hr : r < 4) (hW : okW (wdR (mi 120) b r)) (hf : RLaw (mi 120) law f) (hq : ∀ mi', Fr [124, 125] mi mi' → Q (f (wdR (mi 120) b r)) mi' ml z) : CI l (h + 2) m_R_reckons [.ref 119, .int (nI law), .int (nI b), .int (nI r)] mi ml z Q := by
  refine t_R_reckons mi ml z _ _ _ ⟨in_addL (a := 3) (i := law) (by omega) (by decide), ?_⟩
  rw [addL_cl 3 law (by omega)]
  rcases hf with ⟨h0, h1⟩ | ⟨h0, fr, cs, hfr, hmn, hle, hcs, hseg⟩
  · refine ⟨fun c => absurd h0 c, fun _ => ?_⟩
    have := hq mi (Fr.refl _ _)
    rw [h1] at this
    exact this
  · refine ⟨fun _ => ⟨in_addL (a := 35) (by omega) (by decide), in_addL (a := 9) (by omega) (by decide), in_addL (a := 21) (by omega) (by decide), t_R_giftAt _ _ _ _ _ ⟨?_, ?_⟩⟩, fun c => absurd c h0⟩
    · rw [mulL 6 r, addL 45, nI_add]
      exact vp_in_nI (by omega) (by decide)
    · have e5 : ((45 : Int32) + 6 * nI r + nI b).toNatClampNeg = 45 + 6 * r + b := by rw [mulL 6 r, addL 45, nI_add, nI_clamp (by omega)]
      rw [addL_cl 35 b (by omega), addL_cl 9 b (by omega), addL_cl 21 r (by omega), e5]
      generalize hm0 : (up (up (up (up (up (up mi 125 0 (nI b)) 125 1 (up mi 125 0 (nI b) 120 (35 + b))) 125 2 (up (up mi 125 0 (nI b)) 125 1 (up mi 125 0 (nI b) 120 (35 + b)) 120 (9 + b))) 125 3 (nI r)) 125 4 (up (up (up (up mi 125 0 (nI b)) 125 1 (up mi 125 0 (nI b) 120 (35 + b))) 125 2 (up (up mi 125 0 (nI b)) 125 1 (up mi 125 0 (nI b) 120 (35 + b)) 120 (9 + b))) 125 3 (nI r) 120 (21 + r))) 125 5 (up (up (up (up (up mi 125 0 (nI b)) 125 1 (up mi 125 0 (nI b) 120 (35 + b))) 125 2 (up (up mi 125 0 (nI b)) 125 1 (up mi 125 0 (nI b) 120 (35 + b)) 120 (9 + b))) 125 3 (nI r)) 125 4 (up (up (up (up mi 125 0 (nI b)) 125 1 (up mi 125 0 (nI b) 120 (35 + b))) 125 2 (up (up mi 125 0 (nI b)) 125 1 (up mi 125 0 (nI b) 120 (35 + b)) 120 (9 + b))) 125 3 (nI r) 120 (21 + r)) 120 (45 + 6 * r + b))) = m0
      have hF0 : Fr [124, 125] mi m0 := by
        intro n hn
        have hn2 : n ≠ 125 := fun e => hn (by simp [e])
        rw [← hm0]
        simp [up, hn2]
      have hw0 : ∀ k, k < 6 → m0 125 k = wdR (mi 120) b r k := by
        intro k hk
        rw [← hm0]
        rcases (show k = 0 ∨ k = 1 ∨ k = 2 ∨ k = 3 ∨ k = 4 ∨ k = 5 by omega) with rfl | rfl | rfl | rfl | rfl | rfl <;> simp [up, upd, wdR]
      clear hm0
      have key : ∀ (n k : Nat) (m : TMi) (s : List Int32), k + n = cs.length → Fr [124, 125] mi m → (∀ k, k < 6 → m 125 k = wdR (mi 120) b r k) → stkA (m 124) s → s.length ≤ k → rrun (wdR (mi 120) b r) (cs.drop k) s = some [f (wdR (mi 120) b r)] → Ev l (h + 2) m_R_reckons 95 ([.ref 119, .int (nI law), .retAddr 0, .retAddr 0, .int (nI s.length), .int (nI k), .retAddr 0], [], st m ml z) (qI Q) := by
        intro n
        induction n with
        | zero =>
          intro k m s hk hF hw hs hsl hrun
          have ek : k = cs.length := by omega
          subst ek
          have e120 : m 120 = mi 120 := hF 120 (by simp)
          refine t_R_reckons_95 m ml z _ _ _ ⟨in_addL (a := 7) (by omega) (by decide), ?_⟩
          rw [addL_cl 7 law (by omega), e120, hmn]
          refine ⟨fun _ => ?_, fun c => absurd (nI_le (Nat.le_refl _) (by omega)) c⟩
          rw [List.drop_length] at hrun
          simp only [rrun, Option.some.injEq] at hrun
          subst hrun
          rw [show m 124 0 = f (wdR (mi 120) b r) from hs.1]
          exact hq m hF
        | succ n ih =>
          intro k m s hk hF hw hs hsl hrun
          have e120 : m 120 = mi 120 := hF 120 (by simp)
          have hkl : k < cs.length := by omega
          have hck := hcs k hkl
          refine t_R_reckons_95 m ml z _ _ _ ⟨in_addL (a := 7) (by omega) (by decide), ?_⟩
          rw [addL_cl 7 law (by omega), addL_cl 5 law (by omega), e120, hmn, hfr]
          have e4 : ((471 : Int32) + nI fr + nI k).toNatClampNeg = 471 + fr + k := by rw [addL 471, nI_add, nI_clamp (by omega)]
          refine ⟨fun c => absurd c (nI_ge hkl (by omega)), fun _ => ⟨in_addL (a := 5) (by omega) (by decide), by rw [addL 471, nI_add]; exact vp_in_nI (by omega) (by decide), ?_⟩⟩
          rw [e4]
          generalize hcc : mi 120 (471 + fr + k) = c at hck ⊢
          have hdrop : cs.drop k = c :: cs.drop (k + 1) := by
            rw [List.drop_eq_getElem_cons hkl]
            congr 1
            rw [List.getElem?_eq_getElem hkl] at hck
            exact Option.some.inj hck
          rw [hdrop] at hrun
          simp only [rrun] at hrun
          have hFu : ∀ j x, Fr [124, 125] mi (up m 124 j x) := fun j x n hn => by
            rw [up_ne m j x (fun e => hn (by simp [e])), hF n hn]
          have hwu : ∀ j x, ∀ k, k < 6 → up m 124 j x 125 k = wdR (mi 120) b r k := fun j x k hk => by rw [up_ne m j x (by decide)]; exact hw k hk
          have u124 : ∀ j x, up m 124 j x 124 = upd (m 124) j x := fun j x => by simp [up]
          refine ⟨fun c1 => ⟨fun c2 => ⟨fun c3 => ?_, fun c3 => ?_⟩, fun c2 => ?_⟩, fun c1 => ⟨fun c2 => ?_, fun c2 => ?_⟩⟩
          · unfold rst at hrun
            rw [if_pos c1, if_neg c2, if_neg c3] at hrun
            match s, hs, hsl, hrun with
            | y :: x :: t, hs, hsl, hrun =>
              simp only [Option.bind_some] at hrun
              simp only [List.length_cons] at hsl ⊢
              have a1 : nI (t.length + 1 + 1) + (-1) = nI (t.length + 1) := addm1 (by omega)
              have a2 : nI (t.length + 1) - 1 = nI t.length := sub1 (by omega) (by omega)
              rw [a1, a2, cl_nI (by omega), cl_nI (by omega), nI_1]
              have hi1 : vp_in (nI t.length) 900 := in_nI (by omega) (by decide)
              have hi2 : vp_in (nI (t.length + 1)) 900 := in_nI (by omega) (by decide)
              refine ⟨hi1, hi2, c_R_between c2 ⟨hi1, ?_⟩⟩
              have hx : m 124 t.length = x := hs.2.1
              have hy : m 124 (t.length + 1) = y := hs.1
              rw [hx, hy]
              have := ih (k + 1) (up m 124 t.length (opV c x y)) (opV c x y :: t) (by omega) (hFu _ _) (hwu _ _) (by rw [u124]; exact stkA_push hs.2.2) (by simp; omega) hrun
              exact this
            | [], hs, hsl, hrun => simp at hrun
            | [x], hs, hsl, hrun => simp at hrun
          · unfold rst at hrun
            rw [if_pos c1, if_neg c2, if_pos c3] at hrun
            match s, hs, hsl, hrun with
            | u :: y :: x :: t, hs, hsl, hrun =>
              simp only [Option.bind_some] at hrun
              simp only [List.length_cons] at hsl ⊢
              have a1 : nI (t.length + 1 + 1 + 1) + (-2) = nI (t.length + 1) := addm2 (by omega)
              have a2 : nI (t.length + 1) - 1 = nI t.length := sub1 (by omega) (by omega)
              rw [a1, a2, nI_1 (t.length + 1), cl_nI (by omega), cl_nI (by omega), cl_nI (by omega), nI_1]
              have hi1 : vp_in (nI t.length) 900 := in_nI (by omega) (by decide)
              have hi2 : vp_in (nI (t.length + 1)) 900 := in_nI (by omega) (by decide)
              have hi3 : vp_in (nI (t.length + 1 + 1)) 900 := in_nI (by omega) (by decide)
              have hx : m 124 t.length = x := hs.2.2.1
              have hy : m 124 (t.length + 1) = y := hs.2.1
              have hu : m 124 (t.length + 1 + 1) = u := hs.1
              rw [hx, hy, hu]
              refine ⟨hi1, fun c4 => ⟨hi3, hi1, ?_⟩, fun c4 => ⟨hi2, hi1, ?_⟩⟩
              · rw [if_neg c4] at hrun
                exact ih (k + 1) (up m 124 t.length u) (u :: t) (by omega) (hFu _ _) (hwu _ _) (by rw [u124]; exact stkA_push hs.2.2.2) (by simp; omega) hrun
              · rw [if_pos c4] at hrun
                exact ih (k + 1) (up m 124 t.length y) (y :: t) (by omega) (hFu _ _) (hwu _ _) (by rw [u124]; exact stkA_push hs.2.2.2) (by simp; omega) hrun
            | [], hs, hsl, hrun => simp at hrun
            | [x], hs, hsl, hrun => simp at hrun
            | [y, x], hs, hsl, hrun => simp at hrun
          · unfold rst at hrun
            rw [if_pos c1, if_pos c2] at hrun
            match s, hs, hsl, hrun with
            | x :: t, hs, hsl, hrun =>
              simp only [Option.bind_some] at hrun
              simp only [List.length_cons] at hsl ⊢
              have a2 : nI (t.length + 1) - 1 = nI t.length := sub1 (by omega) (by omega)
              rw [a2, cl_nI (by omega), nI_1]
              have hi1 : vp_in (nI t.length) 900 := in_nI (by omega) (by decide)
              have hx : m 124 t.length = x := hs.1
              rw [hx]
              exact ⟨hi1, hi1, ih (k + 1) (up m 124 t.length (1 - x)) ((1 - x) :: t) (by omega) (hFu _ _) (hwu _ _) (by rw [u124]; exact stkA_push hs.2) (by simp; omega) hrun⟩
            | [], hs, hsl, hrun => simp at hrun
          · unfold rst at hrun
            rw [if_neg c1, if_pos c2] at hrun
            have ci : 1000 ≤ c.toInt := by have := Int32.le_iff_toInt_le.mp c2; rwa [show (1000 : Int32).toInt = 1000 by decide] at this
            have ci2 : c.toInt < 3000 := by have := Int32.lt_iff_toInt_lt.mp (Int32.not_le.mp c1); rwa [show (3000 : Int32).toInt = 3000 by decide] at this
            have e6 : c - 1000 = nI (c.toInt - 1000).toNat := by
              apply Int32.toInt_inj.mp
              rw [nI_toInt (by omega), Int32.toInt_sub, show (1000 : Int32).toInt = 1000 by decide]
              rw [Int.bmod_eq_of_le (by omega) (by omega)]
              omega
            by_cases h6 : (c.toInt - 1000).toNat < 6
            · rw [if_pos h6] at hrun
              simp only [Option.bind_some] at hrun
              rw [e6, cl_nI (by omega), cl_nI (by omega), nI_1, nI_1]
              refine ⟨in_nI h6 (by decide), in_nI (by omega) (by decide), ?_⟩
              rw [hw _ h6]
              exact ih (k + 1) (up m 124 s.length (wdR (mi 120) b r (c.toInt - 1000).toNat)) (wdR (mi 120) b r (c.toInt - 1000).toNat :: s) (by omega) (hFu _ _) (hwu _ _) (by rw [u124]; exact stkA_push hs) (by simp; omega) hrun
            · rw [if_neg h6] at hrun
              simp at hrun
          · unfold rst at hrun
            rw [if_neg c1, if_neg c2] at hrun
            simp only [Option.bind_some] at hrun
            rw [cl_nI (by omega), nI_1, nI_1]
            refine ⟨in_nI (by omega) (by decide), ?_⟩
            exact ih (k + 1) (up m 124 s.length c) (c :: s) (by omega) (hFu _ _) (hwu _ _) (by rw [u124]; exact stkA_push hs) (by simp; omega) hrun
      exact key cs.length 0 m0 [] (by omega) hF0 hw0 trivial (Nat.zero_le _) (by rw [List.drop_zero]; exact hseg _ hW [])
theorem wdR_congr {g g' : Nat → Int32} (h : g' = g) (b r : Nat) : wdR g' b r = wdR g b r := by rw [h]
theorem c_R_laysLikes {l : Launch} {h : Nat} {mi : TMi} {ml : TMl} {z : Nat} {B R : Nat} {fL fT : (Nat → Int32) → Int32} {Q : TMi → TMl → Nat → Prop} (hB : mi 120 1 = nI B) (hB6 : B ≤ 6) (hR : mi 120 2 = nI R) (hR4 : R ≤ 4) (hW : ∀ b r, b < B → r < R → okW (wdR (mi 120) b r)) (hL : RLaw (mi 120) 0 fL) (hT : RLaw (mi 120) 1 fT)
    (hq : ∀ mi', Fr [124, 125, 126, 127] mi mi' → (∀ b r, b < B → r < R → mi' 126 (4 * b + r) = fL (wdR (mi 120) b r) ∧ mi' 127 (4 * b + r) = fT (wdR (mi 120) b r)) → Q mi' ml z) : CV l (h + 3) m_R_laysLikes [.ref 119] mi ml z Q := by
  refine t_R_laysLikes mi ml z ?_
  have inner : ∀ (b : Nat), b < B → (∀ m, Fr [124, 125, 126, 127] mi m → (∀ b' r, (b' < b + 1 ∧ r < R) → m 126 (4 * b' + r) = fL (wdR (mi 120) b' r) ∧ m 127 (4 * b' + r) = fT (wdR (mi 120) b' r)) → Ev l (h + 3) m_R_laysLikes 2 ([.ref 119, .int (nI (b + 1)), .retAddr 0], [], st m ml z) (qV Q)) →
      ∀ (n r : Nat) (m : TMi), r + n = R → Fr [124, 125, 126, 127] mi m → (∀ b' r', ((b' < b ∧ r' < R) ∨ (b' = b ∧ r' < r)) → m 126 (4 * b' + r') = fL (wdR (mi 120) b' r') ∧ m 127 (4 * b' + r') = fT (wdR (mi 120) b' r')) → Ev l (h + 3) m_R_laysLikes 14 ([.ref 119, .int (nI b), .int (nI r)], [], st m ml z) (qV Q) := by
    intro b hb hnext n
    induction n with
    | zero =>
      intro r m hr hF hm
      have e : r = R := by omega
      subst e
      refine t_R_laysLikes_14 m ml z _ _ ⟨fun _ => ?_, fun c => ?_⟩
      · rw [nI_1]
        exact hnext m hF (fun b' r' h => hm b' r' (by omega))
      · rw [hF 120 (by simp), hR] at c
        exact absurd (nI_le (Nat.le_refl _) (by omega)) c
    | succ n ih =>
      intro r m hr hF hm
      have e120 : m 120 = mi 120 := hF 120 (by simp)
      refine t_R_laysLikes_14 m ml z _ _ ⟨fun c => ?_, fun _ => ?_⟩
      · rw [e120, hR] at c
        exact absurd c (nI_ge (by omega) (by omega))
      · refine c_R_reckons (law := 0) (f := fL) (by decide) (by omega) (by omega) (by rw [e120]; exact hW b r hb (by omega)) (by rw [e120]; exact hL) (fun m1 hF1 => ⟨ix_in (by omega) (by omega), ?_⟩)
        rw [ix_cl (show b < 6 by omega) (show r < 4 by omega), e120]
        have hF1' : Fr [124, 125, 126, 127] mi m1 := fun n hn => by rw [hF1 n (fun q => hn (by simp at q ⊢; omega)), hF n hn]
        generalize hm2 : up m1 126 (4 * b + r) (fL (wdR (mi 120) b r)) = m2
        have hF2 : Fr [124, 125, 126, 127] mi m2 := fun n hn => by rw [← hm2, up_ne m1 _ _ (fun e => hn (by simp [e])), hF1' n hn]
        have e120' : m2 120 = mi 120 := hF2 120 (by simp)
        refine c_R_reckons (law := 1) (f := fT) (by decide) (by omega) (by omega) (by rw [e120']; exact hW b r hb (by omega)) (by rw [e120']; exact hT) (fun m3 hF3 => ⟨ix_in (by omega) (by omega), ?_⟩)
        rw [e120', nI_1]
        refine ih (r + 1) _ (by omega) (fun n hn => ?_) (fun b' r' hbr => ?_)
        · rw [up_ne m3 _ _ (fun e => hn (by simp [e])), hF3 n (fun q => hn (by simp at q ⊢; omega)), hF2 n hn]
        · have a1 : m3 126 = m2 126 := hF3 126 (by simp)
          have a2 : m3 127 = m 127 := by rw [hF3 127 (by simp), ← hm2, up_ne m1 _ _ (by decide), hF1 127 (by simp)]
          have a3 : m1 126 = m 126 := hF1 126 (by simp)
          by_cases hbb : b' = b ∧ r' = r
          · obtain ⟨rfl, rfl⟩ := hbb
            refine ⟨?_, up_at _ _ _ _⟩
            rw [up_ne m3 _ _ (by decide), a1, ← hm2, up_at]
          · have hne : 4 * b' + r' ≠ 4 * b + r := by
              have : r' < 4 ∧ r < 4 := by omega
              omega
            have := hm b' r' (by omega)
            rw [up_nk m3 _ _ hne, a2, up_ne m3 _ _ (by decide), a1, ← hm2, up_nk m1 _ _ hne, a3]
            exact this
  have outer : ∀ (n b : Nat) (m : TMi), b + n = B → Fr [124, 125, 126, 127] mi m → (∀ b' r, (b' < b ∧ r < R) → m 126 (4 * b' + r) = fL (wdR (mi 120) b' r) ∧ m 127 (4 * b' + r) = fT (wdR (mi 120) b' r)) → Ev l (h + 3) m_R_laysLikes 2 ([.ref 119, .int (nI b), .retAddr 0], [], st m ml z) (qV Q) := by
    intro n
    induction n with
    | zero =>
      intro b m hb hF hm
      have e : b = B := by omega
      subst e
      refine t_R_laysLikes_2 m ml z _ ⟨fun _ => hq m hF (fun b' r h1 h2 => hm b' r ⟨h1, h2⟩), fun c => ?_⟩
      rw [hF 120 (by simp), hB] at c
      exact absurd (nI_le (Nat.le_refl _) (by omega)) c
    | succ n ih =>
      intro b m hb hF hm
      refine t_R_laysLikes_2 m ml z _ ⟨fun c => ?_, fun _ => ?_⟩
      · rw [hF 120 (by simp), hB] at c
        exact absurd c (nI_ge (by omega) (by omega))
      · exact inner b (by omega) (fun m' hF' hm' => ih (b + 1) m' (by omega) hF' hm') R 0 m (by omega) hF (fun b' r' h => hm b' r' (by omega))
  exact outer B 0 mi (by omega) (Fr.refl _ _) (fun b' r h => absurd h.1 (Nat.not_lt_zero _))
