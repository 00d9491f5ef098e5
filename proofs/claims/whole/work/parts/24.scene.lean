/-! ===== scenes of the class: what is liked, sets ===== -/
def bcE (x : Int32) : Int32 :=
  let x1 := x - ((a_ushr x 1) &&& 1431655765)
  let x2 := (x1 &&& 858993459) + ((a_ushr x1 2) &&& 858993459)
  let x3 := (x2 + (a_ushr x2 4)) &&& 252645135
  let x4 := x3 + (a_ushr x3 8)
  (x4 + (a_ushr x4 16)) &&& 63
theorem pc6 : ∀ m, m < 64 → bcE (nI m) = nI (pop6 m) := by decide +kernel
theorem c_bitCount {l : Launch} {h : Nat} {mi : TMi} {ml : TMl} {z : Nat} {m : Nat} {Q : Int32 → TMi → TMl → Nat → Prop} (hm : m < 64) (hq : Q (nI (pop6 m)) mi ml z) : CI l (h + 1) m_JI_bitCount [.int (nI m)] mi ml z Q := by
  refine t_JI_bitCount mi ml z _ ?_
  show Q (bcE (nI m)) mi ml z
  rw [pc6 m hm]
  exact hq
theorem mul4 (b r : Nat) : nI b * 4 + nI r = nI (4 * b + r) := by
  rw [show (4 : Int32) = nI 4 from rfl, pk_mul, nI_add, Nat.mul_comm]
theorem tb_ext : ∀ {n m m' : Nat}, m < 2 ^ n → m' < 2 ^ n → (∀ r, r < n → tb m r = tb m' r) → m = m'
  | 0, m, m', h1, h2, _ => by simp at h1 h2; omega
  | n + 1, m, m', h1, h2, h => by
    rw [Nat.pow_succ] at h1 h2
    have e0 := h 0 (Nat.succ_pos _)
    have hd : m / 2 = m' / 2 := by
      refine tb_ext (n := n) (by omega) (by omega) (fun r hr => ?_)
      have := h (r + 1) (by omega)
      unfold tb at this ⊢
      rw [Nat.pow_succ, Nat.mul_comm, ← Nat.div_div_eq_div_mul, ← Nat.div_div_eq_div_mul] at this
      exact this
    unfold tb at e0
    simp only [Nat.pow_zero, Nat.div_one] at e0
    have a1 : m % 2 < 2 := Nat.mod_lt _ (by decide)
    have a2 : m' % 2 < 2 := Nat.mod_lt _ (by decide)
    have : m % 2 = m' % 2 := by
      rcases (show m % 2 = 0 ∨ m % 2 = 1 by omega) with q | q <;> rcases (show m' % 2 = 0 ∨ m' % 2 = 1 by omega) with q2 | q2 <;> rw [q, q2] at e0 ⊢ <;> simp at e0
    omega
theorem enc_of {p : Nat → Bool} {n m : Nat} (hm : m < 2 ^ n) (h : ∀ r, r < n → tb m r = p r) : m = enc p n :=
  tb_ext hm (enc_lt p n) (fun r hr => by rw [h r hr, enc_tb p n r hr])
/-- what a scene holds of how much is liked, for the pairs of P -/
def SLp (mi : TMi) (lk tk bo ro mu B R : Nat) (P : Nat → Nat → Prop) (L T : Nat → Nat → Int) : Prop :=
  (∀ b r, b < B → r < R → P b r → (mi lk (4 * b + r)).toInt = L b r ∧ (mi tk (4 * b + r)).toInt = T b r ∧ (mi bo (4 * b + r)).toInt = pbO L b r ∧ (mi ro (4 * b + r)).toInt = prO T b r) ∧
  ∀ b, b < B → ∃ m, mi mu b = nI m ∧ m < 2 ^ R ∧ ∀ r, r < R → P b r → tb m r = wdO L T b r
def bdM (B R : Nat) (L : Nat → Nat → Int) : Prop := ∀ b r, b < B → r < R → -1000000 ≤ L b r ∧ L b r ≤ 1000000
abbrev allP : Nat → Nat → Prop := fun _ _ => True
theorem SLp.mu {mi : TMi} {lk tk bo ro mu B R : Nat} {L T : Nat → Nat → Int} (h : SLp mi lk tk bo ro mu B R allP L T) {b : Nat} (hb : b < B) : mi mu b = nI (enc (fun r => wdO L T b r) R) := by
  obtain ⟨m, h1, h2, h3⟩ := h.2 b hb
  rw [h1, enc_of h2 (fun r hr => h3 r hr trivial)]
theorem SLp.fr {mi mi' : TMi} {lk tk bo ro mu B R : Nat} {P : Nat → Nat → Prop} {L T : Nat → Nat → Int} (h : SLp mi lk tk bo ro mu B R P L T) (e1 : mi' lk = mi lk) (e2 : mi' tk = mi tk) (e3 : mi' bo = mi bo) (e4 : mi' ro = mi ro) (e5 : mi' mu = mi mu) : SLp mi' lk tk bo ro mu B R P L T := by
  unfold SLp
  rw [e1, e2, e3, e4, e5]
  exact h
theorem setb : ∀ m, m < 16 → ∀ r, r < 4 → nI m ||| ((1 : Int32) <<< (nI r &&& 31)) = nI (if tb m r = true then m else m + 2 ^ r) := by decide +kernel
theorem clrb : ∀ m, m < 16 → ∀ r, r < 4 → nI m &&& (((1 : Int32) <<< (nI r &&& 31)) ^^^ (-1)) = nI (if tb m r = true then m - 2 ^ r else m) := by decide +kernel
theorem setb_tb : ∀ m, m < 16 → ∀ r, r < 4 → ∀ r', r' < 4 → tb (if tb m r = true then m else m + 2 ^ r) r' = (decide (r' = r) || tb m r') := by decide +kernel
theorem clrb_tb : ∀ m, m < 16 → ∀ r, r < 4 → ∀ r', r' < 4 → tb (if tb m r = true then m - 2 ^ r else m) r' = (!decide (r' = r) && tb m r') := by decide +kernel
theorem setb_lt : ∀ R, R < 5 → ∀ m, m < 2 ^ R → ∀ r, r < R → (if tb m r = true then m else m + 2 ^ r) < 2 ^ R := by decide +kernel
theorem clrb_lt : ∀ R, R < 5 → ∀ m, m < 2 ^ R → ∀ r, r < R → (if tb m r = true then m - 2 ^ r else m) < 2 ^ R := by decide +kernel
theorem sr_tbR : ∀ m, m < 16 → ∀ r, r < 4 → (((nI m >>> (nI r &&& 31)) &&& 1 = 0) = (tb m r = false)) := by
  have : ∀ m, m < 16 → ∀ r, r < 4 → decide ((nI m >>> (nI r &&& 31)) &&& 1 = 0) = !tb m r := by decide +kernel
  intro m hm r hr
  have h := this m hm r hr
  cases ht : tb m r
  · rw [ht] at h; simpa using h
  · rw [ht] at h; simpa using h
theorem pow16 {R : Nat} (hR : R ≤ 4) : 2 ^ R ≤ 16 := by
  have : ∀ R, R < 5 → 2 ^ R ≤ 16 := by decide
  exact this R (by omega)
theorem lin4 {x : Int32} (hx : -1000000 ≤ x.toInt ∧ x.toInt ≤ 1000000) {r : Nat} (hr : r < 8) : (x * 4 - nI r).toInt = 4 * x.toInt - r := by
  rw [Int32.toInt_sub, Int32.toInt_mul, nI_toInt (by omega), show (4 : Int32).toInt = 4 by decide]
  rw [Int.bmod_eq_of_le (n := x.toInt * 4) (by omega) (by omega), Int.bmod_eq_of_le (by omega) (by omega)]
  omega
theorem lin6 {x : Int32} (hx : -1000000 ≤ x.toInt ∧ x.toInt ≤ 1000000) {r : Nat} (hr : r < 8) : (x * 6 - nI r).toInt = 6 * x.toInt - r := by
  rw [Int32.toInt_sub, Int32.toInt_mul, nI_toInt (by omega), show (6 : Int32).toInt = 6 by decide]
  rw [Int.bmod_eq_of_le (n := x.toInt * 6) (by omega) (by omega), Int.bmod_eq_of_le (by omega) (by omega)]
  omega
theorem le0 (x : Int32) : x ≤ 0 ↔ ¬ 0 < x.toInt := by rw [Int32.le_iff_toInt_le, Int32.toInt_zero]; omega
theorem c_Sc_bothWould_17 {l : Launch} {h : Nat} {mi : TMi} {ml : TMl} {z : Nat} {b r B R : Nat} {L T : Nat → Nat → Int} {Q : Int32 → TMi → TMl → Nat → Prop} (hB6 : B ≤ 6) (hR4 : R ≤ 4) (hs : SLp mi 28 29 30 31 32 B R allP L T) (hb : b < B) (hr : r < R) (hq : Q (bI (wdO L T b r)) mi ml z) : CI l (h + 1) m_Sc_bothWould [.ref 17, .int (nI b), .int (nI r)] mi ml z Q := by
  refine t_Sc_bothWould_17 mi ml z _ _ ⟨in_nI (by omega) (by decide), ?_⟩
  rw [cl_nI (by omega), hs.mu hb]
  have hm : enc (fun r => wdO L T b r) R < 16 := Nat.lt_of_lt_of_le (enc_lt _ R) (pow16 hR4)
  rw [sr_tbR _ hm r (by omega), enc_tb _ R r hr]
  refine ⟨fun c => ?_, fun c => ?_⟩
  · rw [c] at hq; exact hq
  · rw [show wdO L T b r = true by simpa using c] at hq; exact hq
theorem c_Sc_likesBetter_17 {l : Launch} {h : Nat} {mi : TMi} {ml : TMl} {z : Nat} {b r o B R : Nat} {L T : Nat → Nat → Int} {Q : Int32 → TMi → TMl → Nat → Prop} (hB6 : B ≤ 6) (hR4 : R ≤ 4) (hs : SLp mi 28 29 30 31 32 B R allP L T) (hb : b < B) (hr : r < R) (ho : o < R) (hq : Q (bI (decide (pbO L b o < pbO L b r))) mi ml z) : CI l (h + 2) m_Sc_likesBetter [.ref 17, .int (nI b), .int (nI r), .int (nI o)] mi ml z Q := by
  refine t_Sc_likesBetter_17 mi ml z _ _ _ (t_B_pair _ _ _ _ _ ?_)
  rw [mul4]
  refine ⟨in_nI (by omega) (by decide), t_B_pair _ _ _ _ _ ?_⟩
  rw [mul4, cl_nI (by omega), cl_nI (by omega)]
  refine ⟨in_nI (by omega) (by decide), ?_⟩
  rw [Int32.le_iff_toInt_le, (hs.1 b r hb hr trivial).2.2.1, (hs.1 b o hb ho trivial).2.2.1]
  refine ⟨fun c => ?_, fun c => ?_⟩
  · rw [show decide (pbO L b o < pbO L b r) = false from decide_eq_false (by omega)] at hq; exact hq
  · rw [show decide (pbO L b o < pbO L b r) = true from decide_eq_true (by omega)] at hq; exact hq
theorem c_Sc_takesBetter_17 {l : Launch} {h : Nat} {mi : TMi} {ml : TMl} {z : Nat} {b r o B R : Nat} {L T : Nat → Nat → Int} {Q : Int32 → TMi → TMl → Nat → Prop} (hB6 : B ≤ 6) (hR4 : R ≤ 4) (hs : SLp mi 28 29 30 31 32 B R allP L T) (hb : b < B) (hr : r < R) (ho : o < B) (hq : Q (bI (decide (prO T o r < prO T b r))) mi ml z) : CI l (h + 2) m_Sc_takesBetter [.ref 17, .int (nI r), .int (nI b), .int (nI o)] mi ml z Q := by
  refine t_Sc_takesBetter_17 mi ml z _ _ _ (t_B_pair _ _ _ _ _ ?_)
  rw [mul4]
  refine ⟨in_nI (by omega) (by decide), t_B_pair _ _ _ _ _ ?_⟩
  rw [mul4, cl_nI (by omega), cl_nI (by omega)]
  refine ⟨in_nI (by omega) (by decide), ?_⟩
  rw [Int32.le_iff_toInt_le, (hs.1 b r hb hr trivial).2.2.2, (hs.1 o r ho hr trivial).2.2.2]
  refine ⟨fun c => ?_, fun c => ?_⟩
  · rw [show decide (prO T o r < prO T b r) = false from decide_eq_false (by omega)] at hq; exact hq
  · rw [show decide (prO T o r < prO T b r) = true from decide_eq_true (by omega)] at hq; exact hq
theorem c_Sc_becksIn_17 {l : Launch} {h : Nat} {mi : TMi} {ml : TMl} {z : Nat} {w lw : Nat} {r : Int32} {B : Nat} {Q : Int32 → TMi → TMl → Nat → Prop} (hw : SH[w]? = some (.inr (0, lw))) (hlw : 6 ≤ lw ∧ lw < 1000) (hB : mi 18 0 = nI B) (hB6 : B ≤ 6) (hq : Q (nI (enc (fun b => mi w b == r) B)) mi ml z) : CI l (h + 1) m_Sc_becksIn [.ref 17, .ref w, .int r] mi ml z Q := by
  refine t_Sc_becksIn_17 mi ml z w lw _ hw ?_
  have key : ∀ k i, i + k = B → Ev l (h + 1) m_Sc_becksIn 5 ([.ref 17, .ref w, .int r, .int (nI (enc (fun b => mi w b == r) i)), .int (nI i)], [], st mi ml z) (qI Q) := by
    intro k
    induction k with
    | zero =>
      intro i hi
      have : i = B := by omega
      subst this
      exact t_Sc_becksIn_17_5 mi ml z w lw _ _ _ hw ⟨fun _ => hq, fun c => absurd (by rw [hB]; exact nI_le (Nat.le_refl _) (by omega)) c⟩
    | succ k ih =>
      intro i hi
      refine t_Sc_becksIn_17_5 mi ml z w lw _ _ _ hw ⟨fun c => ?_, fun _ => ⟨in_nI (k := i) (by omega) (by omega), fun c => ?_, fun c => ?_⟩⟩
      · rw [hB] at c
        exact absurd c (nI_ge (by omega) (by omega))
      · rw [cl_nI (by omega)] at c
        rw [nI_1, enc_skip (by simpa using c)]
        exact ih (i + 1) (by omega)
      · rw [cl_nI (by omega)] at c
        rw [nI_1, enc_step (by omega) (by simpa using c)]
        exact ih (i + 1) (by omega)
  exact key B 0 (by omega)
theorem c_Sc_leastLiked_17 {l : Launch} {h : Nat} {mi : TMi} {ml : TMl} {z : Nat} {r m B R : Nat} {L T : Nat → Nat → Int} {Q : Int32 → TMi → TMl → Nat → Prop} (hB : mi 18 0 = nI B) (hB6 : B ≤ 6) (hR4 : R ≤ 4) (hs : SLp mi 28 29 30 31 32 B R allP L T) (hr : r < R) (hm : m < 64) (hq : Q (oI (lst (fun b => tb m b) (fun b => prO T b r) B)) mi ml z) : CI l (h + 1) m_Sc_leastLiked [.ref 17, .int (nI r), .int (nI m)] mi ml z Q := by
  refine t_Sc_leastLiked_17 mi ml z _ _ ?_
  have key : ∀ k i v4, i + k = B → (∀ q, lst (fun b => tb m b) (fun b => prO T b r) i = some q → v4 = mi 31 (4 * q + r)) → Ev l (h + 1) m_Sc_leastLiked 11 ([.ref 17, .retAddr 0, .int (nI m), .int (oI (lst (fun b => tb m b) (fun b => prO T b r) i)), .int v4, .int (nI (r + 4 * i)), .int (nI i)], [], st mi ml z) (qI Q) := by
    intro k
    induction k with
    | zero =>
      intro i v4 hi h4
      have : i = B := by omega
      subst this
      exact t_Sc_leastLiked_17_11 mi ml z _ _ _ _ _ ⟨fun _ => hq, fun c => absurd (by rw [hB]; exact nI_le (Nat.le_refl _) (by omega)) c⟩
    | succ k ih =>
      intro i v4 hi h4
      have e4 : nI (r + 4 * i) + 4 = nI (r + 4 * (i + 1)) := by rw [show (4 : Int32) = nI 4 from rfl, nI_add]; congr 1
      have ei : (nI (r + 4 * i)).toNatClampNeg = 4 * i + r := by rw [nI_clamp (by omega)]; omega
      have hin : vp_in (nI (r + 4 * i)) 24 := in_nI (by omega) (by decide)
      have hpi := (hs.1 i r (by omega) hr trivial).2.2.2
      refine t_Sc_leastLiked_17_11 mi ml z _ _ _ _ _ ⟨fun c => ?_, fun _ => ⟨fun c => ?_, fun c => ⟨fun c2 => ⟨hin, ?_⟩, fun c2 => ⟨hin, fun c3 => ?_, fun c3 => ⟨hin, ?_⟩⟩⟩⟩⟩
      · rw [hB] at c
        exact absurd c (nI_ge (by omega) (by omega))
      · rw [sr_tb hm (by omega)] at c
        have e : lst (fun b => tb m b) (fun b => prO T b r) (i + 1) = lst (fun b => tb m b) (fun b => prO T b r) i := by simp [lst, c]
        have := ih (i + 1) v4 (by omega) (fun q hq' => h4 q (by rw [← e]; exact hq'))
        rw [e] at this
        rw [nI_1, e4]
        exact this
      · rw [sr_tb hm (by omega)] at c
        have c' : tb m i = true := by simpa using c
        cases e : lst (fun b => tb m b) (fun b => prO T b r) i with
        | some q => rw [e] at c2; exact absurd c2 (neg1_ne (by have := (lst_lt e).1; omega))
        | none =>
          have e2 : lst (fun b => tb m b) (fun b => prO T b r) (i + 1) = some i := by simp [lst, c', e]
          have := ih (i + 1) (mi 31 (4 * i + r)) (by omega) (fun q hq' => by rw [e2] at hq'; cases hq'; rfl)
          rw [e2] at this
          rw [nI_1, e4, ei]
          exact this
      · rw [sr_tb hm (by omega)] at c
        have c' : tb m i = true := by simpa using c
        cases e : lst (fun b => tb m b) (fun b => prO T b r) i with
        | none => rw [e] at c2; exact absurd rfl c2
        | some q =>
          have hq6 := (lst_lt e).1
          have hv := h4 q e
          rw [hv, ei, Int32.le_iff_toInt_le, hpi, (hs.1 q r (by omega) hr trivial).2.2.2] at c3
          have e2 : lst (fun b => tb m b) (fun b => prO T b r) (i + 1) = some q := by simp only [lst, c', if_true, e]; rw [if_neg (by omega)]
          have := ih (i + 1) v4 (by omega) (fun q' hq' => by rw [e2] at hq'; cases hq'; exact hv)
          rw [e2] at this
          rw [nI_1, e4]
          exact this
      · rw [sr_tb hm (by omega)] at c
        have c' : tb m i = true := by simpa using c
        cases e : lst (fun b => tb m b) (fun b => prO T b r) i with
        | none => rw [e] at c2; exact absurd rfl c2
        | some q =>
          have hq6 := (lst_lt e).1
          have hv := h4 q e
          rw [hv, ei, Int32.le_iff_toInt_le, hpi, (hs.1 q r (by omega) hr trivial).2.2.2] at c3
          have e2 : lst (fun b => tb m b) (fun b => prO T b r) (i + 1) = some i := by simp only [lst, c', if_true, e]; rw [if_pos (by omega)]
          have := ih (i + 1) (mi 31 (4 * i + r)) (by omega) (fun q' hq' => by rw [e2] at hq'; cases hq'; rfl)
          rw [e2] at this
          rw [nI_1, e4, ei]
          exact this
  have := key B 0 0 (by omega) (fun q hq' => by simp [lst] at hq')
  exact this
theorem c_Sc_setLiking_17 {l : Launch} {h : Nat} {mi : TMi} {ml : TMl} {z : Nat} {b r B R : Nat} {x y : Int32} {P : Nat → Nat → Prop} {L T : Nat → Nat → Int} {Q : TMi → TMl → Nat → Prop} (hB6 : B ≤ 6) (hR4 : R ≤ 4) (hs : SLp mi 28 29 30 31 32 B R P L T) (hb : b < B) (hr : r < R) (hx : x.toInt = L b r) (hy : y.toInt = T b r) (hbx : -1000000 ≤ L b r ∧ L b r ≤ 1000000) (hby : -1000000 ≤ T b r ∧ T b r ≤ 1000000)
    (hq : ∀ mi', Fr [28, 29, 30, 31, 32] mi mi' → SLp mi' 28 29 30 31 32 B R (fun b' r' => P b' r' ∨ (b' = b ∧ r' = r)) L T → Q mi' ml z) : CV l (h + 2) m_Sc_setLiking [.ref 17, .int (nI b), .int (nI r), .int x, .int y] mi ml z Q := by
  refine t_Sc_setLiking_17 mi ml z _ _ _ _ (t_B_pair _ _ _ _ _ ?_)
  rw [mul4, cl_nI (by omega), cl_nI (by omega)]
  have hin : vp_in (nI (4 * b + r)) 24 := in_nI (by omega) (by decide)
  have hinb : vp_in (nI b) 6 := in_nI (by omega) (by decide)
  obtain ⟨m, hm1, hm2, hm3⟩ := hs.2 b hb
  have hm16 : m < 16 := Nat.lt_of_lt_of_le hm2 (pow16 hR4)
  have em : (up (up (up (up mi 28 (4 * b + r) x) 29 (4 * b + r) y) 30 (4 * b + r) (x * 4 - nI r)) 31 (4 * b + r) (y * 6 - nI b)) 32 b = nI m := by
    simp only [up_eq]
    simp [hm1]
  rw [em]
  have fin : ∀ m' : Nat, m' < 2 ^ R → (∀ r', r' < R → (P b r' ∨ r' = r) → tb m' r' = wdO L T b r') → Q (up (up (up (up (up mi 28 (4 * b + r) x) 29 (4 * b + r) y) 30 (4 * b + r) (x * 4 - nI r)) 31 (4 * b + r) (y * 6 - nI b)) 32 b (nI m')) ml z := by
    intro m' h1 h2
    refine hq _ (fun n hn => ?_) ⟨fun b' r' hb' hr' hP => ?_, fun b' hb' => ?_⟩
    · simp only [List.mem_cons, List.not_mem_nil, or_false, not_or] at hn
      funext k
      simp [up_eq, hn]
    · by_cases e : b' = b ∧ r' = r
      · obtain ⟨rfl, rfl⟩ := e
        refine ⟨?_, ?_, ?_, ?_⟩
        · rw [up_ne _ _ _ (by decide), up_ne _ _ _ (by decide), up_ne _ _ _ (by decide), up_ne _ _ _ (by decide), up_at, hx]
        · rw [up_ne _ _ _ (by decide), up_ne _ _ _ (by decide), up_ne _ _ _ (by decide), up_at, hy]
        · rw [up_ne _ _ _ (by decide), up_ne _ _ _ (by decide), up_at, lin4 (by rw [hx]; exact hbx) (by omega), hx]
          rfl
        · rw [up_ne _ _ _ (by decide), up_at, lin6 (by rw [hy]; exact hby) (by omega), hy]
          rfl
      · have hne : 4 * b' + r' ≠ 4 * b + r := by omega
        have hP' : P b' r' := by rcases hP with h | h; exact h; exact absurd h e
        have := hs.1 b' r' hb' hr' hP'
        simp only [up_eq, hne]
        simpa using this
    · by_cases e : b' = b
      · subst e
        refine ⟨m', by simp [up_eq], h1, fun r' hr' hP => h2 r' hr' ?_⟩
        rcases hP with h | h
        · exact Or.inl h
        · exact Or.inr h.2
      · obtain ⟨m2, g1, g2, g3⟩ := hs.2 b' hb'
        refine ⟨m2, by simp [up_eq, e, g1], g2, fun r' hr' hP => g3 r' hr' ?_⟩
        rcases hP with h | h
        · exact h
        · exact absurd h.1 e
  have clr : wdO L T b r = false → Q (up (up (up (up (up mi 28 (4 * b + r) x) 29 (4 * b + r) y) 30 (4 * b + r) (x * 4 - nI r)) 31 (4 * b + r) (y * 6 - nI b)) 32 b (nI m &&& (((1 : Int32) <<< (nI r &&& 31)) ^^^ (-1)))) ml z := fun hw => by
    rw [clrb m hm16 r (by omega)]
    refine fin _ (clrb_lt R (by omega) m hm2 r hr) (fun r' hr' hP => ?_)
    rw [clrb_tb m hm16 r (by omega) r' (by omega)]
    by_cases e : r' = r
    · subst e; rw [hw]; simp
    · rcases hP with h | h
      · rw [hm3 r' hr' h]; simp [e]
      · exact absurd h e
  refine ⟨hin, hin, hin, hin, fun c => ⟨hinb, hinb, clr ?_⟩, fun c => ⟨fun c2 => ⟨hinb, hinb, clr ?_⟩, fun c2 => ⟨hinb, hinb, ?_⟩⟩⟩
  · rw [le0, hx] at c
    simp [wdO, c]
  · rw [le0, hy] at c2
    simp [wdO, c2]
  · rw [le0, Decidable.not_not] at c c2
    rw [hx] at c
    rw [hy] at c2
    rw [setb m hm16 r (by omega)]
    refine fin _ (setb_lt R (by omega) m hm2 r hr) (fun r' hr' hP => ?_)
    rw [setb_tb m hm16 r (by omega) r' (by omega)]
    by_cases e : r' = r
    · subst e; simp [wdO, c, c2]
    · rcases hP with h | h
      · rw [hm3 r' hr' h]; simp [e]
      · exact absurd h e
theorem c_Sc_bothWould_33 {l : Launch} {h : Nat} {mi : TMi} {ml : TMl} {z : Nat} {b r B R : Nat} {L T : Nat → Nat → Int} {Q : Int32 → TMi → TMl → Nat → Prop} (hB6 : B ≤ 6) (hR4 : R ≤ 4) (hs : SLp mi 35 36 37 38 39 B R allP L T) (hb : b < B) (hr : r < R) (hq : Q (bI (wdO L T b r)) mi ml z) : CI l (h + 1) m_Sc_bothWould [.ref 33, .int (nI b), .int (nI r)] mi ml z Q := by
  refine t_Sc_bothWould_33 mi ml z _ _ ⟨in_nI (by omega) (by decide), ?_⟩
  rw [cl_nI (by omega), hs.mu hb]
  have hm : enc (fun r => wdO L T b r) R < 16 := Nat.lt_of_lt_of_le (enc_lt _ R) (pow16 hR4)
  rw [sr_tbR _ hm r (by omega), enc_tb _ R r hr]
  refine ⟨fun c => ?_, fun c => ?_⟩
  · rw [c] at hq; exact hq
  · rw [show wdO L T b r = true by simpa using c] at hq; exact hq
theorem c_Sc_likesBetter_33 {l : Launch} {h : Nat} {mi : TMi} {ml : TMl} {z : Nat} {b r o B R : Nat} {L T : Nat → Nat → Int} {Q : Int32 → TMi → TMl → Nat → Prop} (hB6 : B ≤ 6) (hR4 : R ≤ 4) (hs : SLp mi 35 36 37 38 39 B R allP L T) (hb : b < B) (hr : r < R) (ho : o < R) (hq : Q (bI (decide (pbO L b o < pbO L b r))) mi ml z) : CI l (h + 2) m_Sc_likesBetter [.ref 33, .int (nI b), .int (nI r), .int (nI o)] mi ml z Q := by
  refine t_Sc_likesBetter_33 mi ml z _ _ _ (t_B_pair _ _ _ _ _ ?_)
  rw [mul4]
  refine ⟨in_nI (by omega) (by decide), t_B_pair _ _ _ _ _ ?_⟩
  rw [mul4, cl_nI (by omega), cl_nI (by omega)]
  refine ⟨in_nI (by omega) (by decide), ?_⟩
  rw [Int32.le_iff_toInt_le, (hs.1 b r hb hr trivial).2.2.1, (hs.1 b o hb ho trivial).2.2.1]
  refine ⟨fun c => ?_, fun c => ?_⟩
  · rw [show decide (pbO L b o < pbO L b r) = false from decide_eq_false (by omega)] at hq; exact hq
  · rw [show decide (pbO L b o < pbO L b r) = true from decide_eq_true (by omega)] at hq; exact hq
theorem c_Sc_takesBetter_33 {l : Launch} {h : Nat} {mi : TMi} {ml : TMl} {z : Nat} {b r o B R : Nat} {L T : Nat → Nat → Int} {Q : Int32 → TMi → TMl → Nat → Prop} (hB6 : B ≤ 6) (hR4 : R ≤ 4) (hs : SLp mi 35 36 37 38 39 B R allP L T) (hb : b < B) (hr : r < R) (ho : o < B) (hq : Q (bI (decide (prO T o r < prO T b r))) mi ml z) : CI l (h + 2) m_Sc_takesBetter [.ref 33, .int (nI r), .int (nI b), .int (nI o)] mi ml z Q := by
  refine t_Sc_takesBetter_33 mi ml z _ _ _ (t_B_pair _ _ _ _ _ ?_)
  rw [mul4]
  refine ⟨in_nI (by omega) (by decide), t_B_pair _ _ _ _ _ ?_⟩
  rw [mul4, cl_nI (by omega), cl_nI (by omega)]
  refine ⟨in_nI (by omega) (by decide), ?_⟩
  rw [Int32.le_iff_toInt_le, (hs.1 b r hb hr trivial).2.2.2, (hs.1 o r ho hr trivial).2.2.2]
  refine ⟨fun c => ?_, fun c => ?_⟩
  · rw [show decide (prO T o r < prO T b r) = false from decide_eq_false (by omega)] at hq; exact hq
  · rw [show decide (prO T o r < prO T b r) = true from decide_eq_true (by omega)] at hq; exact hq
theorem c_Sc_becksIn_33 {l : Launch} {h : Nat} {mi : TMi} {ml : TMl} {z : Nat} {w lw : Nat} {r : Int32} {B : Nat} {Q : Int32 → TMi → TMl → Nat → Prop} (hw : SH[w]? = some (.inr (0, lw))) (hlw : 6 ≤ lw ∧ lw < 1000) (hB : mi 18 0 = nI B) (hB6 : B ≤ 6) (hq : Q (nI (enc (fun b => mi w b == r) B)) mi ml z) : CI l (h + 1) m_Sc_becksIn [.ref 33, .ref w, .int r] mi ml z Q := by
  refine t_Sc_becksIn_33 mi ml z w lw _ hw ?_
  have key : ∀ k i, i + k = B → Ev l (h + 1) m_Sc_becksIn 5 ([.ref 33, .ref w, .int r, .int (nI (enc (fun b => mi w b == r) i)), .int (nI i)], [], st mi ml z) (qI Q) := by
    intro k
    induction k with
    | zero =>
      intro i hi
      have : i = B := by omega
      subst this
      exact t_Sc_becksIn_33_5 mi ml z w lw _ _ _ hw ⟨fun _ => hq, fun c => absurd (by rw [hB]; exact nI_le (Nat.le_refl _) (by omega)) c⟩
    | succ k ih =>
      intro i hi
      refine t_Sc_becksIn_33_5 mi ml z w lw _ _ _ hw ⟨fun c => ?_, fun _ => ⟨in_nI (k := i) (by omega) (by omega), fun c => ?_, fun c => ?_⟩⟩
      · rw [hB] at c
        exact absurd c (nI_ge (by omega) (by omega))
      · rw [cl_nI (by omega)] at c
        rw [nI_1, enc_skip (by simpa using c)]
        exact ih (i + 1) (by omega)
      · rw [cl_nI (by omega)] at c
        rw [nI_1, enc_step (by omega) (by simpa using c)]
        exact ih (i + 1) (by omega)
  exact key B 0 (by omega)
theorem c_Sc_leastLiked_33 {l : Launch} {h : Nat} {mi : TMi} {ml : TMl} {z : Nat} {r m B R : Nat} {L T : Nat → Nat → Int} {Q : Int32 → TMi → TMl → Nat → Prop} (hB : mi 18 0 = nI B) (hB6 : B ≤ 6) (hR4 : R ≤ 4) (hs : SLp mi 35 36 37 38 39 B R allP L T) (hr : r < R) (hm : m < 64) (hq : Q (oI (lst (fun b => tb m b) (fun b => prO T b r) B)) mi ml z) : CI l (h + 1) m_Sc_leastLiked [.ref 33, .int (nI r), .int (nI m)] mi ml z Q := by
  refine t_Sc_leastLiked_33 mi ml z _ _ ?_
  have key : ∀ k i v4, i + k = B → (∀ q, lst (fun b => tb m b) (fun b => prO T b r) i = some q → v4 = mi 38 (4 * q + r)) → Ev l (h + 1) m_Sc_leastLiked 11 ([.ref 33, .retAddr 0, .int (nI m), .int (oI (lst (fun b => tb m b) (fun b => prO T b r) i)), .int v4, .int (nI (r + 4 * i)), .int (nI i)], [], st mi ml z) (qI Q) := by
    intro k
    induction k with
    | zero =>
      intro i v4 hi h4
      have : i = B := by omega
      subst this
      exact t_Sc_leastLiked_33_11 mi ml z _ _ _ _ _ ⟨fun _ => hq, fun c => absurd (by rw [hB]; exact nI_le (Nat.le_refl _) (by omega)) c⟩
    | succ k ih =>
      intro i v4 hi h4
      have e4 : nI (r + 4 * i) + 4 = nI (r + 4 * (i + 1)) := by rw [show (4 : Int32) = nI 4 from rfl, nI_add]; congr 1
      have ei : (nI (r + 4 * i)).toNatClampNeg = 4 * i + r := by rw [nI_clamp (by omega)]; omega
      have hin : vp_in (nI (r + 4 * i)) 24 := in_nI (by omega) (by decide)
      have hpi := (hs.1 i r (by omega) hr trivial).2.2.2
      refine t_Sc_leastLiked_33_11 mi ml z _ _ _ _ _ ⟨fun c => ?_, fun _ => ⟨fun c => ?_, fun c => ⟨fun c2 => ⟨hin, ?_⟩, fun c2 => ⟨hin, fun c3 => ?_, fun c3 => ⟨hin, ?_⟩⟩⟩⟩⟩
      · rw [hB] at c
        exact absurd c (nI_ge (by omega) (by omega))
      · rw [sr_tb hm (by omega)] at c
        have e : lst (fun b => tb m b) (fun b => prO T b r) (i + 1) = lst (fun b => tb m b) (fun b => prO T b r) i := by simp [lst, c]
        have := ih (i + 1) v4 (by omega) (fun q hq' => h4 q (by rw [← e]; exact hq'))
        rw [e] at this
        rw [nI_1, e4]
        exact this
      · rw [sr_tb hm (by omega)] at c
        have c' : tb m i = true := by simpa using c
        cases e : lst (fun b => tb m b) (fun b => prO T b r) i with
        | some q => rw [e] at c2; exact absurd c2 (neg1_ne (by have := (lst_lt e).1; omega))
        | none =>
          have e2 : lst (fun b => tb m b) (fun b => prO T b r) (i + 1) = some i := by simp [lst, c', e]
          have := ih (i + 1) (mi 38 (4 * i + r)) (by omega) (fun q hq' => by rw [e2] at hq'; cases hq'; rfl)
          rw [e2] at this
          rw [nI_1, e4, ei]
          exact this
      · rw [sr_tb hm (by omega)] at c
        have c' : tb m i = true := by simpa using c
        cases e : lst (fun b => tb m b) (fun b => prO T b r) i with
        | none => rw [e] at c2; exact absurd rfl c2
        | some q =>
          have hq6 := (lst_lt e).1
          have hv := h4 q e
          rw [hv, ei, Int32.le_iff_toInt_le, hpi, (hs.1 q r (by omega) hr trivial).2.2.2] at c3
          have e2 : lst (fun b => tb m b) (fun b => prO T b r) (i + 1) = some q := by simp only [lst, c', if_true, e]; rw [if_neg (by omega)]
          have := ih (i + 1) v4 (by omega) (fun q' hq' => by rw [e2] at hq'; cases hq'; exact hv)
          rw [e2] at this
          rw [nI_1, e4]
          exact this
      · rw [sr_tb hm (by omega)] at c
        have c' : tb m i = true := by simpa using c
        cases e : lst (fun b => tb m b) (fun b => prO T b r) i with
        | none => rw [e] at c2; exact absurd rfl c2
        | some q =>
          have hq6 := (lst_lt e).1
          have hv := h4 q e
          rw [hv, ei, Int32.le_iff_toInt_le, hpi, (hs.1 q r (by omega) hr trivial).2.2.2] at c3
          have e2 : lst (fun b => tb m b) (fun b => prO T b r) (i + 1) = some i := by simp only [lst, c', if_true, e]; rw [if_pos (by omega)]
          have := ih (i + 1) (mi 38 (4 * i + r)) (by omega) (fun q' hq' => by rw [e2] at hq'; cases hq'; rfl)
          rw [e2] at this
          rw [nI_1, e4, ei]
          exact this
  have := key B 0 0 (by omega) (fun q hq' => by simp [lst] at hq')
  exact this
theorem c_Sc_setLiking_33 {l : Launch} {h : Nat} {mi : TMi} {ml : TMl} {z : Nat} {b r B R : Nat} {x y : Int32} {P : Nat → Nat → Prop} {L T : Nat → Nat → Int} {Q : TMi → TMl → Nat → Prop} (hB6 : B ≤ 6) (hR4 : R ≤ 4) (hs : SLp mi 35 36 37 38 39 B R P L T) (hb : b < B) (hr : r < R) (hx : x.toInt = L b r) (hy : y.toInt = T b r) (hbx : -1000000 ≤ L b r ∧ L b r ≤ 1000000) (hby : -1000000 ≤ T b r ∧ T b r ≤ 1000000)
    (hq : ∀ mi', Fr [35, 36, 37, 38, 39] mi mi' → SLp mi' 35 36 37 38 39 B R (fun b' r' => P b' r' ∨ (b' = b ∧ r' = r)) L T → Q mi' ml z) : CV l (h + 2) m_Sc_setLiking [.ref 33, .int (nI b), .int (nI r), .int x, .int y] mi ml z Q := by
  refine t_Sc_setLiking_33 mi ml z _ _ _ _ (t_B_pair _ _ _ _ _ ?_)
  rw [mul4, cl_nI (by omega), cl_nI (by omega)]
  have hin : vp_in (nI (4 * b + r)) 24 := in_nI (by omega) (by decide)
  have hinb : vp_in (nI b) 6 := in_nI (by omega) (by decide)
  obtain ⟨m, hm1, hm2, hm3⟩ := hs.2 b hb
  have hm16 : m < 16 := Nat.lt_of_lt_of_le hm2 (pow16 hR4)
  have em : (up (up (up (up mi 35 (4 * b + r) x) 36 (4 * b + r) y) 37 (4 * b + r) (x * 4 - nI r)) 38 (4 * b + r) (y * 6 - nI b)) 39 b = nI m := by
    simp only [up_eq]
    simp [hm1]
  rw [em]
  have fin : ∀ m' : Nat, m' < 2 ^ R → (∀ r', r' < R → (P b r' ∨ r' = r) → tb m' r' = wdO L T b r') → Q (up (up (up (up (up mi 35 (4 * b + r) x) 36 (4 * b + r) y) 37 (4 * b + r) (x * 4 - nI r)) 38 (4 * b + r) (y * 6 - nI b)) 39 b (nI m')) ml z := by
    intro m' h1 h2
    refine hq _ (fun n hn => ?_) ⟨fun b' r' hb' hr' hP => ?_, fun b' hb' => ?_⟩
    · simp only [List.mem_cons, List.not_mem_nil, or_false, not_or] at hn
      funext k
      simp [up_eq, hn]
    · by_cases e : b' = b ∧ r' = r
      · obtain ⟨rfl, rfl⟩ := e
        refine ⟨?_, ?_, ?_, ?_⟩
        · rw [up_ne _ _ _ (by decide), up_ne _ _ _ (by decide), up_ne _ _ _ (by decide), up_ne _ _ _ (by decide), up_at, hx]
        · rw [up_ne _ _ _ (by decide), up_ne _ _ _ (by decide), up_ne _ _ _ (by decide), up_at, hy]
        · rw [up_ne _ _ _ (by decide), up_ne _ _ _ (by decide), up_at, lin4 (by rw [hx]; exact hbx) (by omega), hx]
          rfl
        · rw [up_ne _ _ _ (by decide), up_at, lin6 (by rw [hy]; exact hby) (by omega), hy]
          rfl
      · have hne : 4 * b' + r' ≠ 4 * b + r := by omega
        have hP' : P b' r' := by rcases hP with h | h; exact h; exact absurd h e
        have := hs.1 b' r' hb' hr' hP'
        simp only [up_eq, hne]
        simpa using this
    · by_cases e : b' = b
      · subst e
        refine ⟨m', by simp [up_eq], h1, fun r' hr' hP => h2 r' hr' ?_⟩
        rcases hP with h | h
        · exact Or.inl h
        · exact Or.inr h.2
      · obtain ⟨m2, g1, g2, g3⟩ := hs.2 b' hb'
        refine ⟨m2, by simp [up_eq, e, g1], g2, fun r' hr' hP => g3 r' hr' ?_⟩
        rcases hP with h | h
        · exact h
        · exact absurd h.1 e
  have clr : wdO L T b r = false → Q (up (up (up (up (up mi 35 (4 * b + r) x) 36 (4 * b + r) y) 37 (4 * b + r) (x * 4 - nI r)) 38 (4 * b + r) (y * 6 - nI b)) 39 b (nI m &&& (((1 : Int32) <<< (nI r &&& 31)) ^^^ (-1)))) ml z := fun hw => by
    rw [clrb m hm16 r (by omega)]
    refine fin _ (clrb_lt R (by omega) m hm2 r hr) (fun r' hr' hP => ?_)
    rw [clrb_tb m hm16 r (by omega) r' (by omega)]
    by_cases e : r' = r
    · subst e; rw [hw]; simp
    · rcases hP with h | h
      · rw [hm3 r' hr' h]; simp [e]
      · exact absurd h e
  refine ⟨hin, hin, hin, hin, fun c => ⟨hinb, hinb, clr ?_⟩, fun c => ⟨fun c2 => ⟨hinb, hinb, clr ?_⟩, fun c2 => ⟨hinb, hinb, ?_⟩⟩⟩
  · rw [le0, hx] at c
    simp [wdO, c]
  · rw [le0, hy] at c2
    simp [wdO, c2]
  · rw [le0, Decidable.not_not] at c c2
    rw [hx] at c
    rw [hy] at c2
    rw [setb m hm16 r (by omega)]
    refine fin _ (setb_lt R (by omega) m hm2 r hr) (fun r' hr' hP => ?_)
    rw [setb_tb m hm16 r (by omega) r' (by omega)]
    by_cases e : r' = r
    · subst e; simp [wdO, c, c2]
    · rcases hP with h | h
      · rw [hm3 r' hr' h]; simp [e]
      · exact absurd h e
