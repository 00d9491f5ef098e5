/-! ===== there is a best and a worst; choices by their numbers ===== -/
theorem ex_worst {B R : Nat} (L T : Nat → Nat → Int) (rm : Nat → Nat) (hB6 : B ≤ 6) (hR4 : R ≤ 4) : ∃ wo, Worst B R L T rm wo := by
  have key : ∀ k wo A, InvR B R L T rm wo A → NR A + k = 25 → ∃ wo, Worst B R L T rm wo := by
    intro k
    induction k with
    | zero => intro wo A hI hN; have := NR_le A; omega
    | succ k ih =>
      intro wo A hI hN
      by_cases he : ∀ r, r < R → cnt (inn wo r) B = rm r ∨ ∀ b, b < B → wdO L T b r = true → (A r b = true ∧ ¬ wo b = some r) ∨ wo b = some r
      · exact ⟨wo, hI.1.end hB6 he⟩
      · obtain ⟨r, hr⟩ := Classical.not_forall.mp he
        obtain ⟨hr, hn⟩ := Classical.not_imp.mp hr
        rw [not_or] at hn
        have hle := hI.1.2.2.1 r hr
        cases e : lst (fun b => wdO L T b r && !A r b) (fun b => - prO T b r) B with
        | none =>
          refine absurd (fun b hb hw => ?_) hn.2
          have := lst_none e b hb
          by_cases q : wo b = some r
          · exact Or.inr q
          · exact Or.inl ⟨by simpa [hw] using this, q⟩
        | some b =>
          obtain ⟨hb, hp, hmax⟩ := lst_max e
          simp at hp
          have hbest : ∀ b', b' < B → wdO L T b' r = true → A r b' = false → prO T b' r ≤ prO T b r := fun b' hb' hw ha => hmax b' hb' (by simp [hw, ha])
          have hN2 := NR_ask (A := A) (show b < 6 by omega) (show r < 4 by omega) hp.2
          have hne : ¬ wo b = some r := fun q => by rw [hI.2 b r hb q] at hp; cases hp.2
          have hc : cnt (inn wo r) B < rm r := by have := hn.1; omega
          cases ew : wo b with
          | none => exact ih _ _ (hI.go hB6 hR4 hb hr hp.1 hp.2 hbest hc (fun r0 q => by rw [ew] at q; cases q)) (by omega)
          | some r0 =>
            have hr0 := (hI.1.1 b r0 hb ew).1
            by_cases q : pbO L b r0 < pbO L b r
            · exact ih _ _ (hI.go hB6 hR4 hb hr hp.1 hp.2 hbest hc (fun r1 k => by rw [ew] at k; cases k; exact q)) (by omega)
            · have hne2 : ¬ pbO L b r0 = pbO L b r := fun k => hne (by rw [ew, pbO_inj (by omega) (by omega) k])
              exact ih _ _ (hI.no hB6 hb hr hp.1 hp.2 hbest ew (by omega)) (by omega)
  have := NR_le (fun _ _ => false)
  exact key (25 - NR (fun _ _ => false)) _ _ (InvR_0 _ _ _ _ _) (by omega)
theorem ex_best {B R : Nat} (L T : Nat → Nat → Int) (rm : Nat → Nat) (hB6 : B ≤ 6) (hR4 : R ≤ 4) : ∃ wo, Best B R L T rm wo := by
  have key : ∀ k wo A, InvB B R L T rm wo A → NA A + k = 25 → ∃ wo, Best B R L T rm wo := by
    intro k
    induction k with
    | zero => intro wo A hI hN; have := NA_le A; omega
    | succ k ih =>
      intro wo A hI hN
      by_cases he : ∀ b, b < B → wo b = none → ∀ r, r < R → wdO L T b r = true → A b r = true
      · exact ⟨wo, hI.1.end (fun b r hb hr hn hw => ⟨he b hb hn r hr hw, by rw [hn]; simp⟩)⟩
      · obtain ⟨b, hb⟩ := Classical.not_forall.mp he
        obtain ⟨hb, hb2⟩ := Classical.not_imp.mp hb
        obtain ⟨hn, hb3⟩ := Classical.not_imp.mp hb2
        cases e : lst (fun r => wdO L T b r && !A b r) (fun r => - pbO L b r) R with
        | none =>
          refine absurd (fun r hr hw => ?_) hb3
          have := lst_none e r hr
          simpa [hw] using this
        | some r =>
          obtain ⟨hr, hp, hmax⟩ := lst_max e
          simp at hp
          have hbest : ∀ r', r' < R → wdO L T b r' = true → A b r' = false → pbO L b r' ≤ pbO L b r := fun r' hr' hw ha => hmax r' hr' (by simp [hw, ha])
          have hN2 := NA_ask (A := A) (show b < 6 by omega) (show r < 4 by omega) hp.2
          by_cases c : cnt (inn (fun i => if i = b then some r else wo i) r) B ≤ rm r
          · exact ih _ _ (hI.in_ hb hr hn hp.1 hp.2 hbest c) (by omega)
          · obtain ⟨o, ho⟩ := lst_some (p := inn (fun i => if i = b then some r else wo i) r) (f := fun b' => prO T b' r) (B := B) (by omega)
            exact ih _ _ (hI.out hB6 hR4 hb hr hn hp.1 hp.2 hbest c ho) (by omega)
  have := NA_le (fun _ _ => false)
  exact key (25 - NA (fun _ _ => false)) _ _ (InvB_0 _ _ _ _ _) (by omega)
theorem Stb.congr {B R : Nat} {L T : Nat → Nat → Int} {rm : Nat → Nat} {wo wo' : Nat → Option Nat} (h : Stb B R L T rm wo) (e : ∀ b, b < B → wo' b = wo b) : Stb B R L T rm wo' := by
  obtain ⟨h1, h2, h3⟩ := h
  have ec : ∀ r, cnt (inn wo' r) B = cnt (inn wo r) B := fun r => cnt_congr (fun b hb => by simp [inn, e b hb])
  refine ⟨fun b r hb q => h1 b r hb (by rw [← e b hb]; exact q), fun r hr => by rw [ec]; exact h2 r hr, fun b r hb hr hw hm => ?_⟩
  rw [e b hb] at hm
  rw [ec]
  exact ⟨(h3 b r hb hr hw hm).1, fun m hm' q => (h3 b r hb hr hw hm).2 m hm' (by rw [← e m hm']; exact q)⟩
def dg : Option Nat → Nat
  | none => 0
  | some r => r + 1
def undg : Nat → Option Nat
  | 0 => none
  | k + 1 => some k
theorem undg_dg (x : Option Nat) : undg (dg x) = x := by cases x <;> rfl
theorem dg_undg (x : Nat) : dg (undg x) = x := by cases x <;> rfl
def chW (c b : Nat) : Option Nat := undg (c / 5 ^ b % 5)
def cn (wo : Nat → Option Nat) : Nat → Nat
  | 0 => 0
  | n + 1 => cn wo n + dg (wo n) * 5 ^ n
theorem cn_lt {wo : Nat → Option Nat} : ∀ {n : Nat}, (∀ b, b < n → dg (wo b) ≤ 4) → cn wo n < 5 ^ n
  | 0, _ => by simp [cn]
  | n + 1, h => by
    have h1 := cn_lt (n := n) (fun b hb => h b (by omega))
    have h2 := h n (by omega)
    have h3 : dg (wo n) * 5 ^ n ≤ 4 * 5 ^ n := Nat.mul_le_mul_right _ h2
    simp only [cn, Nat.pow_succ]
    omega
theorem dig_add {x d n b : Nat} (hb : b < n) : (x + d * 5 ^ n) / 5 ^ b % 5 = x / 5 ^ b % 5 := by
  obtain ⟨k, rfl⟩ : ∃ k, n = b + (k + 1) := ⟨n - b - 1, by omega⟩
  have e : x + d * 5 ^ (b + (k + 1)) = x + 5 ^ b * (5 * (d * 5 ^ k)) := by
    congr 1
    rw [Nat.pow_add, Nat.pow_succ]
    simp only [Nat.mul_comm, Nat.mul_left_comm]
  rw [e, Nat.add_mul_div_left _ _ (Nat.pow_pos (by decide)), Nat.add_mul_mod_self_left]
theorem dig_at {x d n : Nat} (hx : x < 5 ^ n) (hd : d ≤ 4) : (x + d * 5 ^ n) / 5 ^ n % 5 = d := by
  rw [Nat.add_mul_div_right _ _ (Nat.pow_pos (by decide)), Nat.div_eq_of_lt hx, Nat.zero_add, Nat.mod_eq_of_lt (by omega)]
theorem dig_hi {x n b : Nat} (hx : x < 5 ^ n) (hb : n ≤ b) : x / 5 ^ b % 5 = 0 := by
  rw [Nat.div_eq_of_lt (Nat.lt_of_lt_of_le hx (Nat.pow_le_pow_right (by decide) hb))]
theorem cn_dig {wo : Nat → Option Nat} : ∀ {n : Nat}, (∀ b, b < n → dg (wo b) ≤ 4) → ∀ b, b < n → cn wo n / 5 ^ b % 5 = dg (wo b)
  | 0, _, b, hb => absurd hb (Nat.not_lt_zero _)
  | n + 1, h, b, hb => by
    simp only [cn]
    by_cases q : b = n
    · subst q; exact dig_at (cn_lt (fun b hb => h b (by omega))) (h b (by omega))
    · rw [dig_add (by omega)]; exact cn_dig (fun b hb => h b (by omega)) b (by omega)
theorem cn_chW {wo : Nat → Option Nat} {n b : Nat} (h : ∀ b, b < n → dg (wo b) ≤ 4) (hb : b < n) : chW (cn wo n) b = wo b := by unfold chW; rw [cn_dig h b hb, undg_dg]
theorem cn_self {c : Nat} : ∀ {n : Nat}, cn (chW c) n = c % 5 ^ n
  | 0 => by simp [cn, Nat.mod_one]
  | n + 1 => by
    simp only [cn, cn_self (c := c) (n := n), chW, dg_undg]
    rw [Nat.pow_succ, Nat.mod_mul, Nat.mul_comm (c / 5 ^ n % 5)]
theorem chW_lt {c b r : Nat} (h : chW c b = some r) : r < 4 := by
  unfold chW at h
  have := Nat.mod_lt (c / 5 ^ b) (show 5 > 0 by decide)
  cases e : c / 5 ^ b % 5 with
  | zero => rw [e] at h; cases h
  | succ k => rw [e] at h; cases h; omega
/-- a choice's number is one of the held -/
def digs (R c : Nat) : Bool := alln (fun b => decide (c / 5 ^ b % 5 ≤ R)) 6
def fits (B R : Nat) (rm : Nat → Nat) (wo : Nat → Option Nat) : Bool := alln (fun r => decide (cnt (inn wo r) B ≤ rm r)) R
def hp (B R : Nat) (L T : Nat → Nat → Int) (rm : Nat → Nat) (c : Nat) : Bool := digs R c && fits B R rm (chW c) && heldS B R L T rm (chW c)
theorem digs_lt {R c b r : Nat} (hb : b < 6) (h : digs R c = true) (e : chW c b = some r) : r < R := by
  have := alln_iff.mp h b hb
  rw [decide_eq_true_eq] at this
  unfold chW at e
  cases k : c / 5 ^ b % 5 with
  | zero => rw [k] at e; cases e
  | succ x => rw [k] at e; cases e; omega
theorem hp_iff {B R : Nat} {L T : Nat → Nat → Int} {rm : Nat → Nat} {c : Nat} (hB6 : B ≤ 6) (hc : c < 5 ^ B) : hp B R L T rm c = true ↔ Stb B R L T rm (chW c) := by
  unfold hp
  rw [Bool.and_eq_true, Bool.and_eq_true]
  constructor
  · rintro ⟨⟨h1, h2⟩, h3⟩
    refine (Stb_iff (fun b r hb e => digs_lt (by omega) h1 e) (fun r hr => ?_)).mp h3
    have := alln_iff.mp h2 r hr
    simpa using this
  · intro h
    have hw : ∀ b r, b < B → chW c b = some r → r < R := fun b r hb e => (h.1 b r hb e).1
    refine ⟨⟨alln_iff.mpr (fun b hb => ?_), alln_iff.mpr (fun r hr => by rw [decide_eq_true_eq]; exact h.2.1 r hr)⟩, (Stb_iff hw h.2.1).mpr h⟩
    rw [decide_eq_true_eq]
    by_cases q : b < B
    · cases e : c / 5 ^ b % 5 with
      | zero => omega
      | succ k => have := hw b k q (by unfold chW; rw [e]; rfl); omega
    · rw [dig_hi hc (by omega)]; omega
def hl (B R : Nat) (L T : Nat → Nat → Int) (rm : Nat → Nat) (n : Nat) : List Nat := (List.range n).filter (hp B R L T rm)
theorem mem_hl {B R : Nat} {L T : Nat → Nat → Int} {rm : Nat → Nat} {c : Nat} (hB6 : B ≤ 6) : c ∈ hl B R L T rm (5 ^ B) ↔ c < 5 ^ B ∧ Stb B R L T rm (chW c) := by
  unfold hl
  rw [List.mem_filter, List.mem_range]
  exact ⟨fun h => ⟨h.1, (hp_iff hB6 h.1).mp h.2⟩, fun h => ⟨h.1, (hp_iff hB6 h.1).mpr h.2⟩⟩
theorem Stb.dg4 {B R : Nat} {L T : Nat → Nat → Int} {rm : Nat → Nat} {wo : Nat → Option Nat} (hR4 : R ≤ 4) (h : Stb B R L T rm wo) : ∀ b, b < B → dg (wo b) ≤ 4 := fun b hb => by
  cases e : wo b with
  | none => simp [dg]
  | some r => have := (h.1 b r hb e).1; simp only [dg]; omega
theorem Stb.in_hl {B R : Nat} {L T : Nat → Nat → Int} {rm : Nat → Nat} {wo : Nat → Option Nat} (hB6 : B ≤ 6) (hR4 : R ≤ 4) (h : Stb B R L T rm wo) : cn wo B ∈ hl B R L T rm (5 ^ B) ∧ ∀ b, b < B → chW (cn wo B) b = wo b := by
  have hd := h.dg4 hR4
  exact ⟨(mem_hl hB6).mpr ⟨cn_lt hd, h.congr (fun b hb => cn_chW hd hb)⟩, fun b hb => cn_chW hd hb⟩
theorem hl_lt {B R : Nat} {L T : Nat → Nat → Int} {rm : Nat → Nat} {n c : Nat} (h : c ∈ hl B R L T rm n) : c < n := by
  unfold hl at h
  rw [List.mem_filter, List.mem_range] at h
  exact h.1
theorem hl_succ {B R : Nat} {L T : Nat → Nat → Int} {rm : Nat → Nat} {n : Nat} : hl B R L T rm (n + 1) = hl B R L T rm n ++ (if hp B R L T rm n = true then [n] else []) := by
  unfold hl
  rw [List.range_succ, List.filter_append]
  congr 1
  by_cases q : hp B R L T rm n = true
  · simp [q]
  · simp [q]
theorem hl_len {B R : Nat} {L T : Nat → Nat → Int} {rm : Nat → Nat} : ∀ {n : Nat}, (hl B R L T rm n).length ≤ n
  | 0 => by simp [hl]
  | n + 1 => by
    rw [hl_succ, List.length_append]
    have := hl_len (B := B) (R := R) (L := L) (T := T) (rm := rm) (n := n)
    by_cases q : hp B R L T rm n = true
    · simp [q]; omega
    · simp [q]; omega
theorem pow5 {B : Nat} (h : B ≤ 6) : 5 ^ B ≤ 15625 := Nat.pow_le_pow_right (show 5 > 0 by decide) h
/-- in all that hold a beck is between the worst and the best -/
theorem hold_bd {B R : Nat} {L T : Nat → Nat → Int} {rm : Nat → Nat} {be wo mu : Nat → Option Nat} (hR4 : R ≤ 4) (hb1 : Best B R L T rm be) (hw1 : Worst B R L T rm wo) (hmu : Stb B R L T rm mu) : ∀ b, b < B → (mu b = none ∧ be b = none ∧ wo b = none) ∨ ∃ r r1 r2, mu b = some r ∧ be b = some r1 ∧ wo b = some r2 ∧ pbO L b r2 ≤ pbO L b r ∧ pbO L b r ≤ pbO L b r1 := by
  intro b hb
  have hru := rural hR4 hb1.1 hw1.1 hmu (hb1.2 mu hmu) (hw1.2 mu hmu) b hb
  cases e : mu b with
  | none =>
    rw [e] at hru
    refine Or.inl ⟨rfl, ?_, ?_⟩
    · cases k : be b with
      | none => rfl
      | some x => rw [k] at hru; simp at hru
    · cases k : wo b with
      | none => rfl
      | some x => rw [k] at hru; simp at hru
  | some r =>
    rw [e] at hru
    obtain ⟨r1, k1, k2⟩ := hb1.2 mu hmu b r hb e
    cases k : wo b with
    | none => rw [k] at hru; simp at hru
    | some r2 =>
      obtain ⟨r3, k3, k4⟩ := hw1.2 mu hmu b r2 hb k
      rw [e] at k3
      cases k3
      exact Or.inr ⟨r, r1, r2, rfl, k1, rfl, k4, k2⟩
