/-! ===== small ints ===== -/
theorem L_nI (k : Nat) : (OfNat.ofNat k : Int32) = nI k := rfl
theorem nI_inj {a b : Nat} (ha : a < 2 ^ 31) (hb : b < 2 ^ 31) (h : nI a = nI b) : a = b := (nI_eq ha hb).mp h
theorem cl_nI {n : Nat} (h : n < 2 ^ 31) : (nI n).toNatClampNeg = n := nI_clamp h
theorem add_cl (a i : Nat) (h : a + i < 2 ^ 31) : (nI a + nI i).toNatClampNeg = a + i := by rw [nI_add, nI_clamp h]
theorem addL_cl (a i : Nat) (h : a + i < 2 ^ 31) : ((OfNat.ofNat a : Int32) + nI i).toNatClampNeg = a + i := add_cl a i h
theorem addL (a i : Nat) : (OfNat.ofNat a : Int32) + nI i = nI (a + i) := nI_add a i
theorem mulL (a i : Nat) : (OfNat.ofNat a : Int32) * nI i = nI (a * i) := pk_mul a i
theorem in_addL {a i n : Nat} (h : a + i < n) (hn : n < 2 ^ 31) : vp_in ((OfNat.ofNat a : Int32) + nI i) n := by rw [addL]; exact vp_in_nI h hn
theorem in_nI {k n : Nat} (h : k < n) (hn : n < 2 ^ 31) : vp_in (nI k) n := vp_in_nI h hn
theorem in_add {a i n : Nat} (h : a + i < n) (hn : n < 2 ^ 31) : vp_in (nI a + nI i) n := by rw [nI_add]; exact vp_in_nI h hn
theorem neg1_ne {n : Nat} (h : n < 2 ^ 31) : ¬ nI n = -1 := by
  intro e
  have h1 := congrArg Int32.toInt e
  rw [nI_toInt h] at h1
  have : (-1 : Int32).toInt = -1 := by decide
  omega
theorem sl_bit : ∀ i, i < 6 → (1 : Int32) <<< (nI i &&& 31) = nI (2 ^ i) := by decide
theorem or_bit : ∀ i, i < 6 → ∀ m, m < 2 ^ i → nI m ||| ((1 : Int32) <<< (nI i &&& 31)) = nI (m + 2 ^ i) := by decide +kernel
theorem or_zero (x : Int32) : x ||| 0 = x := Int32.or_zero
theorem sr_bit : ∀ m, m < 64 → ∀ i, i < 6 → (nI m >>> (nI i &&& 31)) &&& 1 = nI (m / 2 ^ i % 2) := by decide +kernel
def tb (m i : Nat) : Bool := m / 2 ^ i % 2 == 1
theorem sr_tb {m i : Nat} (hm : m < 64) (hi : i < 6) : ((nI m >>> (nI i &&& 31)) &&& 1 = 0) ↔ tb m i = false := by
  rw [sr_bit m hm i hi]
  unfold tb
  have h : m / 2 ^ i % 2 < 2 := Nat.mod_lt _ (by decide)
  rcases (show m / 2 ^ i % 2 = 0 ∨ m / 2 ^ i % 2 = 1 by omega) with h | h <;> rw [h] <;> decide
/-- the set of those below n for which p holds, as a number -/
def enc (p : Nat → Bool) : Nat → Nat
  | 0 => 0
  | n + 1 => if p n = true then enc p n + 2 ^ n else enc p n
theorem enc_lt (p : Nat → Bool) : ∀ n, enc p n < 2 ^ n
  | 0 => by simp [enc]
  | n + 1 => by
    have := enc_lt p n
    simp only [enc]
    split <;> rw [Nat.pow_succ] <;> omega
theorem enc_64 (p : Nat → Bool) {n : Nat} (h : n ≤ 6) : enc p n < 64 := Nat.lt_of_lt_of_le (enc_lt p n) (Nat.pow_le_pow_right (by decide) h)
theorem enc_tb (p : Nat → Bool) : ∀ n b, b < n → tb (enc p n) b = p b
  | 0, b, h => absurd h (Nat.not_lt_zero _)
  | n + 1, b, h => by
    have hl := enc_lt p n
    by_cases e : b = n
    · subst e
      simp only [enc, tb]
      split
      · rename_i hp
        rw [hp, Nat.add_div_right _ (Nat.two_pow_pos b), Nat.div_eq_of_lt hl]
        rfl
      · rename_i hp
        rw [Nat.div_eq_of_lt hl]
        cases h2 : p b
        · rfl
        · exact absurd h2 hp
    · have ih := enc_tb p n b (by omega)
      simp only [enc]
      split
      · rw [← ih]
        unfold tb
        obtain ⟨k, rfl⟩ : ∃ k, n = b + 1 + k := ⟨n - b - 1, by omega⟩
        have : 2 ^ (b + 1 + k) = 2 ^ b * (2 * 2 ^ k) := by rw [Nat.pow_add, Nat.pow_succ]; rw [Nat.mul_assoc]
        rw [this, Nat.add_mul_div_left _ _ (Nat.two_pow_pos b), Nat.add_mul_mod_self_left]
      · exact ih
theorem enc_hi (p : Nat → Bool) (n b : Nat) (h : n ≤ b) : tb (enc p n) b = false := by
  unfold tb
  rw [Nat.div_eq_of_lt (Nat.lt_of_lt_of_le (enc_lt p n) (Nat.pow_le_pow_right (by decide) h))]
  rfl
theorem enc_congr {p q : Nat → Bool} : ∀ {n : Nat}, (∀ b, b < n → p b = q b) → enc p n = enc q n
  | 0, _ => rfl
  | n + 1, h => by
    simp only [enc, h n (Nat.lt_succ_self n), enc_congr (n := n) (fun b hb => h b (Nat.lt_succ_of_lt hb))]
theorem enc_step {p : Nat → Bool} {i : Nat} (hi : i < 6) (hp : p i = true) : nI (enc p i) ||| ((1 : Int32) <<< (nI i &&& 31)) = nI (enc p (i + 1)) := by
  rw [or_bit i hi _ (enc_lt p i)]
  simp [enc, hp]
theorem enc_skip {p : Nat → Bool} {i : Nat} (hp : p i = false) : nI (enc p i) = nI (enc p (i + 1)) := by
  simp [enc, hp]
/-- how many below n -/
def cnt (p : Nat → Bool) : Nat → Nat
  | 0 => 0
  | n + 1 => if p n = true then cnt p n + 1 else cnt p n
theorem cnt_le (p : Nat → Bool) : ∀ n, cnt p n ≤ n
  | 0 => Nat.le_refl _
  | n + 1 => by
    have := cnt_le p n
    simp only [cnt]
    split <;> omega
theorem cnt_congr {p q : Nat → Bool} : ∀ {n : Nat}, (∀ b, b < n → p b = q b) → cnt p n = cnt q n
  | 0, _ => rfl
  | n + 1, h => by
    simp only [cnt, h n (Nat.lt_succ_self n), cnt_congr (n := n) (fun b hb => h b (Nat.lt_succ_of_lt hb))]
/-- the sum of f over those below n for which p holds -/
def smn (p : Nat → Bool) (f : Nat → Nat) : Nat → Nat
  | 0 => 0
  | n + 1 => if p n = true then smn p f n + f n else smn p f n
theorem smn_le (p : Nat → Bool) (f : Nat → Nat) (c : Nat) : ∀ n, (∀ b, b < n → f b ≤ c) → smn p f n ≤ n * c
  | 0, _ => by simp [smn]
  | n + 1, h => by
    have ih := smn_le p f c n (fun b hb => h b (Nat.lt_succ_of_lt hb))
    have h1 := h n (Nat.lt_succ_self n)
    have e : (n + 1) * c = n * c + c := Nat.succ_mul n c
    simp only [smn]
    split <;> omega
theorem smn_congr {p q : Nat → Bool} {f g : Nat → Nat} : ∀ {n : Nat}, (∀ b, b < n → p b = q b) → (∀ b, b < n → f b = g b) → smn p f n = smn q g n
  | 0, _, _ => rfl
  | n + 1, h, k => by
    simp only [smn, h n (Nat.lt_succ_self n), k n (Nat.lt_succ_self n), smn_congr (n := n) (fun b hb => h b (Nat.lt_succ_of_lt hb)) (fun b hb => k b (Nat.lt_succ_of_lt hb))]
/-- the memory changes at the names of ns alone -/
def Fr (ns : List Nat) (mi mi' : TMi) : Prop := ∀ n, n ∉ ns → mi' n = mi n
theorem Fr.refl (ns : List Nat) (mi : TMi) : Fr ns mi mi := fun _ _ => rfl
theorem Fr.trans {ns ns' : List Nat} {a b c : TMi} (h : Fr ns a b) (k : Fr ns' b c) : Fr (ns ++ ns') a c := fun n hn => by
  rw [List.mem_append] at hn
  rw [k n (fun q => hn (Or.inr q)), h n (fun q => hn (Or.inl q))]
theorem Fr.weak {ns ns' : List Nat} {a b : TMi} (h : Fr ns a b) (k : ∀ n, n ∈ ns → n ∈ ns') : Fr ns' a b := fun n hn => h n (fun q => hn (k n q))
theorem Fr.step {ns : List Nat} {a b c : TMi} (h : Fr ns a b) (k : Fr ns b c) : Fr ns a c := fun n hn => by rw [k n hn, h n hn]
theorem up_at (mi : TMi) (n k : Nat) (x : Int32) : up mi n k x n k = x := by simp [up, upd]
theorem up_ne (mi : TMi) {n m : Nat} (k : Nat) (x : Int32) (h : m ≠ n) : up mi n k x m = mi m := by simp [up, h]
theorem up_nk (mi : TMi) (n : Nat) {k j : Nat} (x : Int32) (h : j ≠ k) : up mi n k x n j = mi n j := by simp [up, upd, h]
theorem up_eq (mi : TMi) (n k m j : Nat) (x : Int32) : up mi n k x m j = if m = n ∧ j = k then x else mi m j := by
  unfold up upd
  by_cases h : m = n
  · subst h
    by_cases h2 : j = k <;> simp [h2]
  · simp [h]
theorem Fr_up (mi : TMi) (n k : Nat) (x : Int32) : Fr [n] mi (up mi n k x) := fun m hm => up_ne mi k x (fun e => hm (by simp [e]))
