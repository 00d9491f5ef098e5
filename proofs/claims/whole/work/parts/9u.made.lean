/-! ===== both objects, once they are made ===== -/
theorem SH_137 : SH.take 137 = SH := by decide +kernel
theorem mrL_or : ∀ {lr : List (Nat × Nat × Nat)}, lr.all (fun e => Nat.beq (MR 0 e.1 e.2.1) e.2.2) = true → ∀ (a k : Nat), mrL lr a k = MR 0 a k ∨ (mrL lr a k = 0 ∧ lr.any (fun e => Nat.beq e.1 a && Nat.beq e.2.1 k) = false)
  | [], _, _, _ => Or.inr ⟨rfl, rfl⟩
  | (n, j, x) :: t, h, a, k => by
    rw [List.all_cons, Bool.and_eq_true] at h
    have h1 : MR 0 n j = x := Nat.eq_of_beq_eq_true h.1
    have e0 : mrL ((n, j, x) :: t) a k = upR (mrL t) n j x a k := rfl
    have e1 : upR (mrL t) n j x a k = if a = n ∧ k = j then x else mrL t a k := by
      unfold upR
      by_cases c : a = n
      · rw [if_pos c]
        unfold va_up
        by_cases c2 : k = j
        · rw [if_pos c2, if_pos ⟨c, c2⟩]
        · rw [if_neg c2, if_neg (fun q => c2 q.2), c]
      · rw [if_neg c, if_neg (fun q => c q.1)]
    rw [e0, e1]
    by_cases c : a = n ∧ k = j
    · rw [if_pos c]
      exact Or.inl (by rw [c.1, c.2, h1])
    · rw [if_neg c]
      rcases mrL_or h.2 a k with g | ⟨g, g2⟩
      · exact Or.inl g
      · refine Or.inr ⟨g, ?_⟩
        rw [List.any_cons, g2, Bool.or_false]
        cases hb : (Nat.beq n a && Nat.beq j k) with
        | false => rfl
        | true =>
          rw [Bool.and_eq_true] at hb
          exact absurd ⟨(Nat.eq_of_beq_eq_true hb.1).symm, (Nat.eq_of_beq_eq_true hb.2).symm⟩ c
theorem mr_all : lr_26.all (fun e => Nat.beq (MR 0 e.1 e.2.1) e.2.2) = true := by decide +kernel
theorem mr_any : (List.range 137).all (fun a => (List.range ((MRt 0).getD a []).length).all (fun k => Nat.beq (MR 0 a k) 0 || lr_26.any (fun e => Nat.beq e.1 a && Nat.beq e.2.1 k))) = true := by decide +kernel
theorem mr_len : (MRt 0).length ≤ 137 := by decide +kernel
theorem mr_fin : mrL lr_26 = MR 0 := by
  funext a k
  rcases mrL_or mr_all a k with h | ⟨h0, hn⟩
  · exact h
  rw [h0]
  by_cases c : a < 137
  · by_cases c2 : k < ((MRt 0).getD a []).length
    · have h1 := List.all_eq_true.mp (List.all_eq_true.mp mr_any a (List.mem_range.mpr c)) k (List.mem_range.mpr c2)
      rw [hn, Bool.or_false] at h1
      exact (Nat.eq_of_beq_eq_true h1).symm
    · unfold MR
      rw [List.getD_eq_getElem?_getD (l := (MRt 0).getD a []), List.getElem?_eq_none (by omega)]
      rfl
  · unfold MR
    rw [List.getD_eq_getElem?_getD (l := MRt 0), List.getElem?_eq_none (by have := mr_len; omega)]
    rfl
theorem CX_st : CX 137 li_26 lr_26 0 0 = st (miL li_26) C0 0 := by
  unfold CX st
  rw [SH_137, mr_fin]
theorem made_R {l : Launch} {h : Nat} {Q : Option Value → ASt → Prop} (hq : ∀ mi, Fr [120] (miL li_26) mi → (∀ k, k < 1371 → mi 120 k = if 29 ≤ k ∧ k < 35 then -1 else 0) → Q none (st mi C0 0)) : Ev l (h + 2) m_R_init 0 (a_ent m_R_init.2.2.1 [.ref 119], [], CX 120 li_25 lr_25 17 23195) Q := by
  refine i_R_init_119 (h := h + 1) ?_
  rw [CX_st]
  refine cS1V cs_R_73 (by decide) (by decide) (by decide) (a_dec_at dc_R_init 94 rfl) ?_
  refine c_R_plain sh120 (by decide) (by decide) (fun mi F E _ => ?_)
  exact Ev.retV (a_dec_at dc_R_init 95 rfl) rfl (hq mi F E)
def tyZ : Ty := (fun _ => none, fun _ => 0, fun _ _ => 0)
theorem okC_z {g : Nat → Int32} (h : g = fun _ => 0) : okC g := fun j _ => ⟨0, by rw [h]; rfl, by decide⟩
theorem made_IC {mi : TMi} (F : Fr [120] (miL li_26) mi) : IC mi C0 aZ dZ [] (fun _ => none) tyZ 0 (fun _ => 0) 0 (-1) := by
  have e : ∀ n, n ≠ 120 → mi n = miL li_26 n := fun n hn => F n (by simpa using hn)
  have zr : ∀ n, n ≠ 120 → li_26.all (fun e => decide (e.1 ≠ n)) = true → mi n = fun _ => 0 := fun n h1 h2 => by rw [e n h1, miL_z h2]
  have e27 : ∀ j, mi 27 j = if j < 6 then -1 else 0 := fun j => by
    rw [e 27 (by decide)]
    by_cases c : j < 6
    · rw [if_pos c]
      have : ∀ j, j < 6 → miL li_26 27 j = -1 := by decide +kernel
      exact this j c
    · rw [if_neg c]
      have k : ∀ (li : List (Nat × Nat × Int32)), li.all (fun e => decide (e.1 = 27 → e.2.1 < 6)) = true → miL li 27 j = 0 := by
        intro li
        induction li with
        | nil => intro _; rfl
        | cons q t ih =>
          intro h
          obtain ⟨n, i, x⟩ := q
          rw [List.all_cons, Bool.and_eq_true] at h
          have h1 : n = 27 → i < 6 := of_decide_eq_true h.1
          show up (miL t) n i x 27 j = 0
          rw [up_eq, if_neg (fun q => by have := h1 q.1.symm; omega)]
          exact ih h.2
      exact k _ (by decide +kernel)
  refine ⟨⟨okz_Z.1, okz_Z.2.1, ⟨?_, ?_, ?_, fun b hb => absurd hb (Nat.not_lt_zero _), fun b hb => absurd hb (Nat.not_lt_zero _), fun b hb => absurd hb (Nat.not_lt_zero _), fun b hb => absurd hb (Nat.not_lt_zero _), okC_z (zr 26 (by decide) (by decide +kernel)), 0, ?_, by decide, Or.inl ⟨?_, fun _ => rfl⟩, Or.inl ⟨?_, fun _ => rfl⟩⟩, ⟨fun b hb => ?_, fun b hb => ?_, fun r hr => ?_, fun b r hb hr => ?_⟩, fun b r hb => absurd hb (Nat.not_lt_zero _), fun b hb => absurd hb (Nat.not_lt_zero _)⟩, ⟨by decide, 0, ?_, by decide, ?_, fun j d hj => by simp at hj⟩, fun d' hd => absurd hd (by simp), fun i hi => ⟨?_, okC_z ?_, fun a d e => by cases e⟩, fun t ht => ?_, ⟨?_, by decide, fun j hj => absurd hj (Nat.not_lt_zero _)⟩, ?_, ?_, rfl⟩
  · rw [e 18 (by decide)]; decide +kernel
  · rw [e 18 (by decide)]; decide +kernel
  · rw [e 18 (by decide)]; decide +kernel
  · rw [e 18 (by decide)]; decide +kernel
  · rw [e 18 (by decide)]; decide +kernel
  · rw [e 18 (by decide)]; decide +kernel
  · rw [e27, if_pos hb]; rfl
  · rw [e27, if_neg (by omega)]; rfl
  · rw [e27, if_neg (by omega)]; rfl
  · rw [e27, if_neg (by omega)]; rfl
  · rw [e 42 (by decide)]; decide +kernel
  · rw [e 42 (by decide)]; decide +kernel
  · rw [zr 41 (by decide) (by decide +kernel)]; rfl
  · rcases (show i = 0 ∨ i = 1 by omega) with c | c <;> rw [c]
    · exact zr 88 (by decide) (by decide +kernel)
    · exact zr 104 (by decide) (by decide +kernel)
  · have k1 : ∀ t, t < 4 → miL li_26 (111 + 2 * t) 1 = -1 ∧ miL li_26 (111 + 2 * t) 2 = 0 := by decide +kernel
    refine ⟨?_, fun s e => (by cases e), ?_, Nat.zero_le _, fun i hi => absurd hi (Nat.not_lt_zero _)⟩
    · rw [e _ (by omega)]; exact (k1 t ht).1
    · rw [e _ (by omega)]; exact (k1 t ht).2
  · rw [e 1 (by decide)]; decide +kernel
  · rw [e 1 (by decide)]; decide +kernel
  · rw [e 1 (by decide)]; decide +kernel
theorem made_IR {mi : TMi} (F : Fr [120] (miL li_26) mi) (E : ∀ k, k < 1371 → mi 120 k = if 29 ≤ k ∧ k < 35 then -1 else 0) : IR mi C0 aZ dZ [] (fun _ => none) tyZ 0 (fun _ => 0) 0 (-1) := by
  have e : ∀ n, n ≠ 120 → mi n = miL li_26 n := fun n hn => F n (by simpa using hn)
  have D : DR (mi 120) (nB aZ) (nR aZ) aZ dZ 0 := DR_Z E
  refine ⟨⟨okz_Z.1, okz_Z.2.1, fun W _ => by show (-1000000 ≤ (1 : Int32).toInt ∧ (1 : Int32).toInt ≤ 1000000) ∧ -1000000 ≤ (1 : Int32).toInt ∧ (1 : Int32).toInt ≤ 1000000; decide, D.ln okz_Z, D.cr okz_Z⟩, ⟨D.2.2.2.2.2.1 69 (by omega) (by omega), fun j d hj => by simp at hj⟩, fun i hi => ⟨?_, fun a d e => by cases e⟩, fun t ht => ?_, ⟨?_, fun j hj => absurd hj (Nat.not_lt_zero _)⟩, ?_, ?_⟩
  · rw [e 121 (by decide), miL_z (by decide +kernel)]; rfl
  · have k1 : ∀ t, t < 4 → miL li_26 134 t = -1 ∧ miL li_26 135 t = 0 := by decide +kernel
    rw [e 134 (by decide), e 135 (by decide)]
    exact ⟨(k1 t ht).1, (k1 t ht).2, fun i hi => absurd hi (Nat.not_lt_zero _)⟩
  · rw [e 119 (by decide)]; decide +kernel
  · rw [e 119 (by decide)]; decide +kernel
  · rw [e 119 (by decide)]; decide +kernel
