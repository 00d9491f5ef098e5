/-! ===== both objects, once they are made ===== -/
theorem SH_137 : SH.take 137 = SH := by decide +kernel
theorem mrL_out : ∀ {lr : List (Nat × Nat × Nat)}, lr.all (fun e => decide (e.1 < 137 ∧ e.2.1 < 40)) = true → ∀ {a k : Nat}, 137 ≤ a ∨ 40 ≤ k → mrL lr a k = 0
  | [], _, _, _, _ => rfl
  | (n, j, x) :: t, h, a, k, hk => by
    rw [List.all_cons, Bool.and_eq_true] at h
    have h1 : n < 137 ∧ j < 40 := of_decide_eq_true h.1
    show upR (mrL t) n j x a k = 0
    unfold upR
    by_cases c : a = n
    · rw [if_pos c]
      unfold va_up
      rw [if_neg (by omega), ← c]
      exact mrL_out h.2 hk
    · rw [if_neg c]
      exact mrL_out h.2 hk
theorem mr_in : ∀ a, a < 137 → ∀ k, k < 40 → mrL lr_26 a k = MR 0 a k := by decide +kernel
theorem MR_rows : (MRt 0).length ≤ 137 ∧ (MRt 0).all (fun r => decide (r.length ≤ 40)) = true := by decide +kernel
theorem MR_out {a k : Nat} (h : 137 ≤ a ∨ 40 ≤ k) : MR 0 a k = 0 := by
  unfold MR
  by_cases c : a < (MRt 0).length
  · have hr : 40 ≤ k := by have := MR_rows.1; omega
    have e : (MRt 0).getD a [] = (MRt 0)[a] := by rw [List.getD_eq_getElem?_getD, List.getElem?_eq_getElem c]; rfl
    have h1 := List.all_eq_true.mp MR_rows.2 ((MRt 0)[a]) (List.getElem_mem c)
    have h2 : ((MRt 0)[a]).length ≤ 40 := of_decide_eq_true h1
    rw [e, List.getD_eq_getElem?_getD, List.getElem?_eq_none (by omega)]
    rfl
  · rw [List.getD_eq_getElem?_getD (l := MRt 0), List.getElem?_eq_none (by omega)]
    rfl
theorem mr_fin : mrL lr_26 = MR 0 := by
  funext a k
  by_cases c : a < 137 ∧ k < 40
  · exact mr_in a c.1 k c.2
  · have h : 137 ≤ a ∨ 40 ≤ k := by omega
    rw [mrL_out (by decide +kernel) h, MR_out h]
theorem CX_st : CX 137 li_26 lr_26 0 0 = st (miL li_26) C0 0 := by
  unfold CX st
  rw [SH_137, mr_fin]
theorem made_R {l : Launch} {h : Nat} {Q : Option Value → ASt → Prop} (hq : ∀ mi, Fr [120] (miL li_26) mi → (∀ k, k < 1371 → mi 120 k = if 29 ≤ k ∧ k < 35 then -1 else 0) → Q none (st mi C0 0)) : Ev l (h + 2) m_R_init 0 (a_ent m_R_init.2.2.1 [.ref 119], [], CX 120 li_25 lr_25 17 23195) Q := by
  refine i_R_init_119 (h := h + 1) ?_
  rw [CX_st]
  refine cS1V cs_R_73 (by decide) (by decide) (by decide) (a_dec_at dc_R_init 94 rfl) ?_
  refine c_R_plain sh120 (by decide) (by decide) (fun mi F E _ => ?_)
  exact Ev.retV (a_dec_at dc_R_init 95 rfl) rfl (hq mi F E)
def tyZ : Ty := (fun _ => none, fun _ => 0, fun _ _ => 0)
theorem okC_z {g : Nat → Int32} (h : g = fun _ => 0) : okC g := fun j _ => ⟨0, by rw [h]; rfl, by decide⟩
theorem made_IC {mi : TMi} (F : Fr [120] (miL li_26) mi) : IC mi C0 aZ dZ [] (fun _ => none) tyZ 0 (fun _ => 0) 0 (-1) := by
  have e : ∀ n, n ≠ 120 → mi n = miL li_26 n := fun n hn => F n (by simpa using hn)
  have zr : ∀ n, n ≠ 120 → li_26.all (fun e => decide (e.1 ≠ n)) = true → mi n = fun _ => 0 := fun n h1 h2 => by rw [e n h1, miL_z h2]
  have e27 : ∀ j, mi 27 j = if j < 6 then -1 else 0 := fun j => by
    rw [e 27 (by decide)]
    by_cases c : j < 6
    · rw [if_pos c]
      have : ∀ j, j < 6 → miL li_26 27 j = -1 := by decide +kernel
      exact this j c
    · rw [if_neg c]
      have k : ∀ (li : List (Nat × Nat × Int32)), li.all (fun e => decide (e.1 = 27 → e.2.1 < 6)) = true → miL li 27 j = 0 := by
        intro li
        induction li with
        | nil => intro _; rfl
        | cons q t ih =>
          intro h
          obtain ⟨n, i, x⟩ := q
          rw [List.all_cons, Bool.and_eq_true] at h
          have h1 : n = 27 → i < 6 := of_decide_eq_true h.1
          show up (miL t) n i x 27 j = 0
          rw [up_eq, if_neg (fun q => by have := h1 q.1.symm; omega)]
          exact ih h.2
      exact k _ (by decide +kernel)
  refine ⟨⟨okz_Z.1, okz_Z.2.1, ⟨?_, ?_, ?_, fun b hb => absurd hb (Nat.not_lt_zero _), fun b hb => absurd hb (Nat.not_lt_zero _), fun b hb => absurd hb (Nat.not_lt_zero _), fun b hb => absurd hb (Nat.not_lt_zero _), okC_z (zr 26 (by decide) (by decide +kernel)), 0, ?_, by decide, Or.inl ⟨?_, fun _ => rfl⟩, Or.inl ⟨?_, fun _ => rfl⟩⟩, ⟨fun b hb => ?_, fun b hb => ?_, fun r hr => ?_, fun b r hb hr => ?_⟩, fun b r hb => absurd hb (Nat.not_lt_zero _), fun b hb => absurd hb (Nat.not_lt_zero _)⟩, ⟨by decide, 0, ?_, by decide, ?_, fun j d hj => by simp at hj⟩, fun d' hd => absurd hd (by simp), fun i hi => ⟨?_, okC_z ?_, fun a d e => by cases e⟩, fun t ht => ?_, ⟨?_, by decide, fun j hj => absurd hj (Nat.not_lt_zero _)⟩, ?_, ?_, rfl⟩
  · rw [e 18 (by decide)]; decide +kernel
  · rw [e 18 (by decide)]; decide +kernel
  · rw [e 18 (by decide)]; decide +kernel
  · rw [e 18 (by decide)]; decide +kernel
  · rw [e 18 (by decide)]; decide +kernel
  · rw [e 18 (by decide)]; decide +kernel
  · rw [e27, if_pos hb]; rfl
  · rw [e27, if_neg (by omega)]; rfl
  · rw [e27, if_neg (by omega)]; rfl
  · rw [e27, if_neg (by omega)]; rfl
  · rw [e 42 (by decide)]; decide +kernel
  · rw [e 42 (by decide)]; decide +kernel
  · rw [zr 41 (by decide) (by decide +kernel)]; rfl
  · rcases (show i = 0 ∨ i = 1 by omega) with c | c <;> rw [c]
    · exact zr 88 (by decide) (by decide +kernel)
    · exact zr 104 (by decide) (by decide +kernel)
  · have k1 : ∀ t, t < 4 → miL li_26 (111 + 2 * t) 1 = -1 ∧ miL li_26 (111 + 2 * t) 2 = 0 := by decide +kernel
    refine ⟨?_, fun s e => (by cases e), ?_, Nat.zero_le _, fun i hi => absurd hi (Nat.not_lt_zero _)⟩
    · rw [e _ (by omega)]; exact (k1 t ht).1
    · rw [e _ (by omega)]; exact (k1 t ht).2
  · rw [e 1 (by decide)]; decide +kernel
  · rw [e 1 (by decide)]; decide +kernel
  · rw [e 1 (by decide)]; decide +kernel
theorem made_IR {mi : TMi} (F : Fr [120] (miL li_26) mi) (E : ∀ k, k < 1371 → mi 120 k = if 29 ≤ k ∧ k < 35 then -1 else 0) : IR mi C0 aZ dZ [] (fun _ => none) tyZ 0 (fun _ => 0) 0 (-1) := by
  have e : ∀ n, n ≠ 120 → mi n = miL li_26 n := fun n hn => F n (by simpa using hn)
  have D : DR (mi 120) (nB aZ) (nR aZ) aZ dZ 0 := DR_Z E
  refine ⟨⟨okz_Z.1, okz_Z.2.1, fun W _ => by show (-1000000 ≤ (1 : Int32).toInt ∧ (1 : Int32).toInt ≤ 1000000) ∧ -1000000 ≤ (1 : Int32).toInt ∧ (1 : Int32).toInt ≤ 1000000; decide, D.ln okz_Z, D.cr okz_Z⟩, ⟨D.2.2.2.2.2.1 69 (by omega) (by omega), fun j d hj => by simp at hj⟩, fun i hi => ⟨?_, fun a d e => by cases e⟩, fun t ht => ?_, ⟨?_, fun j hj => absurd hj (Nat.not_lt_zero _)⟩, ?_, ?_⟩
  · rw [e 121 (by decide), miL_z (by decide +kernel)]; rfl
  · have k1 : ∀ t, t < 4 → miL li_26 134 t = -1 ∧ miL li_26 135 t = 0 := by decide +kernel
    rw [e 134 (by decide), e 135 (by decide)]
    exact ⟨(k1 t ht).1, (k1 t ht).2, fun i hi => absurd hi (Nat.not_lt_zero _)⟩
  · rw [e 119 (by decide)]; decide +kernel
  · rw [e 119 (by decide)]; decide +kernel
  · rw [e 119 (by decide)]; decide +kernel
