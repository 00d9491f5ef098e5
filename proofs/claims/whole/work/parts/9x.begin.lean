/-! ===== what is given at the entry: by program (wip/gen/begin.py) ===== -/
theorem b_m1 {w : Cond} (k : Nat) (h : tables_1_1[k]? = some w) : w ∈ lw_tbl := List.mem_append_right _ (by have h := List.mem_of_getElem? h; unfold tables_1; exact List.mem_append_left _ h)
theorem b_m2 {w : Cond} (k : Nat) (h : tables_1_2[k]? = some w) : w ∈ lw_tbl := List.mem_append_right _ (by have h := List.mem_of_getElem? h; unfold tables_1; exact List.mem_append_right _ (List.mem_append_left _ h))
theorem b_m3 {w : Cond} (k : Nat) (h : tables_1_3[k]? = some w) : w ∈ lw_tbl := List.mem_append_right _ (by have h := List.mem_of_getElem? h; unfold tables_1; exact List.mem_append_right _ (List.mem_append_right _ (List.mem_append_left _ h)))
theorem b_m4 {w : Cond} (k : Nat) (h : tables_1_4[k]? = some w) : w ∈ lw_tbl := List.mem_append_right _ (by have h := List.mem_of_getElem? h; unfold tables_1; exact List.mem_append_right _ (List.mem_append_right _ (List.mem_append_right _ (List.mem_append_left _ h))))
theorem b_m5 {w : Cond} (k : Nat) (h : tables_1_5[k]? = some w) : w ∈ lw_tbl := List.mem_append_right _ (by have h := List.mem_of_getElem? h; unfold tables_1; exact List.mem_append_right _ (List.mem_append_right _ (List.mem_append_right _ (List.mem_append_right _ (List.mem_append_left _ h)))))
theorem b_m6 {w : Cond} (k : Nat) (h : tables_1_6[k]? = some w) : w ∈ lw_tbl := List.mem_append_right _ (by have h := List.mem_of_getElem? h; unfold tables_1; exact List.mem_append_right _ (List.mem_append_right _ (List.mem_append_right _ (List.mem_append_right _ (List.mem_append_right _ (List.mem_append_left _ h))))))
theorem b_m7 {w : Cond} (k : Nat) (h : tables_1_7[k]? = some w) : w ∈ lw_tbl := List.mem_append_right _ (by have h := List.mem_of_getElem? h; unfold tables_1; exact List.mem_append_right _ (List.mem_append_right _ (List.mem_append_right _ (List.mem_append_right _ (List.mem_append_right _ (List.mem_append_right _ (List.mem_append_left _ h)))))))
theorem b_m8 {w : Cond} (k : Nat) (h : tables_1_8[k]? = some w) : w ∈ lw_tbl := List.mem_append_right _ (by have h := List.mem_of_getElem? h; unfold tables_1; exact List.mem_append_right _ (List.mem_append_right _ (List.mem_append_right _ (List.mem_append_right _ (List.mem_append_right _ (List.mem_append_right _ (List.mem_append_right _ (List.mem_append_left _ h))))))))
theorem b_m9 {w : Cond} (k : Nat) (h : tables_1_9[k]? = some w) : w ∈ lw_tbl := List.mem_append_right _ (by have h := List.mem_of_getElem? h; unfold tables_1; exact List.mem_append_right _ (List.mem_append_right _ (List.mem_append_right _ (List.mem_append_right _ (List.mem_append_right _ (List.mem_append_right _ (List.mem_append_right _ (List.mem_append_right _ (h)))))))))
theorem b_fl {w : Cond} (k : Nat) (h : (flatC (Jvm.Cond.and given_1 narrow_1))[k]? = some w) : w ∈ flatC (Jvm.Cond.and given_1 narrow_1) := List.mem_of_getElem? h
def b_tm : Nat → Term := fun i => match i with
  | 0 => Term.string "BeckChoice$Tokens" 74
  | 1 => Term.string "BeckChoice$Tokens" 64
  | _ => Term.string "BeckChoiceModel" 83
def b_el (t : Term) (bs : List Int32) (n : Nat) : List Cond := (List.range n).map fun j => Cond.eq (.elem (.field t "java/lang/String" "value" "[B") (.int (Int32.ofNat j))) (.int (bs.getD j 0))
theorem b_seg0 : ((flatC (Jvm.Cond.and given_1 narrow_1)).drop 39).take 100 = b_el (b_tm 0) (a_sb.getD 0 []) 100 := by decide +kernel
theorem b_seg1 : ((flatC (Jvm.Cond.and given_1 narrow_1)).drop 143).take 12 = b_el (b_tm 1) (a_sb.getD 1 []) 12 := by decide +kernel
theorem b_seg2 : ((flatC (Jvm.Cond.and given_1 narrow_1)).drop 160).take 96 = b_el (b_tm 2) (a_sb.getD 2 []) 96 := by decide +kernel
theorem b_elm {t : Term} {bs : List Int32} {n k : Nat} {T : Cond} (h : ((flatC T).drop k).take n = b_el t bs n) {j : Nat} (hj : j < n) : Cond.eq (.elem (.field t "java/lang/String" "value" "[B") (.int (Int32.ofNat j))) (.int (bs.getD j 0)) ∈ flatC T := by
  have h1 : Cond.eq (.elem (.field t "java/lang/String" "value" "[B") (.int (Int32.ofNat j))) (.int (bs.getD j 0)) ∈ b_el t bs n := List.mem_map.mpr ⟨j, List.mem_range.mpr hj, rfl⟩
  rw [← h] at h1
  exact List.mem_of_mem_drop (List.mem_of_mem_take h1)
theorem b_S {args : Array Value} {s : State} {A : Nat → Prop} (hg : ∀ c ∈ flatC (Jvm.Cond.and given_1 narrow_1), c.before args s = true) (hA : ∀ a : Nat, a < s.heap.size → ¬ A a) : ∃ adK adV : Nat → Nat, vk_S 3 a_sl a_sb adK adV A s s.heap ∧ ∀ i : Nat, i < 3 → (b_tm i).eval args s none [] s = some (.ref (adK i)) := by
  refine vk_Sof (fun i hi => ?_) (fun i hi => ?_) (fun i hi => ?_) (fun i hi => ?_) (fun i hi => ?_) (fun i hi j hj => ?_) (fun i j hi hj hij => ?_) hA
  · have h : ∀ i, i < 3 → a_sl.getD i 0 < 2 ^ 31 := by decide
    exact h i hi
  · rcases (show i = 0 ∨ i = 1 ∨ i = 2 by omega) with q | q | q <;> subst q
    · exact hg _ (b_fl 35 rfl)
    · exact hg _ (b_fl 139 rfl)
    · exact hg _ (b_fl 156 rfl)
  · rcases (show i = 0 ∨ i = 1 ∨ i = 2 by omega) with q | q | q <;> subst q
    · exact hg _ (b_fl 36 rfl)
    · exact hg _ (b_fl 140 rfl)
    · exact hg _ (b_fl 157 rfl)
  · rcases (show i = 0 ∨ i = 1 ∨ i = 2 by omega) with q | q | q <;> subst q
    · exact hg _ (b_fl 37 rfl)
    · exact hg _ (b_fl 141 rfl)
    · exact hg _ (b_fl 158 rfl)
  · rcases (show i = 0 ∨ i = 1 ∨ i = 2 by omega) with q | q | q <;> subst q
    · exact hg _ (b_fl 38 rfl)
    · exact hg _ (b_fl 142 rfl)
    · exact hg _ (b_fl 159 rfl)
  · rcases (show i = 0 ∨ i = 1 ∨ i = 2 by omega) with q | q | q <;> subst q
    · exact hg _ (b_elm b_seg0 hj)
    · exact hg _ (b_elm b_seg1 hj)
    · exact hg _ (b_elm b_seg2 hj)
  · rcases (show i = 0 ∨ i = 1 ∨ i = 2 by omega) with q | q | q <;> subst q <;> rcases (show j = 0 ∨ j = 1 ∨ j = 2 by omega) with q | q | q <;> subst q
    · exact absurd rfl hij
    · exact Or.inl (hg _ (b_fl 155 rfl))
    · exact Or.inl (hg _ (b_fl 256 rfl))
    · exact Or.inr (hg _ (b_fl 155 rfl))
    · exact absurd rfl hij
    · exact Or.inl (hg _ (b_fl 257 rfl))
    · exact Or.inr (hg _ (b_fl 256 rfl))
    · exact Or.inr (hg _ (b_fl 257 rfl))
    · exact absurd rfl hij
theorem b_eqR {args : Array Value} {s : State} {t u : Term} {a b : Nat} (h : (Cond.eq t u).before args s = true) (ht : t.eval args s none [] s = some (.ref a)) (hu : u.eval args s none [] s = some (.ref b)) : a = b := by
  simp [Cond.before, Cond.holds, Cond.value, ht, hu] at h
  exact h
theorem b_nst : ∀ w ∈ a_nst, w ∈ lw_tbl ∧ w.onTables = true := List.forall_mem_cons.mpr ⟨⟨(b_m1 33 rfl), rfl⟩, List.forall_mem_cons.mpr ⟨⟨(b_m1 171 rfl), rfl⟩, List.forall_mem_cons.mpr ⟨⟨(b_m1 231 rfl), rfl⟩, List.forall_mem_cons.mpr ⟨⟨(b_m2 14 rfl), rfl⟩, List.forall_mem_cons.mpr ⟨⟨(b_m2 165 rfl), rfl⟩, List.forall_mem_cons.mpr ⟨⟨(b_m2 204 rfl), rfl⟩, List.forall_mem_cons.mpr ⟨⟨(b_m5 122 rfl), rfl⟩, List.forall_mem_cons.mpr ⟨⟨(b_m6 5 rfl), rfl⟩, List.forall_mem_cons.mpr ⟨⟨(b_m6 33 rfl), rfl⟩, fun _ h => absurd h List.not_mem_nil⟩⟩⟩⟩⟩⟩⟩⟩⟩
theorem b_in {ci : Nat} {C : String} {T : u_T} {N : Nat} (h : vwCl[ci]? = some (C, T, N)) : Cond.instantiable C N ∈ a_tbl := by
  match ci, h with
  | 0, h => cases h; exact a_m1 32 rfl rfl
  | 1, h => cases h; exact a_m1 170 rfl rfl
  | 2, h => cases h; exact a_m2 13 rfl rfl
  | 3, h => cases h; exact a_m1 230 rfl rfl
  | 4, h => cases h; exact a_m1 157 rfl rfl
  | 5, h => cases h; exact a_m1 183 rfl rfl
  | 6, h => cases h; exact a_m2 133 rfl rfl
  | 7, h => cases h; exact a_m2 36 rfl rfl
  | 8, h => cases h; exact a_m1 122 rfl rfl
  | 9, h => cases h; exact a_m2 164 rfl rfl
  | 10, h => cases h; exact a_m2 92 rfl rfl
  | 11, h => cases h; exact a_m1 24 rfl rfl
  | 12, h => cases h; exact a_m6 196 rfl rfl
  | k + 13, h => simp [vwCl] at h
theorem b_K {args : Array Value} {s : State} (c0 : ClassId) (hts : ∀ w ∈ a_tbl, w.before args s = true) : ∃ D : va_G, va_K D vwCl [] s := by
  have h0 : ∀ k : Nat, ∃ p : ClassId × (Nat → Nat), ∀ q : vw_C, vwCl[k]? = some q → u_Kn s q.1 q.2.1 q.2.2 p.1 p.2 := by
    intro k
    cases hk : vwCl[k]? with
    | none => exact ⟨(c0, fun _ => 0), fun q h => by cases h⟩
    | some q =>
      obtain ⟨C, T, N⟩ := q
      obtain ⟨hN, hin, -⟩ := a_ck hk
      obtain ⟨cC, iS, h⟩ := u_known (C := C) (T := T) (N := N) (n := N) hts hin (hts _ (b_in hk))
      exact ⟨(cC, iS), fun q hq => by cases hq; exact h⟩
  obtain ⟨f, hf⟩ := Classical.axiomOfChoice h0
  exact ⟨(fun k => (f k).1, fun k => (f k).2), hf, fun k q h => by simp at h⟩
def b_nz (f : Nat) : Value := match f with
  | 0 => .null
  | k + 1 => .ref k
def b_ad (adK adV : Nat → Nat) (f b : Nat) : Nat → Nat := fun n => if n = 2000000 then b else if n = 1500000 then f else if 1000100 ≤ n then adV (n - 1000100) else adK (n - 1000000)
theorem b_adK {adK adV : Nat → Nat} {f b j : Nat} (h : j < 3) : b_ad adK adV f b (1000000 + j) = adK j := by
  unfold b_ad
  rw [if_neg (by omega), if_neg (by omega), if_neg (by omega), Nat.add_sub_cancel_left]
theorem b_adV {adK adV : Nat → Nat} {f b j : Nat} (h : j < 3) : b_ad adK adV f b (1000100 + j) = adV j := by
  unfold b_ad
  rw [if_neg (by omega), if_neg (by omega), if_pos (by omega), Nat.add_sub_cancel_left]
theorem b_adb {adK adV : Nat → Nat} {f b : Nat} : b_ad adK adV f b 2000000 = b := by
  unfold b_ad
  rw [if_pos rfl]
theorem b_adf {adK adV : Nat → Nat} {f b : Nat} : b_ad adK adV f b 1500000 = f := by
  unfold b_ad
  rw [if_neg (by decide), if_pos rfl]
/-- what stands fast, at the entry -/
theorem b_G {b : Nat} {s : State} (hts : ∀ w ∈ lw_tbl, w.before #[Value.ref b] s = true) (hgv : (Jvm.Cond.and given_1 narrow_1).before #[Value.ref b] s = true) : ∃ ad : Nat → Nat, ad 2000000 = b ∧ a_G ad (fun q => s.heap.size ≤ q) s := by
  have hg := flat_of_before _ hgv
  have hA : ∀ a : Nat, a < s.heap.size → ¬ (fun q => s.heap.size ≤ q) a := fun a h => Nat.not_le.mpr h
  obtain ⟨adK, adV, hS, hE⟩ := b_S (A := fun q => s.heap.size ≤ q) hg hA
  obtain ⟨f, hf⟩ : ∃ f : Nat, va_Z "jdk/internal/util/Preconditions" "SIOOBE_FORMATTER" "Ljava/util/function/BiFunction;" (b_nz f) (fun q => s.heap.size ≤ q) s s.heap := by
    rcases va_Zqof (A := fun q => s.heap.size ≤ q) (hts _ (b_m3 111 rfl)) (hts _ (b_m1 19 rfl)) (hg _ (b_fl 5 rfl)) hA with h | ⟨t, h⟩
    · exact ⟨0, h⟩
    · exact ⟨t + 1, h⟩
  refine ⟨b_ad adK adV f b, b_adb, ⟨fun i hi => ?_, fun i j hi hj e => ?_⟩, ?_, ?_, ?_, fun w hw => va_Nw.of (b_nst w hw).2 (hts _ (b_nst w hw).1), hts _ (b_m1 228 rfl), hts _ (b_m2 163 rfl), hts _ (b_m1 236 rfl)⟩
  · have h := hS.1 i hi
    dsimp only
    rw [b_adK hi, b_adV hi]
    exact h
  · dsimp only at e
    rw [b_adK hi, b_adK hj] at e
    exact hS.2 i j hi hj e
  · have r0 := vk_R.of (hts _ (b_m3 93 rfl)) (hE 0 (by decide))
    have r1 := vk_R.of (hts _ (b_m3 144 rfl)) (hE 1 (by decide))
    have r2 := vk_R.of (hts _ (b_m7 96 rfl)) (hE 2 (by decide))
    obtain ⟨a, c, cA, kA, q1, -⟩ := Cond.exactly_spec (args := #[Value.ref b]) (first := s) (o := none) (s := s) (idx := []) (t := Term.string "BeckChoiceModel" 121) (cls := "java/lang/String") (hg _ (b_fl 258 rfl))
    have r3 := vk_R.of (hts _ (b_m7 102 rfl)) q1
    have e3 : adK 1 = a := b_eqR (hg _ (b_fl 275 rfl)) (hE 1 (by decide)) q1
    rw [← e3] at r3
    refine List.forall_mem_cons.mpr ⟨?_, List.forall_mem_cons.mpr ⟨?_, List.forall_mem_cons.mpr ⟨?_, List.forall_mem_cons.mpr ⟨?_, fun _ h => absurd h List.not_mem_nil⟩⟩⟩⟩
    · show vk_R _ _ _ (b_ad adK adV f b (1000000 + 0)) s
      rw [b_adK (by decide)]; exact r0
    · show vk_R _ _ _ (b_ad adK adV f b (1000000 + 1)) s
      rw [b_adK (by decide)]; exact r1
    · show vk_R _ _ _ (b_ad adK adV f b (1000000 + 2)) s
      rw [b_adK (by decide)]; exact r2
    · show vk_R _ _ _ (b_ad adK adV f b (1000000 + 1)) s
      rw [b_adK (by decide)]; exact r3
  · exact va_Zof (hts _ (b_m3 103 rfl)) (hts _ (b_m1 17 rfl)) (va_eqt (hg _ (b_fl 4 rfl))) hA
  · have e : a_rv (b_ad adK adV f b) 1500000 = b_nz f := by
      unfold a_rv b_nz
      rw [if_pos rfl, b_adf]
      cases f <;> rfl
    rw [e]
    exact hf
/-- the world at the entry: nothing made yet -/
theorem b_W {D : va_G} {s : State} (ad : Nat → Nat) (ac : Nat → ClassId) (bc bs : Nat) (hK : va_K D vwCl [] s) : a_W D ad ac (CX 1 [] [] bc bs) (fun q => s.heap.size ≤ q) s s.heap [] := by
  have e1 : (CX 1 [] [] bc bs).1 = [.inr (7, 0)] := by
    show SH.take 1 = _
    decide +kernel
  have e2 : a_ws ad ac (CX 1 [] [] bc bs) = [] := by
    unfold a_ws
    rw [e1]
    rfl
  refine ⟨hK, fun n kd len h => ?_, ?_, ?_, fun _ h => h, va_S.rf, ⟨[], e1⟩, ?_, fun n k _ => ?_⟩
  · rw [e1] at h; simp at h
  · rw [e2]; exact fun k q h => by simp at h
  · rw [e2]; exact ⟨fun i j p q h => by simp at h, fun k q h => by simp at h⟩
  · rw [e1]; decide
  · rw [e1]; show mrL [] n k < 1; exact Nat.zero_lt_one
