/-! ===== the reference: can, sure, fairest, bearing ===== -/
theorem take_s {ls : List Nat} {i c : Nat} (h : ls[i]? = some c) : ls.take (i + 1) = ls.take i ++ [c] := by rw [List.take_add_one, h]; rfl
theorem ex_at {ls : List Nat} {i : Nat} (h : i < ls.length) : ∃ c, ls[i]? = some c := ⟨ls[i], List.getElem?_eq_getElem h⟩
def canB (ls : List Nat) (b r : Nat) : Bool := ls.any (fun c => decide (chW c b = some r))
theorem canB_s {ls : List Nat} {b r c : Nat} : canB (ls ++ [c]) b r = (canB ls b r || decide (chW c b = some r)) := by simp [canB]
theorem canB_0 {b r : Nat} : canB [] b r = false := rfl
theorem can_none {ls : List Nat} {b c n : Nat} (e : chW c b = none) : enc (canB (ls ++ [c]) b) n = enc (canB ls b) n := enc_congr (fun r _ => by rw [canB_s, e]; simp)
theorem can_some {ls : List Nat} {b c r : Nat} (hr : r < 4) (e : chW c b = some r) : nI (enc (canB ls b) 4) ||| ((1 : Int32) <<< (nI r &&& 31)) = nI (enc (canB (ls ++ [c]) b) 4) := by
  rw [enc_set (by decide) hr]
  congr 1
  refine enc_congr (fun y _ => ?_)
  rw [canB_s, e]
  by_cases q : y = r
  · subst q; simp
  · simp [q, Ne.symm q]
theorem c_R_can {l : Launch} {h : Nat} {mi : TMi} {ml : TMl} {z : Nat} {a : Ln} {d : Dt} {x : Int32} {Q : Int32 → TMi → TMl → Nat → Prop} (hA : RA mi a d)
    (hq : ∀ mi', FQ mi mi' → Q (if inB a x then nI (enc (canB (hlA a d) x.toInt.toNat) 4) else -2) mi' ml z) : CI l (h + 7) m_R_can [.ref 119, .int x] mi ml z Q := by
  have F0 : FQ mi (up mi 119 0 0) := FQ.u119 _ _ (by decide)
  have hA0 := hA.q F0
  have ha := hA.1
  refine t_R_can mi ml z _ (c_R_isBeck hA0.2.2.2.1.1 ha.1 ?_)
  rw [t64]
  refine ⟨fun c => c_held hA0 (fun m1 F1 hA1 hT1 hH1 hs1 => ?_), fun c => ?_⟩
  · rw [bI_0, Bool.not_eq_false, decide_eq_true_eq] at c
    obtain ⟨ex, hb⟩ := inB_nI (a := a) c
    have hq := hq m1 (F0.trans F1)
    rw [if_pos c] at hq
    generalize x.toInt.toNat = b at ex hb hq
    rw [ex]
    have h15 := hl_15 (d := d) ha
    generalize hlA a d = ls at hq hs1 h15
    have hb6 : b < 10 := by have := ha.1; omega
    refine loop (P := fun i => Ev l (h + 7) m_R_can 25 ([.ref 119, .int (nI b), .int (nI (enc (canB (ls.take i) b) 4)), .int (nI i)], [], st m1 ml z) (qI Q)) ls.length ?_ (fun i hi ih => ?_)
    · rw [List.take_length]
      exact t_R_can_25 m1 ml z _ _ _ ⟨fun _ => hq, fun c => absurd (le_at hs1.1 (by omega)) c⟩
    · obtain ⟨ci, hci⟩ := ex_at hi
      have hmi := h15.1 ci (List.mem_of_getElem? hci)
      refine t_R_can_25 m1 ml z _ _ _ ⟨fun c => absurd c (ge_no hs1.1 (by omega) hi), fun _ => ⟨in_nI (by omega) (by decide), ?_⟩⟩
      rw [cl_nI (by omega), hs1.2 i ci hci]
      refine c_R_placeIn (by omega) hb6 ?_
      rw [take_s hci] at ih
      rw [nI_1]
      cases e : chW ci b with
      | none =>
        rw [can_none e] at ih
        rw [Int32.or_zero]
        exact ⟨fun q => absurd rfl q, fun _ => ih⟩
      | some r =>
        have hr := chW_lt e
        refine ⟨fun _ => ⟨in_nI (by omega) (by decide), ?_⟩, fun q => absurd q (neg1_ne (by omega))⟩
        rw [hs1.2 i ci hci]
        refine c_R_placeIn (by omega) hb6 ?_
        rw [e, show oI (some r) = nI r from rfl, can_some hr e]
        exact ih
  · rw [bI_0, decide_eq_false_iff_not] at c
    have hq := hq _ F0
    rw [if_neg c] at hq
    exact hq
def sameB (ls : List Nat) (c0 b : Nat) : Bool := ls.all (fun c => decide (chW c b = chW c0 b))
theorem sameB_s {ls : List Nat} {b c c0 : Nat} : sameB (ls ++ [c]) c0 b = (sameB ls c0 b && decide (chW c b = chW c0 b)) := by simp [sameB]
theorem same_iff {a : Ln} {d : Dt} {be wo : Nat → Option Nat} {c0 b : Nat} (ha : okLn a) (hbe : BestA a d be) (hwo : WorstA a d wo) (h0 : (hlA a d)[0]? = some c0) (hb : b < nB a) : sameB (hlA a d) c0 b = decide (be b = wo b) := by
  have hin1 := hbe.1.in_hl ha.1 ha.2.1
  have hin2 := hwo.1.in_hl ha.1 ha.2.1
  have hm0 := (mem_hl ha.1).mp (List.mem_of_getElem? h0)
  rw [Bool.eq_iff_iff, decide_eq_true_eq]
  unfold sameB
  rw [List.all_eq_true]
  constructor
  · intro h
    have k1 := h _ hin1.1
    have k2 := h _ hin2.1
    rw [decide_eq_true_eq, hin1.2 b hb] at k1
    rw [decide_eq_true_eq, hin2.2 b hb] at k2
    rw [k1, k2]
  · intro h c hc
    rw [decide_eq_true_eq]
    have key : ∀ c, Stb (nB a) (nR a) (lkD a d) (tkD a d) (dR d) (chW c) → chW c b = be b := fun c hc => by
      rcases hold_bd ha.2.1 hbe hwo hc b hb with k | ⟨r, r1, r2, k1, k2, k3, k4, k5⟩
      · rw [k.1, k.2.1]
      · rw [h, k3] at k2
        cases k2
        have g1 := (hc.1 b r hb k1).1
        have g2 := (hwo.1.1 b r1 hb k3).1
        have := ha.2.1
        rw [k1, h, k3, pbO_inj (L := lkD a d) (b := b) (show r < 4 by omega) (show r1 < 4 by omega) (by omega)]
    rw [key c ((mem_hl ha.1).mp hc).2, key c0 hm0.2]
theorem c_R_sure {l : Launch} {h : Nat} {mi : TMi} {ml : TMl} {z : Nat} {a : Ln} {d : Dt} {be wo : Nat → Option Nat} {Q : Int32 → TMi → TMl → Nat → Prop} (hA : RA mi a d) (hbe : BestA a d be) (hwo : WorstA a d wo)
    (hq : ∀ mi', FQ mi mi' → Q (nI (enc (fun b => decide (be b = wo b)) (nB a))) mi' ml z) : CI l (h + 7) m_R_sure [.ref 119] mi ml z Q := by
  have F0 : FQ mi (up mi 119 0 0) := FQ.u119 _ _ (by decide)
  have hA0 := hA.q F0
  have ha := hA.1
  refine t_R_sure mi ml z (c_held hA0 (fun m1 F1 hA1 hT1 hH1 hs1 => ?_))
  have hq := hq m1 (F0.trans F1)
  have h15 := hl_15 (d := d) ha
  have hin1 := hbe.1.in_hl ha.1 ha.2.1
  have hpos : 0 < (hlA a d).length := List.length_pos_of_mem hin1.1
  obtain ⟨c0, h0⟩ := ex_at hpos
  have hsame := fun b hb => same_iff (b := b) ha hbe hwo h0 hb
  rw [← enc_congr (p := fun b => sameB (hlA a d) c0 b) (fun b hb => hsame b hb)] at hq
  have hm0 := h15.1 c0 (List.mem_of_getElem? h0)
  clear hsame hin1
  generalize hlA a d = ls at hq hs1 h15 h0 hpos
  have hB6 := ha.1
  refine loop (P := fun i => Ev l (h + 7) m_R_sure 13 ([.ref 119, .int (nI (enc (fun b => sameB ls c0 b) i)), .int (nI i), .retAddr 0, .retAddr 0], [], st m1 ml z) (qI Q)) (nB a) ?_ (fun i hi ih => ?_)
  · exact t_R_sure_13 m1 ml z _ _ ⟨fun _ => hq, fun c => absurd (le_at hA1.2.2.2.1.1 (by omega)) c⟩
  · refine t_R_sure_13 m1 ml z _ _ ⟨fun c => absurd c (ge_no hA1.2.2.2.1.1 (by omega) hi), fun _ => ?_⟩
    have e1 : sameB (ls.take 1) c0 i = true := by rw [take_s h0]; simp [sameB]
    refine loop (P := fun j => Ev l (h + 7) m_R_sure 28 ([.ref 119, .int (nI (enc (fun b => sameB ls c0 b) i)), .int (nI i), .int (bI (sameB (ls.take (j + 1)) c0 i)), .int (nI (j + 1))], [], st m1 ml z) (qI Q)) (ls.length - 1) ?_ (fun j hj ihj => ?_) |> fun k => by rw [e1] at k; exact k
    · rw [show ls.length - 1 + 1 = ls.length by omega, List.take_length]
      refine t_R_sure_28 m1 ml z _ _ _ _ ⟨fun _ => ?_, fun c => absurd (le_at hs1.1 (by omega)) c⟩
      rw [nI_1]
      refine ⟨fun q => ?_, fun q => ?_⟩
      · rw [bI_0] at q
        rw [Int32.or_zero, enc_skip (p := fun b => sameB ls c0 b) q]
        exact ih
      · rw [bI_0] at q
        rw [enc_step (p := fun b => sameB ls c0 b) (by omega) (by simpa using q)]
        exact ih
    · obtain ⟨cj, hcj⟩ := ex_at (show j + 1 < ls.length by omega)
      have hmj := h15.1 cj (List.mem_of_getElem? hcj)
      refine t_R_sure_28 m1 ml z _ _ _ _ ⟨fun c => absurd c (ge_no hs1.1 (by omega) (by omega)), fun _ => ⟨in_nI (by omega) (by decide), ?_⟩⟩
      rw [cl_nI (by omega), hs1.2 (j + 1) cj hcj]
      refine c_R_placeIn (by omega) (by omega) ?_
      rw [hs1.2 0 c0 h0]
      refine c_R_placeIn (by omega) (by omega) ?_
      rw [take_s hcj, sameB_s] at ihj
      rw [nI_1]
      refine ⟨fun q => ?_, fun q => ?_⟩
      · have e : decide (chW cj i = chW c0 i) = false := decide_eq_false (fun k => q (by rw [k]))
        rw [e, Bool.and_false] at ihj
        rw [show bI (sameB (ls.take (j + 1)) c0 i) &&& 0 = bI false from Int32.and_zero]
        exact ihj
      · have e : decide (chW cj i = chW c0 i) = true := decide_eq_true (oI_inj (fun n k => by have := chW_lt k; omega) (fun n k => by have := chW_lt k; omega) q)
        rw [e, Bool.and_true] at ihj
        have e2 : ∀ p : Bool, bI p &&& 1 = bI p := by decide
        rw [e2]
        exact ihj
/-- greatest of n, of a list -/
def mxn (f : Nat → Nat) : Nat → Nat
  | 0 => 0
  | n + 1 => max (mxn f n) (f n)
theorem mxn_congr {f g : Nat → Nat} : ∀ {n : Nat}, (∀ b, b < n → f b = g b) → mxn f n = mxn g n
  | 0, _ => rfl
  | n + 1, h => by simp only [mxn, mxn_congr (n := n) (fun b hb => h b (by omega)), h n (by omega)]
theorem mxn_le {f : Nat → Nat} {c : Nat} : ∀ {n : Nat}, (∀ b, b < n → f b ≤ c) → mxn f n ≤ c
  | 0, _ => Nat.zero_le _
  | n + 1, h => by
    have := mxn_le (f := f) (c := c) (n := n) (fun b hb => h b (by omega))
    have := h n (by omega)
    simp only [mxn]
    omega
def rkX (L : Nat → Nat → Int) (R b : Nat) : Option Nat → Nat
  | none => 9
  | some r => rkO L R b r
def rkW (L : Nat → Nat → Int) (R : Nat) (wo : Nat → Option Nat) (b : Nat) : Nat := rkX L R b (wo b)
theorem c_rank {l : Launch} {h : Nat} {mi : TMi} {ml : TMl} {z : Nat} {b B R : Nat} {x : Option Nat} {Q : Int32 → TMi → TMl → Nat → Prop} (hB6 : B ≤ 6) (hR : mi 120 2 = nI R) (hR4 : R ≤ 4) (hd : bdA mi 126 B R) (hb : b < B) (hx : ∀ r, x = some r → r < R) (hq : Q (nI (rkX (Lk mi 126) R b x)) mi ml z) : CI l (h + 2) m_R_rankOf [.ref 119, .int (nI b), .int (oI x)] mi ml z Q := by
  cases x with
  | none => exact c_R_rankOf (x := none) hB6 hR hR4 hd hb hx hq
  | some r => exact c_R_rankOf (x := some r) hB6 hR hR4 hd hb hx hq
def frs (g : Nat → Nat) (x : Option (Nat × Nat)) (c : Nat) : Option (Nat × Nat) := match x with
  | none => some (c, g c)
  | some (c0, n) => if g c < n then some (c, g c) else some (c0, n)
def fr (g : Nat → Nat) (ls : List Nat) : Option (Nat × Nat) := ls.foldl (frs g) none
theorem fr_s {g : Nat → Nat} {ls : List Nat} {c : Nat} : fr g (ls ++ [c]) = frs g (fr g ls) c := by simp [fr]
def frN (x : Option (Nat × Nat)) : Int32 := match x with | none => -1 | some (c, _) => nI c
def frR (x : Option (Nat × Nat)) (o : Nat) : Nat := match x with | none => o | some (_, n) => n
theorem frR_le {g : Nat → Nat} {c : Nat} (h : ∀ x, g x ≤ c) : ∀ (ls : List Nat) (x : Option (Nat × Nat)) (o : Nat), c < o → frR x o ≤ o → frR (ls.foldl (frs g) x) o ≤ o
  | [], x, o, ho, hx => hx
  | y :: ys, x, o, ho, hx => by
    simp only [List.foldl]
    refine frR_le h ys _ o ho ?_
    unfold frs
    cases x with
    | none => simp [frR]; have := h y; omega
    | some p =>
      obtain ⟨c0, n⟩ := p
      dsimp only
      by_cases q : g y < n
      · rw [if_pos q]; simp [frR]; have := h y; omega
      · rw [if_neg q]; exact hx
/-- a step: the new one is taken if it is less -/
theorem frs_lt {g : Nat → Nat} {x : Option (Nat × Nat)} {c o : Nat} (ho : g c < o) : frs g x c = if g c < frR x o then some (c, g c) else x := by
  cases x with
  | none => simp [frs, frR, ho]
  | some p => obtain ⟨c0, n⟩ := p; rfl
def grA (a : Ln) (d : Dt) (c : Nat) : Nat := mxn (rkW (lkD a d) (nR a) (chW c)) (nB a)
theorem rkW_le {L : Nat → Nat → Int} {R : Nat} {wo : Nat → Option Nat} {b : Nat} (hR : R ≤ 4) : rkW L R wo b ≤ 9 := by
  unfold rkW rkX
  cases wo b with
  | none => exact Nat.le_refl _
  | some r => have := cnt_le (fun o => decide (pbO L b r < pbO L b o)) R; simp only [rkO]; omega
theorem grA_le {a : Ln} {d : Dt} (ha : okLn a) (c : Nat) : grA a d c ≤ 9 := mxn_le (fun b _ => rkW_le ha.2.1)
theorem rkO_LT {mi : TMi} {a : Ln} {d : Dt} (h : LT mi a d) {b r : Nat} (hb : b < nB a) (hr : r < nR a) : rkO (Lk mi 126) (nR a) b r = rkO (lkD a d) (nR a) b r := by
  unfold rkO
  exact cnt_congr (fun o ho => by rw [h.pb hb hr, h.pb hb ho])
theorem far_ex : ∃ n : Nat, (268435456 : Int32) = nI n ∧ 9 < n ∧ n < 2 ^ 31 := ⟨(268435456 : Int32).toInt.toNat, nI_toNat (by decide), by decide, by decide⟩
theorem c_R_fairest {l : Launch} {h : Nat} {mi : TMi} {ml : TMl} {z : Nat} {a : Ln} {d : Dt} {Q : Int32 → TMi → TMl → Nat → Prop} (hA : RA mi a d)
    (hq : ∀ mi', FQ mi mi' → Q (frN (fr (grA a d) (hlA a d))) mi' ml z) : CI l (h + 7) m_R_fairest [.ref 119] mi ml z Q := by
  have F0 : FQ mi (up mi 119 0 0) := FQ.u119 _ _ (by decide)
  have ha := hA.1
  have hB6 := ha.1
  refine t_R_fairest mi ml z (c_held (hA.q F0) (fun m1 F1 hA1 hT1 hH1 hs1 => ?_))
  have hq := hq m1 (F0.trans F1)
  obtain ⟨FA, hFA, hF9, hF31⟩ := far_ex
  rw [hFA]
  have h15 := hl_15 (d := d) ha
  have hst : ∀ c, c ∈ hlA a d → ∀ b r, b < nB a → chW c b = some r → r < nR a := fun c hc b r hb e => (((mem_hl ha.1).mp hc).2.1 b r hb e).1
  generalize hlA a d = ls at hq hs1 h15 hst
  have hg := grA_le (d := d) ha
  refine loop (P := fun i => Ev l (h + 7) m_R_fairest 17 ([.ref 119, .int (frN (fr (grA a d) (ls.take i))), .int (nI (frR (fr (grA a d) (ls.take i)) FA)), .int (nI i), .retAddr 0, .retAddr 0], [], st m1 ml z) (qI Q)) ls.length ?_ (fun i hi ih => ?_)
  · rw [List.take_length]
    exact t_R_fairest_17 m1 ml z _ _ _ ⟨fun _ => hq, fun c => absurd (le_at hs1.1 (by omega)) c⟩
  · obtain ⟨ci, hci⟩ := ex_at hi
    have hmem := List.mem_of_getElem? hci
    have hmi := h15.1 ci hmem
    refine t_R_fairest_17 m1 ml z _ _ _ ⟨fun c => absurd c (ge_no hs1.1 (by omega) hi), fun _ => ?_⟩
    rw [take_s hci, fr_s, frs_lt (o := FA) (by have := hg ci; omega)] at ih
    have hle : frR (fr (grA a d) (ls.take i)) FA ≤ FA := frR_le hg _ none _ hF9 (Nat.le_refl _)
    generalize fr (grA a d) (ls.take i) = ac at ih hle
    refine loop (P := fun j => Ev l (h + 7) m_R_fairest 31 ([.ref 119, .int (frN ac), .int (nI (frR ac FA)), .int (nI i), .int (nI (mxn (rkW (lkD a d) (nR a) (chW ci)) j)), .int (nI j)], [], st m1 ml z) (qI Q)) (nB a) ?_ (fun j hj ihj => ?_)
    · refine t_R_fairest_31 m1 ml z _ _ _ _ _ ⟨fun _ => ?_, fun c => absurd (le_at hA1.2.2.2.1.1 (by omega)) c⟩
      have := hg ci
      show (nI (grA a d ci) < _ → _) ∧ (¬ nI (grA a d ci) < _ → _)
      rw [nI_ltI (by omega) (by omega), nI_1, cl_nI (by omega), hs1.2 i ci hci]
      refine ⟨fun q => ⟨in_nI (by omega) (by decide), ?_⟩, fun q => ?_⟩
      · rw [if_pos q] at ih
        exact ih
      · rw [if_neg q] at ih
        exact ih
    · refine t_R_fairest_31 m1 ml z _ _ _ _ _ ⟨fun c => absurd c (ge_no hA1.2.2.2.1.1 (by omega) hj), fun _ => ⟨in_nI (by omega) (by decide), ?_⟩⟩
      rw [cl_nI (show i < 2 ^ 31 by omega), hs1.2 i ci hci, nI_1]
      have hx : ∀ r, chW ci j = some r → r < nR a := fun r e => hst ci hmem j r hj e
      have er : rkX (Lk m1 126) (nR a) j (chW ci j) = rkW (lkD a d) (nR a) (chW ci) j := by
        unfold rkW
        cases e : chW ci j with
        | none => simp only [rkX]
        | some r => exact rkO_LT hT1 hj (hx r e)
      have hr9 := rkW_le (L := lkD a d) (wo := chW ci) (b := j) ha.2.1
      have hm9 : mxn (rkW (lkD a d) (nR a) (chW ci)) j ≤ 9 := mxn_le (fun b _ => rkW_le ha.2.1)
      have hd6 := hT1.b6 ha hA.2.1.v hA.2.2.1
      refine c_R_placeIn (by omega) (by omega) (c_rank ha.1 hA1.2.2.2.1.2.1 ha.2.1 hd6 hj hx ?_)
      rw [er, nI_leI (by omega) (by omega)]
      refine ⟨fun q => ?_, fun q => ⟨in_nI (by omega) (by decide), ?_⟩⟩
      · have : mxn (rkW (lkD a d) (nR a) (chW ci)) (j + 1) = mxn (rkW (lkD a d) (nR a) (chW ci)) j := by simp only [mxn]; omega
        rw [this] at ihj
        exact ihj
      · rw [hs1.2 i ci hci]
        refine c_R_placeIn (by omega) (by omega) (c_rank ha.1 hA1.2.2.2.1.2.1 ha.2.1 hd6 hj hx ?_)
        have : mxn (rkW (lkD a d) (nR a) (chW ci)) (j + 1) = rkW (lkD a d) (nR a) (chW ci) j := by simp only [mxn]; omega
        rw [this] at ihj
        rw [er]
        exact ihj
def mxl (g : Nat → Nat) (ls : List Nat) : Nat := ls.foldl (fun m c => max m (g c)) 0
theorem mxl_s {g : Nat → Nat} {ls : List Nat} {c : Nat} : mxl g (ls ++ [c]) = max (mxl g ls) (g c) := by simp [mxl]
theorem mxl_le {g : Nat → Nat} {k : Nat} (h : ∀ c, g c ≤ k) : ∀ (ls : List Nat) (x : Nat), x ≤ k → ls.foldl (fun m c => max m (g c)) x ≤ k
  | [], x, hx => hx
  | y :: ys, x, hx => by simp only [List.foldl]; exact mxl_le h ys _ (by have := h y; omega)
def flW (a : Ln) (d : Dt) (r c : Nat) : Nat := smn (inn (chW c) r) (dF d) (nB a)
theorem flW_le {a : Ln} {d : Dt} (ha : okLn a) (hd : okD a d) (r c : Nat) : flW a d r c ≤ 54 := by
  have := smn_le (inn (chW c) r) (dF d) 9 (nB a) (fun b _ => (hd.2.1 b).1)
  have := ha.1
  unfold flW
  omega
theorem c_R_bearing {l : Launch} {h : Nat} {mi : TMi} {ml : TMl} {z : Nat} {a : Ln} {d : Dt} {x : Int32} {Q : Int32 → TMi → TMl → Nat → Prop} (hA : RA mi a d)
    (hq : ∀ mi', FQ mi mi' → Q (if inR a x then nI (mxl (flW a d x.toInt.toNat) (hlA a d)) else -2) mi' ml z) : CI l (h + 7) m_R_bearing [.ref 119, .int x] mi ml z Q := by
  have F0 : FQ mi (up mi 119 0 0) := FQ.u119 _ _ (by decide)
  have hA0 := hA.q F0
  have ha := hA.1
  have hB6 := ha.1
  have hR4 := ha.2.1
  refine t_R_bearing mi ml z _ (c_R_isRiver hA0.2.2.2.1.2.1 ha.2.1 ?_)
  rw [t64]
  refine ⟨fun c => c_held hA0 (fun m1 F1 hA1 hT1 hH1 hs1 => ?_), fun c => ?_⟩
  · rw [bI_0, Bool.not_eq_false, decide_eq_true_eq] at c
    obtain ⟨ex, hr⟩ := inR_nI (a := a) c
    rw [if_pos c] at hq
    generalize x.toInt.toNat = r at ex hr hq
    rw [ex]
    have h15 := hl_15 (d := d) ha
    have hst : ∀ c, c ∈ hlA a d → digs (nR a) c = true ∧ ∀ b r, b < nB a → chW c b = some r → r < nR a := fun c hc => by
      have h1 := (mem_hl ha.1).mp hc
      have := (hp_iff ha.1 h1.1).mpr h1.2
      unfold hp at this
      rw [Bool.and_eq_true, Bool.and_eq_true] at this
      exact ⟨this.1.1, fun b r hb e => (h1.2.1 b r hb e).1⟩
    generalize hlA a d = ls at hq hs1 h15 hst
    refine loop (P := fun i => ∀ m2, FQ m1 m2 → HdS m2 ls → RA m2 a d → Ev l (h + 7) m_R_bearing 25 ([.ref 119, .int (nI r), .int (nI (mxl (flW a d r) (ls.take i))), .int (nI i), .retAddr 0], [], st m2 ml z) (qI Q)) ls.length (fun m2 F2 hs2 hA2 => ?_) (fun i hi ih m2 F2 hs2 hA2 => ?_) m1 (FQ.refl _) hs1 hA1
    · rw [List.take_length]
      exact t_R_bearing_25 m2 ml z _ _ _ ⟨fun _ => hq m2 ((F0.trans F1).trans F2), fun c => absurd (le_at hs2.1 (by omega)) c⟩
    · obtain ⟨ci, hci⟩ := ex_at hi
      have hmem := List.mem_of_getElem? hci
      have hmi := h15.1 ci hmem
      refine t_R_bearing_25 m2 ml z _ _ _ ⟨fun c => absurd c (ge_no hs2.1 (by omega) hi), fun _ => ⟨in_nI (by omega) (by decide), ?_⟩⟩
      rw [cl_nI (show i < 2 ^ 31 by omega), hs2.2 i ci hci, nI_1]
      refine c_R_laysChoice hA2.2.2.2.1.2.1 hR4 (by omega) (fun m3 F3 hw3 => ?_)
      have F3q : FQ m2 m3 := FQ.of F3 (fun n hn => by simp; omega)
      have hA3 := hA2.q F3q
      have hiw : isW (m3 129) (nB a) (nR a) (chW ci) := fun b hb => ⟨hw3 (hst ci hmem).1 b (by omega), fun r e => (hst ci hmem).2 b r hb e⟩
      refine c_R_becksBy hA3.2.2.2.1.1 hB6 ?_
      rw [isW_enc hiw hR4 (show r < 4 by omega)]
      refine c_R_flowOf hA3.2.2.2.1.1 hB6 (enc_64 _ hB6) (f := dF d) (fun b hb => cr_fl hA3.2.2.2.2 (by omega)) ?_
      rw [smn_enc]
      have h54 := flW_le ha hA.2.1 r
      have hm54 := mxl_le h54 (ls.take i) 0 (by omega)
      have e1 := hA3
      rw [take_s hci, mxl_s] at ih
      have ih := ih m3 (F2.trans F3q) (hs2.fr (by rw [F3 119 (by decide)]) (F3 130 (by decide))) hA3
      show (nI (flW a d r ci) ≤ nI (mxl (flW a d r) (ls.take i)) → _) ∧ (¬ nI (flW a d r ci) ≤ nI (mxl (flW a d r) (ls.take i)) → _)
      have h54i := h54 ci
      rw [nI_leI (by omega) (show mxl (flW a d r) (ls.take i) < 2 ^ 31 by unfold mxl; omega)]
      refine ⟨fun q => ?_, fun q => ?_⟩
      · rw [Nat.max_eq_left q] at ih
        exact ih
      · rw [Nat.max_eq_right (by omega)] at ih
        exact ih
  · rw [bI_0, decide_eq_false_iff_not] at c
    have hq := hq _ F0
    rw [if_neg c] at hq
    exact hq
