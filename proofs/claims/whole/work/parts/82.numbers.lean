/-! ===== fault, numbers, write of both ===== -/
theorem upL_at (f : TMl) (n k : Nat) (x : Int64) : upL f n k x n k = x := by simp [upL, vp_updL]
theorem upL_nk (f : TMl) (n : Nat) {k j : Nat} (x : Int64) (h : j ≠ k) : upL f n k x n j = f n j := by simp [upL, vp_updL, h]
theorem upL_ne (f : TMl) {n m : Nat} (k : Nat) (x : Int64) (h : m ≠ n) : upL f n k x m = f m := by simp [upL, h]
theorem IC.tr {mi mi' : TMi} {ml ml' : TMl} {a : Ln} {d : Dt} {hs : List Dt} {im : Nat → Option (Ln × Dt)} {ty ty' : Ty} {n : Nat} {tp : Nat → Nat} {fk fp : Int32} (h : IC mi ml a d hs im ty n tp fk fp) (F : ∀ n, n ∉ SC → n < 111 → mi' n = mi n) (hT : TrC mi' ml' ty') : IC mi' ml' a d hs im ty' n tp fk fp := by
  obtain ⟨h1, h2, h3, h4, h5, h6, h7, h8, h9⟩ := h
  refine ⟨h1.fr (fun k k1 k2 => F k (by simp; omega) (by omega)), h2.fr (fun k k1 k2 => F k (by simp; omega) (by omega)), h3, h4.fr (fun k hk => F k (by simp; omega) (by omega)), hT, ⟨by rw [F 1 (by decide) (by decide)]; exact h6.1, h6.2.1, fun j hj => by rw [F 2 (by decide) (by decide)]; exact h6.2.2 j hj⟩, by rw [F 1 (by decide) (by decide)]; exact h7, by rw [F 1 (by decide) (by decide)]; exact h8, by rw [F 11 (by decide) (by decide)]; exact h9⟩
theorem IR.tr {mi mi' : TMi} {ml ml' : TMl} {a : Ln} {d : Dt} {hs : List Dt} {im : Nat → Option (Ln × Dt)} {ty ty' : Ty} {n : Nat} {tp : Nat → Nat} {fk fp : Int32} (h : IR mi ml a d hs im ty n tp fk fp) (F : ∀ n, n = 119 ∨ n = 120 ∨ n = 121 ∨ n = 122 → mi' n = mi n) (hT : TrR mi' ml' ty') : IR mi' ml' a d hs im ty' n tp fk fp := by
  obtain ⟨h1, h2, h3, h4, h5, h6, h7⟩ := h
  have e0 := F 120 (by omega)
  refine ⟨⟨h1.1, h1.2.1, h1.2.2.1, by rw [e0]; exact h1.2.2.2.1, h1.2.2.2.2.fr e0⟩, by rw [e0]; exact h2, fun i hi => ?_, hT, ⟨by rw [F 119 (by omega)]; exact h5.1, fun j hj => by rw [F 122 (by omega)]; exact h5.2 j hj⟩, by rw [F 119 (by omega)]; exact h6, by rw [F 119 (by omega)]; exact h7⟩
  rw [F 121 (by omega), e0]
  exact h3 i hi
def fltA (fk fp x : Int32) : Int32 := if x = 0 then fk else if x = 1 then fp else -1
theorem c_B_fault {l : Launch} {h : Nat} {mi : TMi} {ml : TMl} {z : Nat} {x : Int32} {Q : Int32 → TMi → TMl → Nat → Prop} (hq : Q (fltA (mi 1 5) (mi 1 6) x) mi ml z) : CI l (h + 1) m_B_fault [.ref 1, .int x] mi ml z Q := by
  unfold fltA at hq
  refine t_B_fault mi ml z _ ⟨fun c => ?_, fun c => ?_, fun c c2 => ?_⟩
  · rw [if_pos c] at hq; exact hq
  · rw [if_neg (by rw [c]; decide), if_pos c] at hq; exact hq
  · rw [if_neg c, if_neg c2] at hq; exact hq
theorem c_R_fault {l : Launch} {h : Nat} {mi : TMi} {ml : TMl} {z : Nat} {x : Int32} {Q : Int32 → TMi → TMl → Nat → Prop} (hq : ∀ mi', FQ mi mi' → Q (fltA (mi 119 13) (mi 119 14) x) mi' ml z) : CI l (h + 1) m_R_fault [.ref 119, .int x] mi ml z Q := by
  have hq := hq _ (FQ.u119 (k := 0) mi 0 (by decide))
  unfold fltA at hq
  rw [← up_nk mi 119 (0 : Int32) (show (13 : Nat) ≠ 0 by decide), ← up_nk mi 119 (0 : Int32) (show (14 : Nat) ≠ 0 by decide)] at hq
  refine t_R_fault mi ml z _ ⟨fun c => ⟨fun c2 => ?_, fun c2 => ?_⟩, fun c => ?_⟩
  · rw [if_neg c, if_neg c2] at hq; exact hq
  · rw [if_neg c, if_pos c2] at hq; exact hq
  · rw [if_pos c] at hq; exact hq
def mkT (ty : Ty) (t s n : Nat) : Ty := (fun i => if i = t then some s else ty.1 i, fun i => if i = t then n else ty.2.1 i, fun i j => if i = t then 0 else ty.2.2 i j)
def cutV (s : Int32) (v : Int64) : Int64 := if s = 0 then v.toInt32.toInt8.toInt32.toInt64 else if s = 1 then v.toInt32.toInt16.toInt32.toInt64 else if s = 2 then v.toInt32.toInt64 else v
theorem cl40 : ∀ n, n < 41 → (if (0 : Int32) < (if nI n > 40 then 40 else nI n) then if nI n > 40 then 40 else nI n else 0) = nI n := by decide +kernel
theorem sub1_40 : ∀ n, n < 41 → (nI n - 1).toInt = (n : Int) - 1 := by decide +kernel
theorem c_fill2_112 {l : Launch} {h : Nat} {mi : TMi} {ml : TMl} {z : Nat} {x : Int64} {Q : TMi → TMl → Nat → Prop} (hq : ∀ ml', (∀ k, k ≠ 112 → ml' k = ml k) → (∀ j, j < 40 → ml' 112 j = x) → Q mi ml' z) : CV l (h + 1) m_JA_fill2 [.ref 112, .long x] mi ml z Q := by
  refine t_JA_fill2_112 mi ml z _ ?_
  refine loop (P := fun i => ∀ q, (∀ k, k ≠ 112 → q k = ml k) → (∀ j, j < i → q 112 j = x) → Ev l (h + 1) m_JA_fill2 6 ([.ref 112, .long x, .retAddr 0, .int (nI i), .int (nI 40)], [], st mi q z) (qV Q)) 40 (fun q F hk => t_JA_fill2_112_6 mi q z _ _ _ ⟨fun _ => hq q F hk, fun c => absurd (by decide) c⟩) (fun i hi ih q F hk => ?_) ml (fun _ _ => rfl) (fun j hj => absurd hj (Nat.not_lt_zero _))
  refine t_JA_fill2_112_6 mi q z _ _ _ ⟨fun c => absurd c (ge_no (N := 40) rfl (by decide) hi), fun _ => ⟨in_nI hi (by decide), ?_⟩⟩
  rw [cl_nI (by omega), nI_1]
  refine ih _ (fun k hk' => by rw [upL_ne _ _ _ hk']; exact F k hk') (fun j hj => ?_)
  by_cases e : j = i
  · rw [e, upL_at]
  · rw [upL_nk _ _ _ e]; exact hk j (by omega)
theorem c_Tr_make_111 {l : Launch} {h : Nat} {mi : TMi} {ml : TMl} {z : Nat} {s : Int32} {n : Nat} {Q : TMi → TMl → Nat → Prop} (hn : n ≤ 40) (hq : ∀ mi' ml', (∀ k, k ≠ 111 → mi' k = mi k) → mi' 111 1 = s → mi' 111 2 = nI n → (∀ k, k ≠ 112 → ml' k = ml k) → (∀ j, j < 40 → ml' 112 j = 0) → Q mi' ml' z) : CV l (h + 2) m_Tr_make [.ref 111, .int s, .int (nI n)] mi ml z Q := by
  refine t_Tr_make_111 mi ml z _ _ (c_fill2_112 (fun ml' E1 E2 => ?_))
  rw [cl40 n (by omega)]
  exact hq _ ml' (fun k hk => by rw [up_ne _ _ _ hk, up_ne _ _ _ hk]) (by rw [up_nk _ _ _ (by decide), up_at]) (up_at _ _ _ _) E1 E2
theorem c_hasPlace_111 {l : Launch} {h : Nat} {mi : TMi} {ml : TMl} {z : Nat} {y : Int32} {n : Nat} {Q : Int32 → TMi → TMl → Nat → Prop} (hn : mi 111 2 = nI n) (hn40 : n ≤ 40) (hq1 : 0 ≤ y.toInt ∧ y.toInt < n → Q 1 mi ml z) (hq0 : ¬ (0 ≤ y.toInt ∧ y.toInt < n) → Q 0 mi ml z) : CI l (h + 1) m_Tr_hasPlace [.ref 111, .int y] mi ml z Q := by
  refine t_Tr_hasPlace_111 mi ml z _ ?_
  rw [hn, Int32.lt_iff_toInt_lt, Int32.le_iff_toInt_le, show (0 : Int32).toInt = 0 by decide, nI_toInt (by omega)]
  exact ⟨fun c => hq0 (by omega), fun c => ⟨fun c2 => hq0 (by omega), fun c2 => hq1 (by omega)⟩⟩
theorem c_Tr_put_111 {l : Launch} {h : Nat} {mi : TMi} {ml : TMl} {z : Nat} {s : Int32} {i n : Nat} {v : Int64} {Q : Int64 → TMi → TMl → Nat → Prop} (h1 : mi 111 1 = s) (h2 : mi 111 2 = nI n) (hn40 : n ≤ 40) (hi : i < n) (hq : Q (cutV s v) mi (upL ml 112 i (cutV s v)) z) : CLg l (h + 2) m_Tr_put [.ref 111, .int (nI i), .long v] mi ml z Q := by
  refine t_Tr_put_111 mi ml z _ _ (t_Tr_cutTo_111 mi ml z _ ?_)
  have key : CI l (h + 1) m_Tr_hasPlace [.ref 111, .int (nI i)] mi ml z (fun x2 mi2 ml2 z2 => ((x2 = 0 → Q (cutV s v) mi2 ml2 z2) ∧ (¬ x2 = 0 → (vp_in (nI i) 40) ∧ Q (cutV s v) mi2 (upL ml2 112 (nI i).toNatClampNeg (cutV s v)) z2))) := by
    refine c_hasPlace_111 h2 hn40 (fun _ => ⟨fun c => absurd c (by decide), fun _ => ⟨in_nI (by omega) (by decide), by rw [cl_nI (by omega)]; exact hq⟩⟩) (fun c => absurd (show 0 ≤ (nI i).toInt ∧ (nI i).toInt < n by rw [nI_toInt (by omega)]; omega) c)
  rw [h1]
  refine ⟨fun c => ?_, fun c => ?_, fun c => ?_, fun c0 c1 c2 => ?_⟩
  · rw [show cutV s v = v.toInt32.toInt8.toInt32.toInt64 from if_pos c] at key; exact key
  · rw [show cutV s v = v.toInt32.toInt16.toInt32.toInt64 by unfold cutV; rw [if_neg (by rw [c]; decide), if_pos c]] at key; exact key
  · rw [show cutV s v = v.toInt32.toInt64 by unfold cutV; rw [if_neg (by rw [c]; decide), if_neg (by rw [c]; decide), if_pos c]] at key; exact key
  · rw [show cutV s v = v by unfold cutV; rw [if_neg c0, if_neg c1, if_neg c2]] at key; exact key
theorem c_fill2_114 {l : Launch} {h : Nat} {mi : TMi} {ml : TMl} {z : Nat} {x : Int64} {Q : TMi → TMl → Nat → Prop} (hq : ∀ ml', (∀ k, k ≠ 114 → ml' k = ml k) → (∀ j, j < 40 → ml' 114 j = x) → Q mi ml' z) : CV l (h + 1) m_JA_fill2 [.ref 114, .long x] mi ml z Q := by
  refine t_JA_fill2_114 mi ml z _ ?_
  refine loop (P := fun i => ∀ q, (∀ k, k ≠ 114 → q k = ml k) → (∀ j, j < i → q 114 j = x) → Ev l (h + 1) m_JA_fill2 6 ([.ref 114, .long x, .retAddr 0, .int (nI i), .int (nI 40)], [], st mi q z) (qV Q)) 40 (fun q F hk => t_JA_fill2_114_6 mi q z _ _ _ ⟨fun _ => hq q F hk, fun c => absurd (by decide) c⟩) (fun i hi ih q F hk => ?_) ml (fun _ _ => rfl) (fun j hj => absurd hj (Nat.not_lt_zero _))
  refine t_JA_fill2_114_6 mi q z _ _ _ ⟨fun c => absurd c (ge_no (N := 40) rfl (by decide) hi), fun _ => ⟨in_nI hi (by decide), ?_⟩⟩
  rw [cl_nI (by omega), nI_1]
  refine ih _ (fun k hk' => by rw [upL_ne _ _ _ hk']; exact F k hk') (fun j hj => ?_)
  by_cases e : j = i
  · rw [e, upL_at]
  · rw [upL_nk _ _ _ e]; exact hk j (by omega)
theorem c_Tr_make_113 {l : Launch} {h : Nat} {mi : TMi} {ml : TMl} {z : Nat} {s : Int32} {n : Nat} {Q : TMi → TMl → Nat → Prop} (hn : n ≤ 40) (hq : ∀ mi' ml', (∀ k, k ≠ 113 → mi' k = mi k) → mi' 113 1 = s → mi' 113 2 = nI n → (∀ k, k ≠ 114 → ml' k = ml k) → (∀ j, j < 40 → ml' 114 j = 0) → Q mi' ml' z) : CV l (h + 2) m_Tr_make [.ref 113, .int s, .int (nI n)] mi ml z Q := by
  refine t_Tr_make_113 mi ml z _ _ (c_fill2_114 (fun ml' E1 E2 => ?_))
  rw [cl40 n (by omega)]
  exact hq _ ml' (fun k hk => by rw [up_ne _ _ _ hk, up_ne _ _ _ hk]) (by rw [up_nk _ _ _ (by decide), up_at]) (up_at _ _ _ _) E1 E2
theorem c_hasPlace_113 {l : Launch} {h : Nat} {mi : TMi} {ml : TMl} {z : Nat} {y : Int32} {n : Nat} {Q : Int32 → TMi → TMl → Nat → Prop} (hn : mi 113 2 = nI n) (hn40 : n ≤ 40) (hq1 : 0 ≤ y.toInt ∧ y.toInt < n → Q 1 mi ml z) (hq0 : ¬ (0 ≤ y.toInt ∧ y.toInt < n) → Q 0 mi ml z) : CI l (h + 1) m_Tr_hasPlace [.ref 113, .int y] mi ml z Q := by
  refine t_Tr_hasPlace_113 mi ml z _ ?_
  rw [hn, Int32.lt_iff_toInt_lt, Int32.le_iff_toInt_le, show (0 : Int32).toInt = 0 by decide, nI_toInt (by omega)]
  exact ⟨fun c => hq0 (by omega), fun c => ⟨fun c2 => hq0 (by omega), fun c2 => hq1 (by omega)⟩⟩
theorem c_Tr_put_113 {l : Launch} {h : Nat} {mi : TMi} {ml : TMl} {z : Nat} {s : Int32} {i n : Nat} {v : Int64} {Q : Int64 → TMi → TMl → Nat → Prop} (h1 : mi 113 1 = s) (h2 : mi 113 2 = nI n) (hn40 : n ≤ 40) (hi : i < n) (hq : Q (cutV s v) mi (upL ml 114 i (cutV s v)) z) : CLg l (h + 2) m_Tr_put [.ref 113, .int (nI i), .long v] mi ml z Q := by
  refine t_Tr_put_113 mi ml z _ _ (t_Tr_cutTo_113 mi ml z _ ?_)
  have key : CI l (h + 1) m_Tr_hasPlace [.ref 113, .int (nI i)] mi ml z (fun x2 mi2 ml2 z2 => ((x2 = 0 → Q (cutV s v) mi2 ml2 z2) ∧ (¬ x2 = 0 → (vp_in (nI i) 40) ∧ Q (cutV s v) mi2 (upL ml2 114 (nI i).toNatClampNeg (cutV s v)) z2))) := by
    refine c_hasPlace_113 h2 hn40 (fun _ => ⟨fun c => absurd c (by decide), fun _ => ⟨in_nI (by omega) (by decide), by rw [cl_nI (by omega)]; exact hq⟩⟩) (fun c => absurd (show 0 ≤ (nI i).toInt ∧ (nI i).toInt < n by rw [nI_toInt (by omega)]; omega) c)
  rw [h1]
  refine ⟨fun c => ?_, fun c => ?_, fun c => ?_, fun c0 c1 c2 => ?_⟩
  · rw [show cutV s v = v.toInt32.toInt8.toInt32.toInt64 from if_pos c] at key; exact key
  · rw [show cutV s v = v.toInt32.toInt16.toInt32.toInt64 by unfold cutV; rw [if_neg (by rw [c]; decide), if_pos c]] at key; exact key
  · rw [show cutV s v = v.toInt32.toInt64 by unfold cutV; rw [if_neg (by rw [c]; decide), if_neg (by rw [c]; decide), if_pos c]] at key; exact key
  · rw [show cutV s v = v by unfold cutV; rw [if_neg c0, if_neg c1, if_neg c2]] at key; exact key
theorem c_fill2_116 {l : Launch} {h : Nat} {mi : TMi} {ml : TMl} {z : Nat} {x : Int64} {Q : TMi → TMl → Nat → Prop} (hq : ∀ ml', (∀ k, k ≠ 116 → ml' k = ml k) → (∀ j, j < 40 → ml' 116 j = x) → Q mi ml' z) : CV l (h + 1) m_JA_fill2 [.ref 116, .long x] mi ml z Q := by
  refine t_JA_fill2_116 mi ml z _ ?_
  refine loop (P := fun i => ∀ q, (∀ k, k ≠ 116 → q k = ml k) → (∀ j, j < i → q 116 j = x) → Ev l (h + 1) m_JA_fill2 6 ([.ref 116, .long x, .retAddr 0, .int (nI i), .int (nI 40)], [], st mi q z) (qV Q)) 40 (fun q F hk => t_JA_fill2_116_6 mi q z _ _ _ ⟨fun _ => hq q F hk, fun c => absurd (by decide) c⟩) (fun i hi ih q F hk => ?_) ml (fun _ _ => rfl) (fun j hj => absurd hj (Nat.not_lt_zero _))
  refine t_JA_fill2_116_6 mi q z _ _ _ ⟨fun c => absurd c (ge_no (N := 40) rfl (by decide) hi), fun _ => ⟨in_nI hi (by decide), ?_⟩⟩
  rw [cl_nI (by omega), nI_1]
  refine ih _ (fun k hk' => by rw [upL_ne _ _ _ hk']; exact F k hk') (fun j hj => ?_)
  by_cases e : j = i
  · rw [e, upL_at]
  · rw [upL_nk _ _ _ e]; exact hk j (by omega)
theorem c_Tr_make_115 {l : Launch} {h : Nat} {mi : TMi} {ml : TMl} {z : Nat} {s : Int32} {n : Nat} {Q : TMi → TMl → Nat → Prop} (hn : n ≤ 40) (hq : ∀ mi' ml', (∀ k, k ≠ 115 → mi' k = mi k) → mi' 115 1 = s → mi' 115 2 = nI n → (∀ k, k ≠ 116 → ml' k = ml k) → (∀ j, j < 40 → ml' 116 j = 0) → Q mi' ml' z) : CV l (h + 2) m_Tr_make [.ref 115, .int s, .int (nI n)] mi ml z Q := by
  refine t_Tr_make_115 mi ml z _ _ (c_fill2_116 (fun ml' E1 E2 => ?_))
  rw [cl40 n (by omega)]
  exact hq _ ml' (fun k hk => by rw [up_ne _ _ _ hk, up_ne _ _ _ hk]) (by rw [up_nk _ _ _ (by decide), up_at]) (up_at _ _ _ _) E1 E2
theorem c_hasPlace_115 {l : Launch} {h : Nat} {mi : TMi} {ml : TMl} {z : Nat} {y : Int32} {n : Nat} {Q : Int32 → TMi → TMl → Nat → Prop} (hn : mi 115 2 = nI n) (hn40 : n ≤ 40) (hq1 : 0 ≤ y.toInt ∧ y.toInt < n → Q 1 mi ml z) (hq0 : ¬ (0 ≤ y.toInt ∧ y.toInt < n) → Q 0 mi ml z) : CI l (h + 1) m_Tr_hasPlace [.ref 115, .int y] mi ml z Q := by
  refine t_Tr_hasPlace_115 mi ml z _ ?_
  rw [hn, Int32.lt_iff_toInt_lt, Int32.le_iff_toInt_le, show (0 : Int32).toInt = 0 by decide, nI_toInt (by omega)]
  exact ⟨fun c => hq0 (by omega), fun c => ⟨fun c2 => hq0 (by omega), fun c2 => hq1 (by omega)⟩⟩
theorem c_Tr_put_115 {l : Launch} {h : Nat} {mi : TMi} {ml : TMl} {z : Nat} {s : Int32} {i n : Nat} {v : Int64} {Q : Int64 → TMi → TMl → Nat → Prop} (h1 : mi 115 1 = s) (h2 : mi 115 2 = nI n) (hn40 : n ≤ 40) (hi : i < n) (hq : Q (cutV s v) mi (upL ml 116 i (cutV s v)) z) : CLg l (h + 2) m_Tr_put [.ref 115, .int (nI i), .long v] mi ml z Q := by
  refine t_Tr_put_115 mi ml z _ _ (t_Tr_cutTo_115 mi ml z _ ?_)
  have key : CI l (h + 1) m_Tr_hasPlace [.ref 115, .int (nI i)] mi ml z (fun x2 mi2 ml2 z2 => ((x2 = 0 → Q (cutV s v) mi2 ml2 z2) ∧ (¬ x2 = 0 → (vp_in (nI i) 40) ∧ Q (cutV s v) mi2 (upL ml2 116 (nI i).toNatClampNeg (cutV s v)) z2))) := by
    refine c_hasPlace_115 h2 hn40 (fun _ => ⟨fun c => absurd c (by decide), fun _ => ⟨in_nI (by omega) (by decide), by rw [cl_nI (by omega)]; exact hq⟩⟩) (fun c => absurd (show 0 ≤ (nI i).toInt ∧ (nI i).toInt < n by rw [nI_toInt (by omega)]; omega) c)
  rw [h1]
  refine ⟨fun c => ?_, fun c => ?_, fun c => ?_, fun c0 c1 c2 => ?_⟩
  · rw [show cutV s v = v.toInt32.toInt8.toInt32.toInt64 from if_pos c] at key; exact key
  · rw [show cutV s v = v.toInt32.toInt16.toInt32.toInt64 by unfold cutV; rw [if_neg (by rw [c]; decide), if_pos c]] at key; exact key
  · rw [show cutV s v = v.toInt32.toInt64 by unfold cutV; rw [if_neg (by rw [c]; decide), if_neg (by rw [c]; decide), if_pos c]] at key; exact key
  · rw [show cutV s v = v by unfold cutV; rw [if_neg c0, if_neg c1, if_neg c2]] at key; exact key
theorem c_fill2_118 {l : Launch} {h : Nat} {mi : TMi} {ml : TMl} {z : Nat} {x : Int64} {Q : TMi → TMl → Nat → Prop} (hq : ∀ ml', (∀ k, k ≠ 118 → ml' k = ml k) → (∀ j, j < 40 → ml' 118 j = x) → Q mi ml' z) : CV l (h + 1) m_JA_fill2 [.ref 118, .long x] mi ml z Q := by
  refine t_JA_fill2_118 mi ml z _ ?_
  refine loop (P := fun i => ∀ q, (∀ k, k ≠ 118 → q k = ml k) → (∀ j, j < i → q 118 j = x) → Ev l (h + 1) m_JA_fill2 6 ([.ref 118, .long x, .retAddr 0, .int (nI i), .int (nI 40)], [], st mi q z) (qV Q)) 40 (fun q F hk => t_JA_fill2_118_6 mi q z _ _ _ ⟨fun _ => hq q F hk, fun c => absurd (by decide) c⟩) (fun i hi ih q F hk => ?_) ml (fun _ _ => rfl) (fun j hj => absurd hj (Nat.not_lt_zero _))
  refine t_JA_fill2_118_6 mi q z _ _ _ ⟨fun c => absurd c (ge_no (N := 40) rfl (by decide) hi), fun _ => ⟨in_nI hi (by decide), ?_⟩⟩
  rw [cl_nI (by omega), nI_1]
  refine ih _ (fun k hk' => by rw [upL_ne _ _ _ hk']; exact F k hk') (fun j hj => ?_)
  by_cases e : j = i
  · rw [e, upL_at]
  · rw [upL_nk _ _ _ e]; exact hk j (by omega)
theorem c_Tr_make_117 {l : Launch} {h : Nat} {mi : TMi} {ml : TMl} {z : Nat} {s : Int32} {n : Nat} {Q : TMi → TMl → Nat → Prop} (hn : n ≤ 40) (hq : ∀ mi' ml', (∀ k, k ≠ 117 → mi' k = mi k) → mi' 117 1 = s → mi' 117 2 = nI n → (∀ k, k ≠ 118 → ml' k = ml k) → (∀ j, j < 40 → ml' 118 j = 0) → Q mi' ml' z) : CV l (h + 2) m_Tr_make [.ref 117, .int s, .int (nI n)] mi ml z Q := by
  refine t_Tr_make_117 mi ml z _ _ (c_fill2_118 (fun ml' E1 E2 => ?_))
  rw [cl40 n (by omega)]
  exact hq _ ml' (fun k hk => by rw [up_ne _ _ _ hk, up_ne _ _ _ hk]) (by rw [up_nk _ _ _ (by decide), up_at]) (up_at _ _ _ _) E1 E2
theorem c_hasPlace_117 {l : Launch} {h : Nat} {mi : TMi} {ml : TMl} {z : Nat} {y : Int32} {n : Nat} {Q : Int32 → TMi → TMl → Nat → Prop} (hn : mi 117 2 = nI n) (hn40 : n ≤ 40) (hq1 : 0 ≤ y.toInt ∧ y.toInt < n → Q 1 mi ml z) (hq0 : ¬ (0 ≤ y.toInt ∧ y.toInt < n) → Q 0 mi ml z) : CI l (h + 1) m_Tr_hasPlace [.ref 117, .int y] mi ml z Q := by
  refine t_Tr_hasPlace_117 mi ml z _ ?_
  rw [hn, Int32.lt_iff_toInt_lt, Int32.le_iff_toInt_le, show (0 : Int32).toInt = 0 by decide, nI_toInt (by omega)]
  exact ⟨fun c => hq0 (by omega), fun c => ⟨fun c2 => hq0 (by omega), fun c2 => hq1 (by omega)⟩⟩
theorem c_Tr_put_117 {l : Launch} {h : Nat} {mi : TMi} {ml : TMl} {z : Nat} {s : Int32} {i n : Nat} {v : Int64} {Q : Int64 → TMi → TMl → Nat → Prop} (h1 : mi 117 1 = s) (h2 : mi 117 2 = nI n) (hn40 : n ≤ 40) (hi : i < n) (hq : Q (cutV s v) mi (upL ml 118 i (cutV s v)) z) : CLg l (h + 2) m_Tr_put [.ref 117, .int (nI i), .long v] mi ml z Q := by
  refine t_Tr_put_117 mi ml z _ _ (t_Tr_cutTo_117 mi ml z _ ?_)
  have key : CI l (h + 1) m_Tr_hasPlace [.ref 117, .int (nI i)] mi ml z (fun x2 mi2 ml2 z2 => ((x2 = 0 → Q (cutV s v) mi2 ml2 z2) ∧ (¬ x2 = 0 → (vp_in (nI i) 40) ∧ Q (cutV s v) mi2 (upL ml2 118 (nI i).toNatClampNeg (cutV s v)) z2))) := by
    refine c_hasPlace_117 h2 hn40 (fun _ => ⟨fun c => absurd c (by decide), fun _ => ⟨in_nI (by omega) (by decide), by rw [cl_nI (by omega)]; exact hq⟩⟩) (fun c => absurd (show 0 ≤ (nI i).toInt ∧ (nI i).toInt < n by rw [nI_toInt (by omega)]; omega) c)
  rw [h1]
  refine ⟨fun c => ?_, fun c => ?_, fun c => ?_, fun c0 c1 c2 => ?_⟩
  · rw [show cutV s v = v.toInt32.toInt8.toInt32.toInt64 from if_pos c] at key; exact key
  · rw [show cutV s v = v.toInt32.toInt16.toInt32.toInt64 by unfold cutV; rw [if_neg (by rw [c]; decide), if_pos c]] at key; exact key
  · rw [show cutV s v = v.toInt32.toInt64 by unfold cutV; rw [if_neg (by rw [c]; decide), if_neg (by rw [c]; decide), if_pos c]] at key; exact key
  · rw [show cutV s v = v by unfold cutV; rw [if_neg c0, if_neg c1, if_neg c2]] at key; exact key
theorem c_Tr_make {l : Launch} {h : Nat} {mi : TMi} {ml : TMl} {z : Nat} {s : Int32} {t n : Nat} {Q : TMi → TMl → Nat → Prop} (ht : t < 4) (hn : n ≤ 40) (hq : ∀ mi' ml', (∀ k, k ≠ 111 + 2 * t → mi' k = mi k) → mi' (111 + 2 * t) 1 = s → mi' (111 + 2 * t) 2 = nI n → (∀ k, k ≠ 112 + 2 * t → ml' k = ml k) → (∀ j, j < 40 → ml' (112 + 2 * t) j = 0) → Q mi' ml' z) : CV l (h + 2) m_Tr_make [.ref (111 + 2 * t), .int s, .int (nI n)] mi ml z Q := by
  match t, ht with
  | 0, _ => exact c_Tr_make_111 hn hq
  | 1, _ => exact c_Tr_make_113 hn hq
  | 2, _ => exact c_Tr_make_115 hn hq
  | 3, _ => exact c_Tr_make_117 hn hq
theorem c_hasPlace {l : Launch} {h : Nat} {mi : TMi} {ml : TMl} {z : Nat} {y : Int32} {t n : Nat} {Q : Int32 → TMi → TMl → Nat → Prop} (ht : t < 4) (hn : mi (111 + 2 * t) 2 = nI n) (hn40 : n ≤ 40) (hq1 : 0 ≤ y.toInt ∧ y.toInt < n → Q 1 mi ml z) (hq0 : ¬ (0 ≤ y.toInt ∧ y.toInt < n) → Q 0 mi ml z) : CI l (h + 1) m_Tr_hasPlace [.ref (111 + 2 * t), .int y] mi ml z Q := by
  match t, ht with
  | 0, _ => exact c_hasPlace_111 hn hn40 hq1 hq0
  | 1, _ => exact c_hasPlace_113 hn hn40 hq1 hq0
  | 2, _ => exact c_hasPlace_115 hn hn40 hq1 hq0
  | 3, _ => exact c_hasPlace_117 hn hn40 hq1 hq0
theorem c_Tr_put {l : Launch} {h : Nat} {mi : TMi} {ml : TMl} {z : Nat} {s : Int32} {t i n : Nat} {v : Int64} {Q : Int64 → TMi → TMl → Nat → Prop} (ht : t < 4) (h1 : mi (111 + 2 * t) 1 = s) (h2 : mi (111 + 2 * t) 2 = nI n) (hn40 : n ≤ 40) (hi : i < n) (hq : Q (cutV s v) mi (upL ml (112 + 2 * t) i (cutV s v)) z) : CLg l (h + 2) m_Tr_put [.ref (111 + 2 * t), .int (nI i), .long v] mi ml z Q := by
  match t, ht with
  | 0, _ => exact c_Tr_put_111 h1 h2 hn40 hi hq
  | 1, _ => exact c_Tr_put_113 h1 h2 hn40 hi hq
  | 2, _ => exact c_Tr_put_115 h1 h2 hn40 hi hq
  | 3, _ => exact c_Tr_put_117 h1 h2 hn40 hi hq
theorem TrC.mk {mi mi' : TMi} {ml ml' : TMl} {ty : Ty} {t s n : Nat} (h : TrC mi ml ty) (hs : s < 4) (hn : n ≤ 40) (e1 : ∀ k, k ≠ 111 + 2 * t → mi' k = mi k) (e2 : mi' (111 + 2 * t) 1 = nI s) (e3 : mi' (111 + 2 * t) 2 = nI n) (e4 : ∀ k, k ≠ 112 + 2 * t → ml' k = ml k) (e5 : ∀ j, j < 40 → ml' (112 + 2 * t) j = 0) : TrC mi' ml' (mkT ty t s n) := fun u hu => by
  by_cases q : u = t
  · subst q
    simp only [mkT, if_true]
    exact ⟨e2, fun s' e => by cases e; exact hs, e3, hn, fun i hi => e5 i (by omega)⟩
  · simp only [mkT, if_neg q]
    rw [e1 _ (by omega), e4 _ (by omega)]
    exact h u hu
theorem TrR.mk {mi mi' : TMi} {ml ml' : TMl} {ty : Ty} {t s n : Nat} (h : TrR mi ml ty) (hN : ∀ t, t < 4 → ty.2.1 t ≤ 40) (hn : n ≤ 40) (e1 : ∀ k, k ≠ t → mi' 134 k = mi 134 k ∧ mi' 135 k = mi 135 k) (e2 : mi' 134 t = nI s) (e3 : mi' 135 t = nI n) (e4 : ∀ u i, u ≠ t → i < 40 → ml' 136 (40 * u + i) = ml 136 (40 * u + i)) (e5 : ∀ i, i < n → ml' 136 (40 * t + i) = 0) : TrR mi' ml' (mkT ty t s n) := fun u hu => by
  by_cases q : u = t
  · subst q
    simp only [mkT, if_true]
    exact ⟨e2, e3, fun i hi => e5 i hi⟩
  · simp only [mkT, if_neg q]
    rw [(e1 u q).1, (e1 u q).2]
    refine ⟨(h u hu).1, (h u hu).2.1, fun i hi => ?_⟩
    have := hN u hu
    rw [e4 u i q (by omega)]
    exact (h u hu).2.2 i hi
def okN (x y v : Int32) : Int32 := if inT x then (if inT y then (if 0 ≤ v.toInt ∧ v.toInt ≤ 40 then 0 else -3) else -2) else -2
theorem c_B_numbers {l : Launch} {h : Nat} {mi : TMi} {ml : TMl} {z : Nat} {a : Ln} {d : Dt} {hs : List Dt} {im : Nat → Option (Ln × Dt)} {ty : Ty} {n : Nat} {tp : Nat → Nat} {fk fp x y v : Int32} {Q : Int32 → TMi → TMl → Nat → Prop} (hI : IC mi ml a d hs im ty n tp fk fp)
    (hq0 : ¬ okN x y v = 0 → Q (okN x y v) mi ml z) (hq1 : okN x y v = 0 → ∀ m3 l3, (∀ n, 119 ≤ n → m3 n = mi n ∧ l3 n = ml n) → IC m3 l3 a d hs im (mkT ty x.toInt.toNat y.toInt.toNat v.toInt.toNat) n tp fk fp → Q 0 m3 l3 z) : CI l (h + 3) m_B_numbers [.ref 1, .int x, .int y, .int v] mi ml z Q := by
  unfold okN at hq0 hq1
  refine t_B_numbers mi ml z _ _ _ (c_isTray (fun c => ⟨fun q => absurd q (by decide), fun _ => ?_⟩) (fun c => ⟨fun _ => by rw [if_neg c] at hq0; exact hq0 (by decide), fun q => absurd rfl q⟩))
  rw [if_pos c] at hq0 hq1
  simp only [Int32.lt_iff_toInt_lt, Int32.le_iff_toInt_le, show (0 : Int32).toInt = 0 by decide, show (4 : Int32).toInt = 4 by decide, show (40 : Int32).toInt = 40 by decide]
  have no : ¬ inT y → Q (-2) mi ml z := fun hn => by rw [if_neg hn] at hq0; exact hq0 (by decide)
  refine ⟨fun c2 => no (fun k => by have := k.1; omega), fun c2 => ⟨fun c3 => ?_, fun c3 => no (fun k => by have := k.2; omega)⟩⟩
  have hy : inT y := ⟨by omega, by omega⟩
  rw [if_pos hy] at hq0 hq1
  have no : ¬ (0 ≤ v.toInt ∧ v.toInt ≤ 40) → Q (-3) mi ml z := fun hn => by rw [if_neg hn] at hq0; exact hq0 (by decide)
  refine ⟨fun c4 => no (by omega), fun c4 => ⟨fun c5 => ?_, fun c5 => no (by omega)⟩⟩
  rw [if_pos (show 0 ≤ v.toInt ∧ v.toInt ≤ 40 by omega)] at hq1
  obtain ⟨ex, ht⟩ := inT_nI c
  obtain ⟨ey, hs4⟩ := inT_nI hy
  have ev := nI_toNat (x := v) (by omega)
  have hv : v.toInt.toNat ≤ 40 := by omega
  generalize x.toInt.toNat = t at ex ht hq1
  generalize y.toInt.toNat = s at ey hs4 hq1
  generalize v.toInt.toNat = k at ev hv hq1
  rw [ex, ey, ev, cl_nI (show t < 2 ^ 31 by omega), mr78 z ht]
  refine ⟨in_nI ht (by decide), ⟨by omega, by omega⟩, shT ht, c_Tr_make ht hv (fun m3 l3 e1 e2 e3 e4 e5 => hq1 rfl m3 l3 (fun q hq => ⟨e1 q (by omega), e4 q (by omega)⟩) (hI.tr (fun q _ hq => e1 q (by omega)) (hI.2.2.2.2.1.mk hs4 hv e1 e2 e3 e4 e5)))⟩
theorem ix40 : ∀ t, t < 4 → ∀ i, i < 40 → (((40 : Int32) * nI t) + nI i).toNatClampNeg = 40 * t + i ∧ vp_in (((40 : Int32) * nI t) + nI i) 160 := fun t ht i hi => by
  have e : ((40 : Int32) * nI t) + nI i = nI (40 * t + i) := by rw [show (40 : Int32) * nI t = nI (40 * t) from mulL 40 t, nI_add]
  rw [e]
  exact ⟨cl_nI (by omega), in_nI (by omega) (by decide)⟩
theorem c_R_numbers {l : Launch} {h : Nat} {mi : TMi} {ml : TMl} {z : Nat} {a : Ln} {d : Dt} {hs : List Dt} {im : Nat → Option (Ln × Dt)} {ty : Ty} {n : Nat} {tp : Nat → Nat} {fk fp x y v : Int32} {Q : Int32 → TMi → TMl → Nat → Prop} (hI : IR mi ml a d hs im ty n tp fk fp) (hN : ∀ t, t < 4 → ty.2.1 t ≤ 40)
    (hq0 : ¬ okN x y v = 0 → ∀ m3, (∀ n, n < 119 → m3 n = mi n) → IR m3 ml a d hs im ty n tp fk fp → Q (okN x y v) m3 ml z) (hq1 : okN x y v = 0 → ∀ m3 l3, (∀ n, n < 119 → m3 n = mi n ∧ l3 n = ml n) → IR m3 l3 a d hs im (mkT ty x.toInt.toNat y.toInt.toNat v.toInt.toNat) n tp fk fp → Q 0 m3 l3 z) : CI l (h + 2) m_R_numbers [.ref 119, .int x, .int y, .int v] mi ml z Q := by
  have F0 : FQ mi (up mi 119 0 0) := FQ.u119 _ _ (by decide)
  have hI0 := hI.fr (F0.x hI.1)
  unfold okN at hq0 hq1
  have hq0 := fun c => hq0 c _ (fun q hq => F0.1 q (by omega)) hI0
  have G0 : ∀ q, q < 119 → (up mi 119 0 0) q = mi q := fun q hq => F0.1 q (by omega)
  have tt : ∀ w : Int32, (0 : Int64).toInt ≤ w.toInt64.toInt ∧ w.toInt64.toInt ≤ (3 : Int64).toInt ↔ inT w := fun w => by
    rw [t64, show (0 : Int64).toInt = 0 by decide, show (3 : Int64).toInt = 3 by decide]
    exact ⟨fun k => ⟨k.1, by omega⟩, fun k => ⟨k.1, by have := k.2; omega⟩⟩
  refine t_R_numbers mi ml z _ _ _ (c_R_within ?_)
  rw [bI_0]
  refine ⟨fun c => ?_, fun c => c_R_within ?_⟩
  · rw [decide_eq_false_iff_not, tt] at c
    rw [if_neg c] at hq0
    exact hq0 (by decide)
  rw [Bool.not_eq_false, decide_eq_true_eq, tt] at c
  rw [if_pos c] at hq0 hq1
  rw [bI_0]
  refine ⟨fun c2 => c_R_within ?_, fun c2 => ?_⟩
  · rw [Bool.not_eq_false, decide_eq_true_eq, tt] at c2
    rw [if_pos c2] at hq0 hq1
    rw [bI_0, t64, show (0 : Int64).toInt = 0 by decide, show (40 : Int64).toInt = 40 by decide]
    refine ⟨fun c3 => ?_, fun c3 => ?_⟩
    · rw [Bool.not_eq_false, decide_eq_true_eq] at c3
      rw [if_pos c3] at hq1
      obtain ⟨ex, ht⟩ := inT_nI c
      obtain ⟨ey, hs4⟩ := inT_nI c2
      have ev := nI_toNat (x := v) (by omega)
      have hv : v.toInt.toNat ≤ 40 := by omega
      generalize x.toInt.toNat = t at ex ht hq1
      generalize y.toInt.toNat = s at ey hs4 hq1
      generalize v.toInt.toNat = k at ev hv hq1
      rw [ex, ey, ev, cl_nI (show t < 2 ^ 31 by omega)]
      have hin : vp_in (nI t) 4 := in_nI ht (by decide)
      refine ⟨hin, hin, ?_⟩
      generalize hm : up (up (up mi 119 0 0) 134 t (nI s)) 135 t (nI k) = m2
      have M1 : ∀ q, q ≠ 134 → q ≠ 135 → m2 q = (up mi 119 0 0) q := fun q q1 q2 => by rw [← hm, up_ne _ _ _ q2, up_ne _ _ _ q1]
      have M2 : ∀ q, q ≠ t → m2 134 q = (up mi 119 0 0) 134 q ∧ m2 135 q = (up mi 119 0 0) 135 q := fun q hq => by
        rw [← hm, up_ne _ _ _ (by decide), up_nk _ _ _ hq, up_nk _ _ _ hq, up_ne _ _ _ (by decide)]
        exact ⟨rfl, rfl⟩
      have M3 : m2 134 t = nI s := by rw [← hm, up_ne _ _ _ (by decide), up_at]
      have M4 : m2 135 t = nI k := by rw [← hm, up_at]
      refine loop (P := fun i => ∀ q, (∀ u, u ≠ 136 → q u = ml u) → (∀ j, (∀ i', i' < 40 → j ≠ 40 * t + i') → q 136 j = ml 136 j) → (∀ j, j < i → q 136 (40 * t + j) = 0) → Ev l (h + 2) m_R_numbers 64 ([.ref 119, .int (nI t), .retAddr 0, .int (nI k), .int (nI i)], [], st m2 q z) (qI Q)) k (fun q E1 E2 E3 => ?_) (fun i hi ih q E1 E2 E3 => ?_) ml (fun _ _ => rfl) (fun _ _ => rfl) (fun j hj => absurd hj (Nat.not_lt_zero _))
      · refine t_R_numbers_64 m2 q z _ _ _ ⟨fun _ => ?_, fun c => absurd (le_at (N := k) rfl (by omega)) c⟩
        refine hq1 rfl m2 q (fun w hw => ⟨by rw [M1 w (by omega) (by omega)]; exact G0 w hw, E1 w (by omega)⟩) (hI0.tr (fun w hw => M1 w (by omega) (by omega)) (hI0.2.2.2.1.mk hN hv M2 M3 M4 (fun u i hu hi => E2 _ (fun i' hi' => by omega)) E3))
      · refine t_R_numbers_64 m2 q z _ _ _ ⟨fun c => absurd c (ge_no (N := k) rfl (by omega) hi), fun _ => ⟨(ix40 t ht i (by omega)).2, ?_⟩⟩
        rw [(ix40 t ht i (by omega)).1, nI_1]
        refine ih _ (fun u hu => by rw [upL_ne _ _ _ hu]; exact E1 u hu) (fun j hj => by rw [upL_nk _ _ _ (hj i (by omega))]; exact E2 j hj) (fun j hj => ?_)
        by_cases e : j = i
        · rw [e, upL_at]
        · rw [upL_nk _ _ _ (by omega)]; exact E3 j (by omega)
    · rw [decide_eq_false_iff_not] at c3
      rw [if_neg c3] at hq0
      exact hq0 (by decide)
  · rw [decide_eq_false_iff_not, tt] at c2
    rw [if_neg c2] at hq0
    exact hq0 (by decide)
