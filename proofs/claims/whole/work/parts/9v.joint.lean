/-! ===== the two together: a call of both, and what is true behind it ===== -/
def JJ (mi : TMi) (ml : TMl) : Prop := ∃ a d hs im ty n tp fk fp, IC mi ml a d hs im ty n tp fk fp ∧ IR mi ml a d hs im ty n tp fk fp
abbrev JR (l : Launch) (M : AMt) (vs : List Value) : Int32 → TMi → TMl → Nat → Prop := fun r m1 l1 z1 => CI l 100 M vs m1 l1 z1 (fun r2 m2 l2 _ => r = r2 ∧ JJ m2 l2)
abbrev JL (l : Launch) (M : AMt) (vs : List Value) : Int64 → TMi → TMl → Nat → Prop := fun r m1 l1 z1 => CLg l 100 M vs m1 l1 z1 (fun r2 m2 l2 _ => r = r2 ∧ JJ m2 l2)
theorem jSC {mi m1 : TMi} (F : Fr SC mi m1) : ∀ n, 119 ≤ n → m1 n = mi n := fun n hn => F n (by simp; omega)
section JOINT
variable {mi m1 m2 : TMi} {ml l1 l2 : TMl} {a : Ln} {d : Dt} {hs : List Dt} {im : Nat → Option (Ln × Dt)} {ty : Ty} {n : Nat} {tp : Nat → Nat} {fk fp : Int32}
theorem jQ (hC : IC mi ml a d hs im ty n tp fk fp) (hR : IR mi ml a d hs im ty n tp fk fp) (F : FQ mi m2) : JJ m2 ml := ⟨a, d, hs, im, ty, n, tp, fk, fp, hC.lo (fun n hn => F.1 n (Or.inl hn)), hR.fr (F.x hR.1)⟩
theorem jB (hC : IC mi ml a d hs im ty n tp fk fp) (G : ∀ n, n < 119 → m2 n = mi n) (hR : IR m2 ml a d hs im ty n tp fk fp) : JJ m2 ml := ⟨a, d, hs, im, ty, n, tp, fk, fp, hC.lo G, hR⟩
theorem jhi (hR : IR mi ml a d hs im ty n tp fk fp) (F : ∀ n, 119 ≤ n → m1 n = mi n ∧ l1 n = ml n) : IR m1 l1 a d hs im ty n tp fk fp :=
  hR.tr (fun n hn => (F n (by omega)).1) (fun t ht => by
    obtain ⟨h1, h2, h3⟩ := hR.2.2.2.1 t ht
    exact ⟨by rw [(F 134 (by omega)).1]; exact h1, by rw [(F 135 (by omega)).1]; exact h2, fun i hi => by rw [(F 136 (by omega)).2]; exact h3 i hi⟩)
theorem jlo (hC : IC mi ml a d hs im ty n tp fk fp) (F : ∀ n, n < 119 → m1 n = mi n ∧ l1 n = ml n) : IC m1 l1 a d hs im ty n tp fk fp :=
  hC.tr (fun n _ hn => (F n (by omega)).1) (fun t ht => by
    obtain ⟨h1, h2, h3, h4, h5⟩ := hC.2.2.2.2.1 t ht
    exact ⟨by rw [(F (111 + 2 * t) (by omega)).1]; exact h1, h2, by rw [(F (111 + 2 * t) (by omega)).1]; exact h3, h4, fun i hi => by rw [(F (112 + 2 * t) (by omega)).2]; exact h5 i hi⟩)
theorem jLB (hC : IC mi ml a d hs im ty n tp fk fp) (G : ∀ n, n < 119 → m2 n = mi n ∧ l2 n = ml n) (hR : IR m2 l2 a d hs im ty n tp fk fp) : JJ m2 l2 := ⟨a, d, hs, im, ty, n, tp, fk, fp, jlo hC G, hR⟩
theorem jBe {be be' : Nat → Option Nat} (ha : okLn a) (h : BestA a d be) (h' : BestA a d be') : ∀ b, b < nB a → be b = be' b := best_uniq ha.2.1 h.1 h'.1 h.2 h'.2
theorem jWo {wo wo' : Nat → Option Nat} (ha : okLn a) (h : WorstA a d wo) (h' : WorstA a d wo') : ∀ b, b < nB a → wo b = wo' b := worst_uniq ha.2.1 h.1 h'.1 h.2 h'.2
theorem jS (hC : IC mi ml a d hs im ty n tp fk fp) : ∀ t, t < 4 → ∀ s, ty.1 t = some s → s < 4 := fun t ht => (hC.2.2.2.2.1 t ht).2.1
theorem jN (hC : IC mi ml a d hs im ty n tp fk fp) : ∀ t, t < 4 → ty.2.1 t ≤ 40 := fun t ht => (hC.2.2.2.2.1 t ht).2.2.2.1
end JOINT
section JOINT2
variable {l : Launch} {mi : TMi} {ml : TMl} {z : Nat}
theorem j_beck (x v : Int32) (hJ : JJ mi ml) : CI l 100 m_B_beck [.ref 1, .int x, .int v] mi ml z (JR l m_R_beck [.ref 119, .int x, .int v]) := by
  obtain ⟨a, d, hs, im, ty, n, tp, fk, fp, hC, hR⟩ := hJ
  exact c_B_beck (h := 98) hC.1 (c_R_beck (h := 96) hR.1 (fun m2 F => ⟨rfl, jQ hC hR F⟩))
theorem j_river (x v : Int32) (hJ : JJ mi ml) : CI l 100 m_B_river [.ref 1, .int x, .int v] mi ml z (JR l m_R_river [.ref 119, .int x, .int v]) := by
  obtain ⟨a, d, hs, im, ty, n, tp, fk, fp, hC, hR⟩ := hJ
  exact c_B_river (h := 97) hC.1 (c_R_river (h := 96) hR.1 (fun m2 F => ⟨rfl, jQ hC hR F⟩))
theorem j_likes (x v : Int32) (hJ : JJ mi ml) : CI l 100 m_B_likes [.ref 1, .int x, .int v] mi ml z (JR l m_R_likes [.ref 119, .int x, .int v]) := by
  obtain ⟨a, d, hs, im, ty, n, tp, fk, fp, hC, hR⟩ := hJ
  exact c_B_likes (h := 98) hC.1 (c_R_likes (h := 97) hR.1 (fun m2 F => ⟨rfl, jQ hC hR F⟩))
theorem j_takes (x v : Int32) (hJ : JJ mi ml) : CI l 100 m_B_takes [.ref 1, .int x, .int v] mi ml z (JR l m_R_takes [.ref 119, .int x, .int v]) := by
  obtain ⟨a, d, hs, im, ty, n, tp, fk, fp, hC, hR⟩ := hJ
  exact c_B_takes (h := 98) hC.1 (c_R_takes (h := 97) hR.1 (fun m2 F => ⟨rfl, jQ hC hR F⟩))
theorem j_gifts (x v : Int32) (hJ : JJ mi ml) : CI l 100 m_B_gifts [.ref 1, .int x, .int v] mi ml z (JR l m_R_gifts [.ref 119, .int x, .int v]) := by
  obtain ⟨a, d, hs, im, ty, n, tp, fk, fp, hC, hR⟩ := hJ
  exact c_B_gifts (h := 97) hC.1 (c_R_gifts (h := 97) hR.1 (fun m2 F => ⟨rfl, jQ hC hR F⟩))
theorem j_holds (hJ : JJ mi ml) : CI l 100 m_B_holds [.ref 1] mi ml z (JR l m_R_holds [.ref 119]) := by
  obtain ⟨a, d, hs, im, ty, n, tp, fk, fp, hC, hR⟩ := hJ
  exact c_B_holds (h := 94) hC.1 (c_R_holds (h := 95) hR.1 (fun m2 F => ⟨rfl, jQ hC hR F⟩))
theorem j_breaks (hJ : JJ mi ml) : CI l 100 m_B_breaks [.ref 1] mi ml z (JR l m_R_breaks [.ref 119]) := by
  obtain ⟨a, d, hs, im, ty, n, tp, fk, fp, hC, hR⟩ := hJ
  exact c_B_breaks (h := 95) hC.1 (c_R_breaks (h := 95) hR.1 (fun m2 F => ⟨rfl, jQ hC hR F⟩))
theorem j_breaking (hJ : JJ mi ml) : CI l 100 m_B_breaking [.ref 1] mi ml z (JR l m_R_breaking [.ref 119]) := by
  obtain ⟨a, d, hs, im, ty, n, tp, fk, fp, hC, hR⟩ := hJ
  exact c_B_breaking (h := 95) hC.1 (c_R_breaking (h := 95) hR.1 (fun m2 F => ⟨rfl, jQ hC hR F⟩))
theorem j_floods (hJ : JJ mi ml) : CI l 100 m_B_floods [.ref 1] mi ml z (JR l m_R_floods [.ref 119]) := by
  obtain ⟨a, d, hs, im, ty, n, tp, fk, fp, hC, hR⟩ := hJ
  exact c_B_floods (h := 94) hC.1 (c_R_floods (h := 96) hR.1 (fun m2 F => ⟨rfl, jQ hC hR F⟩))
theorem j_count (x : Int32) (hJ : JJ mi ml) : CI l 100 m_B_count [.ref 1, .int x] mi ml z (JR l m_R_count [.ref 119, .int x]) := by
  obtain ⟨a, d, hs, im, ty, n, tp, fk, fp, hC, hR⟩ := hJ
  exact c_B_count (h := 97) hC (c_R_count (h := 97) hR (fun m2 F => ⟨rfl, jQ hC hR F⟩))
theorem j_fault (x : Int32) (hJ : JJ mi ml) : CI l 100 m_B_fault [.ref 1, .int x] mi ml z (JR l m_R_fault [.ref 119, .int x]) := by
  obtain ⟨a, d, hs, im, ty, n, tp, fk, fp, hC, hR⟩ := hJ
  exact c_B_fault (h := 99) (c_R_fault (h := 99) (fun m2 F => ⟨by rw [hC.2.2.2.2.2.2.1, hC.2.2.2.2.2.2.2.1, hR.2.2.2.2.2.1, hR.2.2.2.2.2.2], jQ hC hR F⟩))
theorem j_choices (hJ : JJ mi ml) : CI l 100 m_B_choices [.ref 1] mi ml z (JR l m_R_choices [.ref 119]) := by
  obtain ⟨a, d, hs, im, ty, n, tp, fk, fp, hC, hR⟩ := hJ
  exact c_B_choices (h := 85) hC.1 (fun m1 F => c_R_choices (h := 93) (hR.hi (jSC F)).1 (fun m2 G => ⟨rfl, jQ (hC.sc F) (hR.hi (jSC F)) G⟩))
theorem j_fairest (hJ : JJ mi ml) : CI l 100 m_B_fairest [.ref 1] mi ml z (JR l m_R_fairest [.ref 119]) := by
  obtain ⟨a, d, hs, im, ty, n, tp, fk, fp, hC, hR⟩ := hJ
  exact c_B_fairest (h := 85) hC.1 (fun m1 F => c_R_fairest (h := 93) (hR.hi (jSC F)).1 (fun m2 G => ⟨rfl, jQ (hC.sc F) (hR.hi (jSC F)) G⟩))
theorem j_fullest (hJ : JJ mi ml) : CI l 100 m_B_fullest [.ref 1] mi ml z (JR l m_R_fullest [.ref 119]) := by
  obtain ⟨a, d, hs, im, ty, n, tp, fk, fp, hC, hR⟩ := hJ
  exact c_B_fullest (h := 89) hC.1 (fun m1 F => c_R_fullest (h := 96) (hR.hi (jSC F)).1 (fun m2 G => ⟨rfl, jQ (hC.sc F) (hR.hi (jSC F)) G⟩))
theorem j_flooding (x y : Int32) (hJ : JJ mi ml) : CI l 100 m_B_flooding [.ref 1, .int x, .int y] mi ml z (JR l m_R_flooding [.ref 119, .int x, .int y]) := by
  obtain ⟨a, d, hs, im, ty, n, tp, fk, fp, hC, hR⟩ := hJ
  exact c_B_flooding (h := 95) hC.1 (fun m1 F => c_R_flooding (h := 57) (hR.hi (jSC F)).1 (fun m2 G => ⟨rfl, jQ (hC.sc F) (hR.hi (jSC F)) G⟩))
theorem j_choice (x : Int32) (hJ : JJ mi ml) : CI l 100 m_B_choice [.ref 1, .int x] mi ml z (JR l m_R_choice [.ref 119, .int x]) := by
  obtain ⟨a, d, hs, im, ty, n, tp, fk, fp, hC, hR⟩ := hJ
  exact c_B_choice (h := 85) hC.1 (fun m1 z1 F _ => c_R_choice (h := 93) (hR.hi (jSC F)).1 (fun m2 G => ⟨rfl, jQ (hC.sc F) (hR.hi (jSC F)) G⟩))
theorem j_can (x : Int32) (hJ : JJ mi ml) : CI l 100 m_B_can [.ref 1, .int x] mi ml z (JR l m_R_can [.ref 119, .int x]) := by
  obtain ⟨a, d, hs, im, ty, n, tp, fk, fp, hC, hR⟩ := hJ
  exact c_B_can (h := 85) hC.1 (fun m1 z1 F _ => c_R_can (h := 93) (hR.hi (jSC F)).1 (fun m2 G => ⟨rfl, jQ (hC.sc F) (hR.hi (jSC F)) G⟩))
theorem j_bearing (x : Int32) (hJ : JJ mi ml) : CI l 100 m_B_bearing [.ref 1, .int x] mi ml z (JR l m_R_bearing [.ref 119, .int x]) := by
  obtain ⟨a, d, hs, im, ty, n, tp, fk, fp, hC, hR⟩ := hJ
  exact c_B_bearing (h := 85) hC.1 (fun m1 z1 F _ => c_R_bearing (h := 93) (hR.hi (jSC F)).1 (fun m2 G => ⟨rfl, jQ (hC.sc F) (hR.hi (jSC F)) G⟩))
theorem j_forBecks (x : Int32) (hJ : JJ mi ml) : CI l 100 m_B_forBecks [.ref 1, .int x] mi ml z (JR l m_R_forBecks [.ref 119, .int x]) := by
  obtain ⟨a, d, hs, im, ty, n, tp, fk, fp, hC, hR⟩ := hJ
  exact c_B_forBecks (h := 95) hC.1 (fun hb m1 be F h1 => c_R_forBecks (h := 93) (hR.hi (jSC F)).1 (fun _ m2 be2 G h2 => ⟨by rw [jBe hC.1.1 h1 h2 _ (inB_nI hb).2], jQ (hC.sc F) (hR.hi (jSC F)) G⟩) (fun hn => absurd hb hn)) (fun hn => c_R_forBecks (h := 93) hR.1 (fun hb => absurd hb hn) (fun _ m2 G => ⟨rfl, jQ hC hR G⟩))
theorem j_forRivers (x : Int32) (hJ : JJ mi ml) : CI l 100 m_B_forRivers [.ref 1, .int x] mi ml z (JR l m_R_forRivers [.ref 119, .int x]) := by
  obtain ⟨a, d, hs, im, ty, n, tp, fk, fp, hC, hR⟩ := hJ
  exact c_B_forRivers (h := 94) hC.1 (fun hb m1 be F h1 => c_R_forRivers (h := 93) (hR.hi (jSC F)).1 (fun _ m2 be2 G h2 => ⟨by rw [jWo hC.1.1 h1 h2 _ (inB_nI hb).2], jQ (hC.sc F) (hR.hi (jSC F)) G⟩) (fun hn => absurd hb hn)) (fun hn => c_R_forRivers (h := 93) hR.1 (fun hb => absurd hb hn) (fun _ m2 G => ⟨rfl, jQ hC hR G⟩))
theorem j_gains (x : Int32) (hJ : JJ mi ml) : CI l 100 m_B_gains [.ref 1, .int x] mi ml z (JR l m_R_gains [.ref 119, .int x]) := by
  obtain ⟨a, d, hs, im, ty, n, tp, fk, fp, hC, hR⟩ := hJ
  exact c_B_gains (h := 92) hC.1 (fun hb m1 g F h1 => c_R_gains (h := 94) (hR.hi (jSC F)).1 (fun _ m2 g2 G h2 => ⟨by rw [gainA_uniq hC.1.1 (inB_nI hb).2 h1 h2], jQ (hC.sc F) (hR.hi (jSC F)) G⟩) (fun hn => absurd hb hn)) (fun hn => c_R_gains (h := 94) hR.1 (fun hb => absurd hb hn) (fun _ m2 G => ⟨rfl, jQ hC hR G⟩))
theorem j_lie (x : Int32) (hJ : JJ mi ml) : CI l 100 m_B_lie [.ref 1, .int x] mi ml z (JR l m_R_lie [.ref 119, .int x]) := by
  obtain ⟨a, d, hs, im, ty, n, tp, fk, fp, hC, hR⟩ := hJ
  exact c_B_lie (h := 92) hC.1 (fun hb m1 g F h1 => c_R_lie (h := 94) (hR.hi (jSC F)).1 (fun _ m2 g2 G h2 => ⟨by rw [gainA_uniq hC.1.1 (inB_nI hb).2 h1 h2], jQ (hC.sc F) (hR.hi (jSC F)) G⟩) (fun hn => absurd hb hn)) (fun hn => c_R_lie (h := 94) hR.1 (fun hb => absurd hb hn) (fun _ m2 G => ⟨rfl, jQ hC hR G⟩))
theorem j_liars (hJ : JJ mi ml) : CI l 100 m_B_liars [.ref 1] mi ml z (JR l m_R_liars [.ref 119]) := by
  obtain ⟨a, d, hs, im, ty, n, tp, fk, fp, hC, hR⟩ := hJ
  exact c_B_liars (h := 92) hC.1 (fun m1 x F h1 => c_R_liars (h := 94) (hR.hi (jSC F)).1 (fun m2 y G h2 => ⟨liaA_uniq hC.1.1 h1 h2, jQ (hC.sc F) (hR.hi (jSC F)) G⟩))
theorem j_sure (hJ : JJ mi ml) : CI l 100 m_B_sure [.ref 1] mi ml z (JR l m_R_sure [.ref 119]) := by
  obtain ⟨a, d, hs, im, ty, n, tp, fk, fp, hC, hR⟩ := hJ
  exact c_B_sure (h := 93) hC.1 (fun m1 be es F h1 h2 => c_R_sure (h := 93) (hR.hi (jSC F)).1 h1 h2 (fun m2 G => ⟨rfl, jQ (hC.sc F) (hR.hi (jSC F)) G⟩))
theorem j_staying (x y : Int32) (hJ : JJ mi ml) : CI l 100 m_B_staying [.ref 1, .int x, .int y] mi ml z (JR l m_R_staying [.ref 119, .int x, .int y]) := by
  obtain ⟨a, d, hs, im, ty, n, tp, fk, fp, hC, hR⟩ := hJ
  exact c_B_staying (h := 94) hC.1 (fun m1 be es F h1 h2 => c_R_staying (h := 57) (hR.hi (jSC F)).1 h1 h2 (fun m2 G => ⟨rfl, jQ (hC.sc F) (hR.hi (jSC F)) G⟩))
theorem j_woos (x y v : Int32) (hJ : JJ mi ml) : CI l 100 m_B_woos [.ref 1, .int x, .int y, .int v] mi ml z (JR l m_R_woos [.ref 119, .int x, .int y, .int v]) := by
  obtain ⟨a, d, hs, im, ty, n, tp, fk, fp, hC, hR⟩ := hJ
  obtain ⟨e, he⟩ : ∃ e : (Nat → Nat) → Bool, ∀ w, e w = true ↔ E a d x.toInt.toNat y.toInt.toNat w := ⟨fun w => @decide _ (Classical.propDecidable _), fun w => @decide_eq_true_iff _ (Classical.propDecidable _)⟩
  exact c_B_woos (h := 86) hC.1 he (fun m1 F => c_R_woos (h := 89) (hR.hi (jSC F)).1 he (fun m2 G => ⟨rfl, jQ (hC.sc F) (hR.hi (jSC F)) G⟩))
theorem j_turnOff (x : Int32) (hJ : JJ mi ml) : CI l 100 m_B_turnOff [.ref 1, .int x] mi ml z (JR l m_R_turnOff [.ref 119, .int x]) := by
  obtain ⟨a, d, hs, im, ty, n, tp, fk, fp, hC, hR⟩ := hJ
  exact c_B_turnOff (h := 94) hC.1 (c_R_turnOff (h := 96) hR.1 (fun m2 G F => ⟨rfl, jB hC G (hR.fr F)⟩))
theorem j_marks (x y : Int32) (hJ : JJ mi ml) : CI l 100 m_B_marks [.ref 1, .int x, .int y] mi ml z (JR l m_R_marks [.ref 119, .int x, .int y]) := by
  obtain ⟨a, d, hs, im, ty, n, tp, fk, fp, hC, hR⟩ := hJ
  exact c_B_marks (h := 93) hC.1 hC.2.2.2.2.1 (fun m1 F => c_R_marks (h := 94) (hR.hi (jSC F)).1 (hR.hi (jSC F)).2.2.2.1 (jS hC) (jN hC) (fun m2 G => ⟨rfl, jQ (hC.sc F) (hR.hi (jSC F)) G⟩))
theorem j_ask (x y : Int32) (hJ : JJ mi ml) : CI l 100 m_B_ask [.ref 1, .int x, .int y] mi ml z (JR l m_R_ask [.ref 119, .int x, .int y]) := by
  obtain ⟨a, d, hs, im, ty, n, tp, fk, fp, hC, hR⟩ := hJ
  exact c_B_ask (h := 93) hC.1 hC.2.2.2.2.1 (fun m1 F => c_R_ask (h := 94) (hR.hi (jSC F)).1 (hR.hi (jSC F)).2.2.2.1 (jS hC) (jN hC) (fun m2 G => ⟨rfl, jQ (hC.sc F) (hR.hi (jSC F)) G⟩))
theorem j_judge (x y : Int32) (hJ : JJ mi ml) : CI l 100 m_B_judge [.ref 1, .int x, .int y] mi ml z (JR l m_R_judge [.ref 119, .int x, .int y]) := by
  obtain ⟨a, d, hs, im, ty, n, tp, fk, fp, hC, hR⟩ := hJ
  exact c_B_judge (h := 92) hC.1 hC.2.2.2.2.1 (fun m1 F => c_R_judge (h := 92) (hR.hi (jSC F)) (jS hC) (jN hC) (fun m2 G hR2 => ⟨rfl, jB (hC.sc F) G hR2⟩))
theorem j_declare (x y : Int32) (hJ : JJ mi ml) : CI l 100 m_B_declare [.ref 1, .int x, .int y] mi ml z (JR l m_R_declare [.ref 119, .int x, .int y]) := by
  obtain ⟨a, d, hs, im, ty, n, tp, fk, fp, hC, hR⟩ := hJ
  exact c_B_declare (h := 95) hC (okX_into hC.1.1 x y) (fun m1 F hC1 => c_R_declare (h := 94) (hR.hi F) hC.2.1.1 (fun m2 G hR2 => ⟨rfl, jB hC1 G hR2⟩))
theorem j_leave (x : Int32) (hJ : JJ mi ml) : CI l 100 m_B_leave [.ref 1, .int x] mi ml z (JR l m_R_leave [.ref 119, .int x]) := by
  obtain ⟨a, d, hs, im, ty, n, tp, fk, fp, hC, hR⟩ := hJ
  exact c_B_leave (h := 95) hC (okX_out hC.1.1 hC.1.2.1 x) (fun m1 F hC1 => c_R_leave (h := 96) (hR.hi F) hC.2.1.1 (fun m2 G hR2 => ⟨rfl, jB hC1 G hR2⟩))
theorem j_send (x y v : Int32) (hJ : JJ mi ml) : CI l 100 m_B_send [.ref 1, .int x, .int y, .int v] mi ml z (JR l m_R_send [.ref 119, .int x, .int y, .int v]) := by
  obtain ⟨a, d, hs, im, ty, n, tp, fk, fp, hC, hR⟩ := hJ
  exact c_B_send (h := 95) hC (okX_give x y v) (fun m1 F hC1 => c_R_send (h := 96) (hR.hi F) hC.2.1.1 (fun m2 G hR2 => ⟨rfl, jB hC1 G hR2⟩))
theorem j_rain (x y : Int32) (hJ : JJ mi ml) : CI l 100 m_B_rain [.ref 1, .int x, .int y] mi ml z (JR l m_R_rain [.ref 119, .int x, .int y]) := by
  obtain ⟨a, d, hs, im, ty, n, tp, fk, fp, hC, hR⟩ := hJ
  exact c_B_rain (h := 94) hC (okX_pour hC.1.2.1 x y) (fun m1 F hC1 => c_R_rain (h := 97) (hR.hi F) hC.2.1.1 (fun m2 G hR2 => ⟨rfl, jB hC1 G hR2⟩))
theorem j_room (x y : Int32) (hJ : JJ mi ml) : CI l 100 m_B_room [.ref 1, .int x, .int y] mi ml z (JR l m_R_room [.ref 119, .int x, .int y]) := by
  obtain ⟨a, d, hs, im, ty, n, tp, fk, fp, hC, hR⟩ := hJ
  exact c_B_room (h := 96) hC (okX_wide x y) (fun m1 F hC1 => c_R_room (h := 95) (hR.hi F) hC.2.1.1 (fun m2 G hR2 => ⟨rfl, jB hC1 G hR2⟩))
theorem j_feed (v1 v2 v3 v4 v5 : Int32) (hJ : JJ mi ml) : CI l 100 m_B_feed [.ref 1, .int v1, .int v2, .int v3, .int v4, .int v5] mi ml z (JR l m_R_feed [.ref 119, .int v1, .int v2, .int v3, .int v4, .int v5]) := by
  obtain ⟨a, d, hs, im, ty, n, tp, fk, fp, hC, hR⟩ := hJ
  exact c_B_feed (h := 98) hC (fun h0 => c_R_feed (h := 99) hR hC.2.2.2.2.2.1.2.1 (fun _ m2 G hR2 => ⟨rfl, jB hC G hR2⟩) (fun h1 => absurd h0 (by omega))) (fun h1 m1 F hC1 => c_R_feed (h := 99) (hR.hi F) hC.2.2.2.2.2.1.2.1 (fun h0 => absurd h1 (by omega)) (fun _ m2 G hR2 => ⟨rfl, jB hC1 G hR2⟩))
theorem j_perform (x : Int32) (hJ : JJ mi ml) : CI l 100 m_B_perform [.ref 1, .int x] mi ml z (JR l m_R_perform [.ref 119, .int x]) := by
  obtain ⟨a, d, hs, im, ty, n, tp, fk, fp, hC, hR⟩ := hJ
  exact c_B_perform (h := 92) hC (fun h0 => c_R_perform (h := 92) hR hC.2.1.1 (jS hC) (jN hC) (fun _ m2 G hR2 => ⟨rfl, jB hC G hR2⟩) (fun h1 => absurd h1 h0)) (fun h1 m1 F hC1 => c_R_perform (h := 92) (hR.hi F) hC.2.1.1 (jS hC) (jN hC) (fun h0 => absurd h1 h0) (fun _ m2 G hR2 => ⟨rfl, jB hC1 G hR2⟩))
theorem j_year (x y : Int32) (hJ : JJ mi ml) : CI l 100 m_B_year [.ref 1, .int x, .int y] mi ml z (JR l m_R_year [.ref 119, .int x, .int y]) := by
  obtain ⟨a, d, hs, im, ty, n, tp, fk, fp, hC, hR⟩ := hJ
  exact c_B_year (h := 93) hC (fun h0 => c_R_year (h := 92) hR hC.2.1.1 (fun _ m2 G hR2 => ⟨rfl, jB hC G hR2⟩) (fun h1 => absurd h1 h0)) (fun h1 m1 F hC1 => c_R_year (h := 92) (hR.hi F) hC.2.1.1 (fun h0 => absurd h1 h0) (fun _ m2 G hR2 => ⟨rfl, jB hC1 G hR2⟩))
theorem jud {hs : List Dt} {x : Int32} {k : Nat} {d : Dt} (hl : hs.length ≤ 10) (e1 : x = nI k) (e2 : 0 < k) (e3 : hs[k - 1]? = some d) : 1 ≤ x.toInt ∧ x.toInt ≤ hs.length := by
  have h1 := (List.getElem?_eq_some_iff.mp e3).1
  rw [e1, nI_toInt (by omega)]
  omega
theorem jud2 {hs : List Dt} {x : Int32} {k k2 : Nat} {d d2 : Dt} (hl : hs.length ≤ 10) (e1 : x = nI k) (e3 : hs[k - 1]? = some d) (g1 : x = nI k2) (g3 : hs[k2 - 1]? = some d2) : k2 = k := by
  have h1 := (List.getElem?_eq_some_iff.mp e3).1
  have h2 := (List.getElem?_eq_some_iff.mp g3).1
  exact nI_inj (by omega) (by omega) (g1.symm.trans e1)
theorem j_undo (x : Int32) (hJ : JJ mi ml) : CI l 100 m_B_undo [.ref 1, .int x] mi ml z (JR l m_R_undo [.ref 119, .int x]) := by
  obtain ⟨a, d, hs, im, ty, n, tp, fk, fp, hC, hR⟩ := hJ
  exact c_B_undo (h := 94) hC (fun h0 => c_R_undoI (h := 98) hR hC.2.1.1 hC.2.2.1 (fun _ m2 G hR2 => ⟨rfl, jB hC G hR2⟩) (fun k d' m2 e1 e2 e3 _ _ => absurd (jud hC.2.1.1 e1 e2 e3) h0)) (fun k d' m1 e1 e2 e3 F hC1 => c_R_undoI (h := 98) (hR.hi F) hC.2.1.1 hC.2.2.1 (fun h0 => absurd (jud hC.2.1.1 e1 e2 e3) h0) (fun k2 d2 m2 g1 g2 g3 G hR2 => by
    have hk : k2 = k := jud2 hC.2.1.1 e1 e3 g1 g3
    subst hk
    have hd : d2 = d' := by rw [e3] at g3; cases g3; rfl
    subst hd
    exact ⟨rfl, jB hC1 G hR2⟩))
theorem j_numbers (x y v : Int32) (hJ : JJ mi ml) : CI l 100 m_B_numbers [.ref 1, .int x, .int y, .int v] mi ml z (JR l m_R_numbers [.ref 119, .int x, .int y, .int v]) := by
  obtain ⟨a, d, hs, im, ty, n, tp, fk, fp, hC, hR⟩ := hJ
  exact c_B_numbers (h := 97) hC (fun h0 => c_R_numbers (h := 98) hR (jN hC) (fun _ m2 G hR2 => ⟨rfl, jB hC G hR2⟩) (fun h1 => absurd h1 h0)) (fun h1 m1 l1 F hC1 => c_R_numbers (h := 98) (jhi hR F) (jN hC) (fun h0 => absurd h1 h0) (fun _ m2 l2 G hR2 => ⟨rfl, jLB hC1 G hR2⟩))
theorem j_write (x y : Int32) (w : Int64) (hJ : JJ mi ml) : CLg l 100 m_B_write [.ref 1, .int x, .int y, .long w] mi ml z (JL l m_R_write [.ref 119, .int x, .int y, .long w]) := by
  obtain ⟨a, d, hs, im, ty, n, tp, fk, fp, hC, hR⟩ := hJ
  exact c_B_write (h := 97) hC (fun h0 => c_R_write (h := 97) hR (jS hC) (jN hC) (fun _ m2 G hR2 => ⟨rfl, jB hC G hR2⟩) (fun h1 => absurd h1 h0) (fun h1 => absurd h1 h0)) (fun h1 h0 => c_R_write (h := 97) hR (jS hC) (jN hC) (fun q => absurd h1 q) (fun _ _ m2 G hR2 => ⟨rfl, jB hC G hR2⟩) (fun _ q => absurd q h0)) (fun h1 h2 l1 F hC1 => c_R_write (h := 97) (jhi hR (fun n hn => ⟨rfl, F n hn⟩)) (jS hC) (jN hC) (fun q => absurd h1 q) (fun _ q => absurd h2 q) (fun _ _ m2 l2 G hR2 => ⟨rfl, jLB hC1 G hR2⟩))
theorem j_lists (x y : Int32) (hJ : JJ mi ml) : CI l 100 m_B_lists [.ref 1, .int x, .int y] mi ml z (JR l m_R_lists [.ref 119, .int x, .int y]) := by
  obtain ⟨a, d, hs, im, ty, n, tp, fk, fp, hC, hR⟩ := hJ
  exact c_B_lists (h := 94) hC (fun h0 => c_R_lists (h := 93) hR (jS hC) (jN hC) (fun _ m2 G hR2 => ⟨rfl, jB hC G hR2⟩) (fun h1 => absurd h1 h0)) (fun h1 m1 l1 wo w1 w2 F hC1 => c_R_lists (h := 93) (jhi hR F) (jS hC) (jN hC) (fun h0 => absurd h1 h0) (fun _ m2 l2 wo2 v1 v2 G hR2 => by
    have hw : ∀ b, b < nB a → wo b = wo2 b := by
      by_cases c : y = 0
      · exact jBe hC.1.1 (w1 c) (v1 c)
      · exact jWo hC.1.1 (w2 c) (v2 c)
    have ht : ltT ty x.toInt.toNat (min (ty.2.1 x.toInt.toNat) (nB a)) (fun b => (oI (wo b)).toInt64) = ltT ty x.toInt.toNat (min (ty.2.1 x.toInt.toNat) (nB a)) (fun b => (oI (wo2 b)).toInt64) := ltT_congr (fun j hj => by rw [hw j (by omega)])
    rw [ht] at hC1
    exact ⟨rfl, jLB hC1 G hR2⟩))
theorem j_image (x : Int32) (hJ : JJ mi ml) : CI l 100 m_B_image [.ref 1, .int x] mi ml z (JR l m_R_image [.ref 119, .int x]) := by
  obtain ⟨a, d, hs, im, ty, n, tp, fk, fp, hC, hR⟩ := hJ
  exact c_B_image (h := 98) hC (fun h0 => c_R_image (h := 98) hR hC.2.1.1 (fun i a' d' hi e => ((hC.2.2.2.1 i hi).2.2 a' d' e).1) (fun _ m2 G hR2 => ⟨rfl, jB hC G hR2⟩) (fun h1 => absurd h1 h0)) (fun h1 m1 F hC1 => c_R_image (h := 98) (hR.hi F) hC.2.1.1 (fun i a' d' hi e => ((hC.2.2.2.1 i hi).2.2 a' d' e).1) (fun h0 => absurd h1 h0) (fun _ m2 G hR2 => ⟨rfl, jB hC1 G hR2⟩))
theorem j_restore (x : Int32) (hJ : JJ mi ml) : CI l 100 m_B_restore [.ref 1, .int x] mi ml z (JR l m_R_restore [.ref 119, .int x]) := by
  obtain ⟨a, d, hs, im, ty, n, tp, fk, fp, hC, hR⟩ := hJ
  exact c_B_restore (h := 98) hC (fun h0 => c_R_restore (h := 98) hR (fun i a' d' hi e => ⟨((hC.2.2.2.1 i hi).2.2 a' d' e).1, ((hC.2.2.2.1 i hi).2.2 a' d' e).2.1⟩) (fun _ m2 G hR2 => ⟨rfl, jB hC G hR2⟩) (fun h1 => absurd h1 h0) (fun h1 => absurd h1 h0)) (fun h1 e0 => c_R_restore (h := 98) hR (fun i a' d' hi e => ⟨((hC.2.2.2.1 i hi).2.2 a' d' e).1, ((hC.2.2.2.1 i hi).2.2 a' d' e).2.1⟩) (fun h0 => absurd h1 h0) (fun _ _ m2 G hR2 => ⟨rfl, jB hC G hR2⟩) (fun _ a2 d2 m2 e2 _ _ => by rw [e0] at e2; cases e2)) (fun h1 a1 d1 m1 e1 F hC1 => c_R_restore (h := 98) (hR.hi F) (fun i a' d' hi e => ⟨((hC.2.2.2.1 i hi).2.2 a' d' e).1, ((hC.2.2.2.1 i hi).2.2 a' d' e).2.1⟩) (fun h0 => absurd h1 h0) (fun _ e0 => by rw [e0] at e1; cases e1) (fun _ a2 d2 m2 e2 G hR2 => by
    rw [e1] at e2
    cases e2
    exact ⟨rfl, jB hC1 G hR2⟩))
theorem jla {x : Int32} {k n : Nat} (hn : n ≤ 900) (e1 : x = nI k) (e2 : k ≤ n) : 0 ≤ x.toInt ∧ x.toInt ≤ n := by
  rw [e1, nI_toInt (by omega)]
  omega
theorem j_land (x : Int32) (hJ : JJ mi ml) : CI l 100 m_B_land [.ref 1, .int x] mi ml z (JR l m_R_land [.ref 119, .int x]) := by
  obtain ⟨a, d, hs, im, ty, n, tp, fk, fp, hC, hR⟩ := hJ
  have hT := hC.2.2.2.2.2.1
  exact c_B_land (h := 9) hC (fun h0 => c_R_land (h := 9) hR hT.2.1 (fun j hj => (hT.2.2 j hj).2) (fun _ m2 G hR2 => ⟨rfl, jB hC G hR2⟩) (fun k e1 e2 => absurd (jla hT.2.1 e1 e2) h0) (fun k e1 e2 => absurd (jla hT.2.1 e1 e2) h0) (fun k e1 e2 => absurd (jla hT.2.1 e1 e2) h0)) (fun k e1 e2 e3 m1 F hC1 => c_R_land (h := 9) (hR.hi F) hT.2.1 (fun j hj => (hT.2.2 j hj).2) (fun h0 => absurd (jla hT.2.1 e1 e2) h0) (fun k2 g1 g2 g3 m2 G hR2 => by
    have hk : k2 = k := nI_inj (by have := hT.2.1; omega) (by have := hT.2.1; omega) (g1.symm.trans e1)
    subst hk
    exact ⟨rfl, jB hC1 G hR2⟩) (fun k2 g1 g2 g3 => by
    have hk : k2 = k := nI_inj (by have := hT.2.1; omega) (by have := hT.2.1; omega) (g1.symm.trans e1)
    subst hk
    exact absurd g3 e3) (fun k2 g1 g2 g3 => by
    have hk : k2 = k := nI_inj (by have := hT.2.1; omega) (by have := hT.2.1; omega) (g1.symm.trans e1)
    subst hk
    exact absurd g3 e3)) (fun k e1 e2 e3 m1 F hz hC1 => c_R_land (h := 9) (hR.hi F) hT.2.1 (fun j hj => (hT.2.2 j hj).2) (fun h0 => absurd (jla hT.2.1 e1 e2) h0) (fun k2 g1 g2 g3 => by
    have hk : k2 = k := nI_inj (by have := hT.2.1; omega) (by have := hT.2.1; omega) (g1.symm.trans e1)
    subst hk
    exact absurd e3 g3) (fun k2 g1 g2 g3 => by
    have hk : k2 = k := nI_inj (by have := hT.2.1; omega) (by have := hT.2.1; omega) (g1.symm.trans e1)
    subst hk
    exact hC1.1.2.2.1.bd hC1.1.1) (fun k2 g1 g2 g3 m2 G hR2 => by
    have hk : k2 = k := nI_inj (by have := hT.2.1; omega) (by have := hT.2.1; omega) (g1.symm.trans e1)
    subst hk
    exact ⟨rfl, jB hC1 G hR2⟩))
end JOINT2
