/-! ===== the answers of deeds ===== -/
theorem okX_into {a : Ln} {d : Dt} (ha : okLn a) (x y : Int32) : okX (iInto a d x y).1 := by
  have hB6 := ha.1
  unfold iInto
  split
  · unfold dInto
    split
    · exact okX_12
    · split
      · exact okX_13
      · split
        · exact okX_14
        · split
          · exact okX_m1
          · split
            · exact okX_m1
            · rename_i m hm
              have := (lst_lt hm).1
              exact okX_nI (show m < 2 ^ 31 by omega)
  · exact okX_11
theorem okX_out {a : Ln} {d : Dt} (ha : okLn a) (hd : okD a d) (x : Int32) : okX (iOut a d x).1 := by
  have hR4 := ha.2.1
  unfold iOut
  split
  · unfold dOut
    split
    · exact okX_12
    · rename_i r hr
      have := (hd.1 _ r hr).2
      exact okX_nI (show r < 2 ^ 31 by omega)
  · exact okX_11
theorem okX_give {a : Ln} {d : Dt} (y x v : Int32) : okX (iGive a d y x v).1 := by
  unfold iGive
  split
  · unfold dGive
    split
    · rename_i h; exact okX_nI (show _ < 2 ^ 31 by omega)
    · exact okX_12
  · exact okX_11
theorem okX_pour {a : Ln} {d : Dt} (hd : okD a d) (x v : Int32) : okX (iPour a d x v).1 := by
  unfold iPour
  split
  · have := (hd.2.1 x.toInt.toNat).1
    exact okX_nI (show dF d x.toInt.toNat < 2 ^ 31 by omega)
  · exact okX_11
theorem okX_wide {a : Ln} {d : Dt} (y v : Int32) : okX (iWide a d y v).1 := by
  unfold iWide
  split
  · have := psh_le (tkD a d) (nB a) y.toInt.toNat v.toInt.toNat 6 (dW d)
    exact okX_nI (show (psh (tkD a d) (nB a) y.toInt.toNat v.toInt.toNat 6 (dW d)).1 < 2 ^ 31 by omega)
  · exact okX_11
theorem kp_le {x : Int32} {hs : List Dt} {d : Dt} (h : hs.length ≤ 10) : (kp x hs d).length ≤ 10 := by
  unfold kp
  split
  · rw [List.length_take]; omega
  · exact h
theorem kpN_le {k : Nat} {hs : List Dt} {d : Dt} (h : hs.length ≤ 10) : (kpN k hs d).length ≤ 10 := by
  unfold kpN
  split
  · exact h
  · rw [List.length_take]; omega
