def f_Ja_fillI_lp5 (q : Nat) (x2 : Int) (x3 : Int) (k : Int → jH → Option (jH)) : Nat → Int → jH → Option (jH)
  | 0, _, _ => none
  | n + 1, l1, h4 => if x3 ≤ l1 then k l1 h4 else jgd (0 ≤ l1 ∧ l1 < 64) (f_Ja_fillI_lp5 q x2 x3 k n (jadd l1 1) (jup h4 q l1.toNat x2))
def f_Ja_fillI (q : Nat) (h : jH) (a1 : Int) : Option (jH) := f_Ja_fillI_lp5 q a1 64 (fun l5 h6 => some h6) 1000 0 h
set_option maxRecDepth 100000 in
set_option maxHeartbeats 4000000 in
theorem f_Ja_fillI_lp5_ok (E : jE) (q : Nat) (hr : q = 3 ∨ q = 21) {x2 : Int} {x3 : Int} {k : Int → jH → Option (jH)} (hk : ∀ (l1 : Int) (h4 : jH) (res : jH), k l1 h4 = some res → jG E M_Ja_fillI 20 [] [] h4 none res) : ∀ (n : Nat) (l1 : Int) (h4 : jH) (res : jH), f_Ja_fillI_lp5 q x2 x3 k n l1 h4 = some res → jG E M_Ja_fillI 5 [(0, (2, ((q : Nat) : Int))), (1, (0, x2)), (2, (0, l1)), (3, (0, x3))] [] h4 none res := by
  rcases hr with rfl | rfl
  · intro n
    induction n with
    | zero => intro l1 h4 res hv; cases hv
    | succ n ih =>
      intro l1 h4 res hv
      rw [f_Ja_fillI_lp5] at hv
      refine jG.blk (st_Ja_fillI) 2 (pc1 := 7) (L1 := [(0, (2, ((3 : Nat) : Int))), (1, (0, x2)), (2, (0, l1)), (3, (0, x3))]) (st1 := [(0, x3), (0, l1)]) (h1 := h4) rfl ?_
      refine jT.if2 (st_Ja_fillI) rfl (tgt := 20) (by decide) (fun hc => ?_) (fun hc => ?_)
      · have hc : x3 ≤ l1 := hc
        try rw [if_pos hc] at hv
        refine jG.subp [] (L1 := []) rfl ?_
        exact hk _ _ _ hv
      · have hc : ¬ (x3 ≤ l1) := hc
        try rw [if_neg hc] at hv
        refine jG.blk (st_Ja_fillI) 3 (pc1 := 13) (L1 := [(0, (2, ((3 : Nat) : Int))), (1, (0, x2)), (2, (0, l1)), (3, (0, x3))]) (st1 := [(0, x2), (0, l1), (2, ((3 : Nat) : Int))]) (h1 := h4) rfl ?_
        obtain ⟨hg, hv⟩ := jgd_some hv
        refine jT.iast (a := 3) (st_Ja_fillI) rfl rfl (by decide) hg.1 hg.2 ?_
        refine jG.blk (st_Ja_fillI) 1 (pc1 := 17) (L1 := [(2, (0, jadd l1 1)), (0, (2, ((3 : Nat) : Int))), (1, (0, x2)), (3, (0, x3))]) (st1 := []) (h1 := jup h4 3 l1.toNat x2) rfl ?_
        refine jT.goto (st_Ja_fillI) rfl (tgt := 5) (by decide) ?_
        refine jG.subp [1, 2, 0, 3] (L1 := [(0, (2, ((3 : Nat) : Int))), (1, (0, x2)), (2, (0, jadd l1 1)), (3, (0, x3))]) rfl ?_
        exact ih _ _ _ hv
  · intro n
    induction n with
    | zero => intro l1 h4 res hv; cases hv
    | succ n ih =>
      intro l1 h4 res hv
      rw [f_Ja_fillI_lp5] at hv
      refine jG.blk (st_Ja_fillI) 2 (pc1 := 7) (L1 := [(0, (2, ((21 : Nat) : Int))), (1, (0, x2)), (2, (0, l1)), (3, (0, x3))]) (st1 := [(0, x3), (0, l1)]) (h1 := h4) rfl ?_
      refine jT.if2 (st_Ja_fillI) rfl (tgt := 20) (by decide) (fun hc => ?_) (fun hc => ?_)
      · have hc : x3 ≤ l1 := hc
        try rw [if_pos hc] at hv
        refine jG.subp [] (L1 := []) rfl ?_
        exact hk _ _ _ hv
      · have hc : ¬ (x3 ≤ l1) := hc
        try rw [if_neg hc] at hv
        refine jG.blk (st_Ja_fillI) 3 (pc1 := 13) (L1 := [(0, (2, ((21 : Nat) : Int))), (1, (0, x2)), (2, (0, l1)), (3, (0, x3))]) (st1 := [(0, x2), (0, l1), (2, ((21 : Nat) : Int))]) (h1 := h4) rfl ?_
        obtain ⟨hg, hv⟩ := jgd_some hv
        refine jT.iast (a := 21) (st_Ja_fillI) rfl rfl (by decide) hg.1 hg.2 ?_
        refine jG.blk (st_Ja_fillI) 1 (pc1 := 17) (L1 := [(2, (0, jadd l1 1)), (0, (2, ((21 : Nat) : Int))), (1, (0, x2)), (3, (0, x3))]) (st1 := []) (h1 := jup h4 21 l1.toNat x2) rfl ?_
        refine jT.goto (st_Ja_fillI) rfl (tgt := 5) (by decide) ?_
        refine jG.subp [1, 2, 0, 3] (L1 := [(0, (2, ((21 : Nat) : Int))), (1, (0, x2)), (2, (0, jadd l1 1)), (3, (0, x3))]) rfl ?_
        exact ih _ _ _ hv
set_option maxRecDepth 100000 in
set_option maxHeartbeats 4000000 in
theorem C_Ja_fillI {E : jE} {q : Nat} (hr : q = 3 ∨ q = 21) {h : jH} {a1 : Int} {res : jH} (hv : f_Ja_fillI q h a1 = some res) : jC E M_Ja_fillI [(2, ((q : Nat) : Int)), (0, a1)] h none res := by
  rcases hr with rfl | rfl
  · refine jC.of ok_Ja_fillI.1 (by rw [jlg]; exact Nat.le_of_ble_eq_true rfl) ?_
    show jG E _ 0 [(0, (2, ((3 : Nat) : Int))), (1, (0, a1))] [] h _ _
    unfold f_Ja_fillI at hv
    refine jG.blk (st_Ja_fillI) 3 (pc1 := 3) (L1 := [(2, (0, 0)), (0, (2, ((3 : Nat) : Int))), (1, (0, a1))]) (st1 := [(2, ((3 : Nat) : Int))]) (h1 := h) rfl ?_
    refine jT.alen (a := 3) (st_Ja_fillI) rfl rfl (by decide) (by decide) ?_
    refine jG.blk (st_Ja_fillI) 1 (pc1 := 5) (L1 := [(3, (0, 64)), (2, (0, 0)), (0, (2, ((3 : Nat) : Int))), (1, (0, a1))]) (st1 := []) (h1 := h) rfl ?_
    refine jG.subp [2, 3, 1, 0] (L1 := [(0, (2, ((3 : Nat) : Int))), (1, (0, a1)), (2, (0, 0)), (3, (0, 64))]) rfl ?_
    refine f_Ja_fillI_lp5_ok E 3 (by decide) (fun l5 h6 res hv => ?_) 1000 _ _ _ hv
    · cases hv
      exact jT.vret (st_Ja_fillI) rfl trivial
  · refine jC.of ok_Ja_fillI.1 (by rw [jlg]; exact Nat.le_of_ble_eq_true rfl) ?_
    show jG E _ 0 [(0, (2, ((21 : Nat) : Int))), (1, (0, a1))] [] h _ _
    unfold f_Ja_fillI at hv
    refine jG.blk (st_Ja_fillI) 3 (pc1 := 3) (L1 := [(2, (0, 0)), (0, (2, ((21 : Nat) : Int))), (1, (0, a1))]) (st1 := [(2, ((21 : Nat) : Int))]) (h1 := h) rfl ?_
    refine jT.alen (a := 21) (st_Ja_fillI) rfl rfl (by decide) (by decide) ?_
    refine jG.blk (st_Ja_fillI) 1 (pc1 := 5) (L1 := [(3, (0, 64)), (2, (0, 0)), (0, (2, ((21 : Nat) : Int))), (1, (0, a1))]) (st1 := []) (h1 := h) rfl ?_
    refine jG.subp [2, 3, 1, 0] (L1 := [(0, (2, ((21 : Nat) : Int))), (1, (0, a1)), (2, (0, 0)), (3, (0, 64))]) rfl ?_
    refine f_Ja_fillI_lp5_ok E 21 (by decide) (fun l5 h6 res hv => ?_) 1000 _ _ _ hv
    · cases hv
      exact jT.vret (st_Ja_fillI) rfl trivial
def f_Ja_fillJ_lp6 (q : Nat) (x2 : Int) (x3 : Int) (k : Int → jH → Option (jH)) : Nat → Int → jH → Option (jH)
  | 0, _, _ => none
  | n + 1, l1, h4 => if x3 ≤ l1 then k l1 h4 else jgd (0 ≤ l1 ∧ l1 < 64) (f_Ja_fillJ_lp6 q x2 x3 k n (jadd l1 1) (jup h4 q l1.toNat x2))
def f_Ja_fillJ (q : Nat) (h : jH) (a1 : Int) : Option (jH) := f_Ja_fillJ_lp6 q a1 64 (fun l5 h6 => some h6) 1000 0 h
set_option maxRecDepth 100000 in
set_option maxHeartbeats 4000000 in
theorem f_Ja_fillJ_lp6_ok (E : jE) (q : Nat) (hr : q = 12 ∨ q = 13 ∨ q = 15 ∨ q = 16) {x2 : Int} {x3 : Int} {k : Int → jH → Option (jH)} (hk : ∀ (l1 : Int) (h4 : jH) (res : jH), k l1 h4 = some res → jG E M_Ja_fillJ 22 [] [] h4 none res) : ∀ (n : Nat) (l1 : Int) (h4 : jH) (res : jH), f_Ja_fillJ_lp6 q x2 x3 k n l1 h4 = some res → jG E M_Ja_fillJ 6 [(0, (2, ((q : Nat) : Int))), (1, (1, x2)), (3, (0, l1)), (4, (0, x3))] [] h4 none res := by
  rcases hr with rfl | rfl | rfl | rfl
  · intro n
    induction n with
    | zero => intro l1 h4 res hv; cases hv
    | succ n ih =>
      intro l1 h4 res hv
      rw [f_Ja_fillJ_lp6] at hv
      refine jG.blk (st_Ja_fillJ) 2 (pc1 := 9) (L1 := [(0, (2, ((12 : Nat) : Int))), (1, (1, x2)), (3, (0, l1)), (4, (0, x3))]) (st1 := [(0, x3), (0, l1)]) (h1 := h4) rfl ?_
      refine jT.if2 (st_Ja_fillJ) rfl (tgt := 22) (by decide) (fun hc => ?_) (fun hc => ?_)
      · have hc : x3 ≤ l1 := hc
        try rw [if_pos hc] at hv
        refine jG.subp [] (L1 := []) rfl ?_
        exact hk _ _ _ hv
      · have hc : ¬ (x3 ≤ l1) := hc
        try rw [if_neg hc] at hv
        refine jG.blk (st_Ja_fillJ) 3 (pc1 := 15) (L1 := [(0, (2, ((12 : Nat) : Int))), (1, (1, x2)), (3, (0, l1)), (4, (0, x3))]) (st1 := [(1, x2), (0, l1), (2, ((12 : Nat) : Int))]) (h1 := h4) rfl ?_
        obtain ⟨hg, hv⟩ := jgd_some hv
        refine jT.last (a := 12) (st_Ja_fillJ) rfl rfl (by decide) hg.1 hg.2 ?_
        refine jG.blk (st_Ja_fillJ) 1 (pc1 := 19) (L1 := [(3, (0, jadd l1 1)), (0, (2, ((12 : Nat) : Int))), (1, (1, x2)), (4, (0, x3))]) (st1 := []) (h1 := jup h4 12 l1.toNat x2) rfl ?_
        refine jT.goto (st_Ja_fillJ) rfl (tgt := 6) (by decide) ?_
        refine jG.subp [1, 2, 0, 3] (L1 := [(0, (2, ((12 : Nat) : Int))), (1, (1, x2)), (3, (0, jadd l1 1)), (4, (0, x3))]) rfl ?_
        exact ih _ _ _ hv
  · intro n
    induction n with
    | zero => intro l1 h4 res hv; cases hv
    | succ n ih =>
      intro l1 h4 res hv
      rw [f_Ja_fillJ_lp6] at hv
      refine jG.blk (st_Ja_fillJ) 2 (pc1 := 9) (L1 := [(0, (2, ((13 : Nat) : Int))), (1, (1, x2)), (3, (0, l1)), (4, (0, x3))]) (st1 := [(0, x3), (0, l1)]) (h1 := h4) rfl ?_
      refine jT.if2 (st_Ja_fillJ) rfl (tgt := 22) (by decide) (fun hc => ?_) (fun hc => ?_)
      · have hc : x3 ≤ l1 := hc
        try rw [if_pos hc] at hv
        refine jG.subp [] (L1 := []) rfl ?_
        exact hk _ _ _ hv
      · have hc : ¬ (x3 ≤ l1) := hc
        try rw [if_neg hc] at hv
        refine jG.blk (st_Ja_fillJ) 3 (pc1 := 15) (L1 := [(0, (2, ((13 : Nat) : Int))), (1, (1, x2)), (3, (0, l1)), (4, (0, x3))]) (st1 := [(1, x2), (0, l1), (2, ((13 : Nat) : Int))]) (h1 := h4) rfl ?_
        obtain ⟨hg, hv⟩ := jgd_some hv
        refine jT.last (a := 13) (st_Ja_fillJ) rfl rfl (by decide) hg.1 hg.2 ?_
        refine jG.blk (st_Ja_fillJ) 1 (pc1 := 19) (L1 := [(3, (0, jadd l1 1)), (0, (2, ((13 : Nat) : Int))), (1, (1, x2)), (4, (0, x3))]) (st1 := []) (h1 := jup h4 13 l1.toNat x2) rfl ?_
        refine jT.goto (st_Ja_fillJ) rfl (tgt := 6) (by decide) ?_
        refine jG.subp [1, 2, 0, 3] (L1 := [(0, (2, ((13 : Nat) : Int))), (1, (1, x2)), (3, (0, jadd l1 1)), (4, (0, x3))]) rfl ?_
        exact ih _ _ _ hv
  · intro n
    induction n with
    | zero => intro l1 h4 res hv; cases hv
    | succ n ih =>
      intro l1 h4 res hv
      rw [f_Ja_fillJ_lp6] at hv
      refine jG.blk (st_Ja_fillJ) 2 (pc1 := 9) (L1 := [(0, (2, ((15 : Nat) : Int))), (1, (1, x2)), (3, (0, l1)), (4, (0, x3))]) (st1 := [(0, x3), (0, l1)]) (h1 := h4) rfl ?_
      refine jT.if2 (st_Ja_fillJ) rfl (tgt := 22) (by decide) (fun hc => ?_) (fun hc => ?_)
      · have hc : x3 ≤ l1 := hc
        try rw [if_pos hc] at hv
        refine jG.subp [] (L1 := []) rfl ?_
        exact hk _ _ _ hv
      · have hc : ¬ (x3 ≤ l1) := hc
        try rw [if_neg hc] at hv
        refine jG.blk (st_Ja_fillJ) 3 (pc1 := 15) (L1 := [(0, (2, ((15 : Nat) : Int))), (1, (1, x2)), (3, (0, l1)), (4, (0, x3))]) (st1 := [(1, x2), (0, l1), (2, ((15 : Nat) : Int))]) (h1 := h4) rfl ?_
        obtain ⟨hg, hv⟩ := jgd_some hv
        refine jT.last (a := 15) (st_Ja_fillJ) rfl rfl (by decide) hg.1 hg.2 ?_
        refine jG.blk (st_Ja_fillJ) 1 (pc1 := 19) (L1 := [(3, (0, jadd l1 1)), (0, (2, ((15 : Nat) : Int))), (1, (1, x2)), (4, (0, x3))]) (st1 := []) (h1 := jup h4 15 l1.toNat x2) rfl ?_
        refine jT.goto (st_Ja_fillJ) rfl (tgt := 6) (by decide) ?_
        refine jG.subp [1, 2, 0, 3] (L1 := [(0, (2, ((15 : Nat) : Int))), (1, (1, x2)), (3, (0, jadd l1 1)), (4, (0, x3))]) rfl ?_
        exact ih _ _ _ hv
  · intro n
    induction n with
    | zero => intro l1 h4 res hv; cases hv
    | succ n ih =>
      intro l1 h4 res hv
      rw [f_Ja_fillJ_lp6] at hv
      refine jG.blk (st_Ja_fillJ) 2 (pc1 := 9) (L1 := [(0, (2, ((16 : Nat) : Int))), (1, (1, x2)), (3, (0, l1)), (4, (0, x3))]) (st1 := [(0, x3), (0, l1)]) (h1 := h4) rfl ?_
      refine jT.if2 (st_Ja_fillJ) rfl (tgt := 22) (by decide) (fun hc => ?_) (fun hc => ?_)
      · have hc : x3 ≤ l1 := hc
        try rw [if_pos hc] at hv
        refine jG.subp [] (L1 := []) rfl ?_
        exact hk _ _ _ hv
      · have hc : ¬ (x3 ≤ l1) := hc
        try rw [if_neg hc] at hv
        refine jG.blk (st_Ja_fillJ) 3 (pc1 := 15) (L1 := [(0, (2, ((16 : Nat) : Int))), (1, (1, x2)), (3, (0, l1)), (4, (0, x3))]) (st1 := [(1, x2), (0, l1), (2, ((16 : Nat) : Int))]) (h1 := h4) rfl ?_
        obtain ⟨hg, hv⟩ := jgd_some hv
        refine jT.last (a := 16) (st_Ja_fillJ) rfl rfl (by decide) hg.1 hg.2 ?_
        refine jG.blk (st_Ja_fillJ) 1 (pc1 := 19) (L1 := [(3, (0, jadd l1 1)), (0, (2, ((16 : Nat) : Int))), (1, (1, x2)), (4, (0, x3))]) (st1 := []) (h1 := jup h4 16 l1.toNat x2) rfl ?_
        refine jT.goto (st_Ja_fillJ) rfl (tgt := 6) (by decide) ?_
        refine jG.subp [1, 2, 0, 3] (L1 := [(0, (2, ((16 : Nat) : Int))), (1, (1, x2)), (3, (0, jadd l1 1)), (4, (0, x3))]) rfl ?_
        exact ih _ _ _ hv
set_option maxRecDepth 100000 in
set_option maxHeartbeats 4000000 in
theorem C_Ja_fillJ {E : jE} {q : Nat} (hr : q = 12 ∨ q = 13 ∨ q = 15 ∨ q = 16) {h : jH} {a1 : Int} {res : jH} (hv : f_Ja_fillJ q h a1 = some res) : jC E M_Ja_fillJ [(2, ((q : Nat) : Int)), (1, a1)] h none res := by
  rcases hr with rfl | rfl | rfl | rfl
  · refine jC.of ok_Ja_fillJ.1 (by rw [jlg]; exact Nat.le_of_ble_eq_true rfl) ?_
    show jG E _ 0 [(0, (2, ((12 : Nat) : Int))), (1, (1, a1))] [] h _ _
    unfold f_Ja_fillJ at hv
    refine jG.blk (st_Ja_fillJ) 3 (pc1 := 3) (L1 := [(3, (0, 0)), (0, (2, ((12 : Nat) : Int))), (1, (1, a1))]) (st1 := [(2, ((12 : Nat) : Int))]) (h1 := h) rfl ?_
    refine jT.alen (a := 12) (st_Ja_fillJ) rfl rfl (by decide) (by decide) ?_
    refine jG.blk (st_Ja_fillJ) 1 (pc1 := 6) (L1 := [(4, (0, 64)), (3, (0, 0)), (0, (2, ((12 : Nat) : Int))), (1, (1, a1))]) (st1 := []) (h1 := h) rfl ?_
    refine jG.subp [2, 3, 1, 0] (L1 := [(0, (2, ((12 : Nat) : Int))), (1, (1, a1)), (3, (0, 0)), (4, (0, 64))]) rfl ?_
    refine f_Ja_fillJ_lp6_ok E 12 (by decide) (fun l5 h6 res hv => ?_) 1000 _ _ _ hv
    · cases hv
      exact jT.vret (st_Ja_fillJ) rfl trivial
  · refine jC.of ok_Ja_fillJ.1 (by rw [jlg]; exact Nat.le_of_ble_eq_true rfl) ?_
    show jG E _ 0 [(0, (2, ((13 : Nat) : Int))), (1, (1, a1))] [] h _ _
    unfold f_Ja_fillJ at hv
    refine jG.blk (st_Ja_fillJ) 3 (pc1 := 3) (L1 := [(3, (0, 0)), (0, (2, ((13 : Nat) : Int))), (1, (1, a1))]) (st1 := [(2, ((13 : Nat) : Int))]) (h1 := h) rfl ?_
    refine jT.alen (a := 13) (st_Ja_fillJ) rfl rfl (by decide) (by decide) ?_
    refine jG.blk (st_Ja_fillJ) 1 (pc1 := 6) (L1 := [(4, (0, 64)), (3, (0, 0)), (0, (2, ((13 : Nat) : Int))), (1, (1, a1))]) (st1 := []) (h1 := h) rfl ?_
    refine jG.subp [2, 3, 1, 0] (L1 := [(0, (2, ((13 : Nat) : Int))), (1, (1, a1)), (3, (0, 0)), (4, (0, 64))]) rfl ?_
    refine f_Ja_fillJ_lp6_ok E 13 (by decide) (fun l5 h6 res hv => ?_) 1000 _ _ _ hv
    · cases hv
      exact jT.vret (st_Ja_fillJ) rfl trivial
  · refine jC.of ok_Ja_fillJ.1 (by rw [jlg]; exact Nat.le_of_ble_eq_true rfl) ?_
    show jG E _ 0 [(0, (2, ((15 : Nat) : Int))), (1, (1, a1))] [] h _ _
    unfold f_Ja_fillJ at hv
    refine jG.blk (st_Ja_fillJ) 3 (pc1 := 3) (L1 := [(3, (0, 0)), (0, (2, ((15 : Nat) : Int))), (1, (1, a1))]) (st1 := [(2, ((15 : Nat) : Int))]) (h1 := h) rfl ?_
    refine jT.alen (a := 15) (st_Ja_fillJ) rfl rfl (by decide) (by decide) ?_
    refine jG.blk (st_Ja_fillJ) 1 (pc1 := 6) (L1 := [(4, (0, 64)), (3, (0, 0)), (0, (2, ((15 : Nat) : Int))), (1, (1, a1))]) (st1 := []) (h1 := h) rfl ?_
    refine jG.subp [2, 3, 1, 0] (L1 := [(0, (2, ((15 : Nat) : Int))), (1, (1, a1)), (3, (0, 0)), (4, (0, 64))]) rfl ?_
    refine f_Ja_fillJ_lp6_ok E 15 (by decide) (fun l5 h6 res hv => ?_) 1000 _ _ _ hv
    · cases hv
      exact jT.vret (st_Ja_fillJ) rfl trivial
  · refine jC.of ok_Ja_fillJ.1 (by rw [jlg]; exact Nat.le_of_ble_eq_true rfl) ?_
    show jG E _ 0 [(0, (2, ((16 : Nat) : Int))), (1, (1, a1))] [] h _ _
    unfold f_Ja_fillJ at hv
    refine jG.blk (st_Ja_fillJ) 3 (pc1 := 3) (L1 := [(3, (0, 0)), (0, (2, ((16 : Nat) : Int))), (1, (1, a1))]) (st1 := [(2, ((16 : Nat) : Int))]) (h1 := h) rfl ?_
    refine jT.alen (a := 16) (st_Ja_fillJ) rfl rfl (by decide) (by decide) ?_
    refine jG.blk (st_Ja_fillJ) 1 (pc1 := 6) (L1 := [(4, (0, 64)), (3, (0, 0)), (0, (2, ((16 : Nat) : Int))), (1, (1, a1))]) (st1 := []) (h1 := h) rfl ?_
    refine jG.subp [2, 3, 1, 0] (L1 := [(0, (2, ((16 : Nat) : Int))), (1, (1, a1)), (3, (0, 0)), (4, (0, 64))]) rfl ?_
    refine f_Ja_fillJ_lp6_ok E 16 (by decide) (fun l5 h6 res hv => ?_) 1000 _ _ _ hv
    · cases hv
      exact jT.vret (st_Ja_fillJ) rfl trivial
def f_Jl_bitCount (h : jH) (a0 : Int) : Option (Int) := some (jand (jl2i (jladd (jladd (jladd (jland (jladd (jladd (jland (jlsub a0 (jland (jlushr a0 1) 6148914691236517205)) 3689348814741910323) (jland (jlushr (jlsub a0 (jland (jlushr a0 1) 6148914691236517205)) 2) 3689348814741910323)) (jlushr (jladd (jland (jlsub a0 (jland (jlushr a0 1) 6148914691236517205)) 3689348814741910323) (jland (jlushr (jlsub a0 (jland (jlushr a0 1) 6148914691236517205)) 2) 3689348814741910323)) 4)) 1085102592571150095) (jlushr (jland (jladd (jladd (jland (jlsub a0 (jland (jlushr a0 1) 6148914691236517205)) 3689348814741910323) (jland (jlushr (jlsub a0 (jland (jlushr a0 1) 6148914691236517205)) 2) 3689348814741910323)) (jlushr (jladd (jland (jlsub a0 (jland (jlushr a0 1) 6148914691236517205)) 3689348814741910323) (jland (jlushr (jlsub a0 (jland (jlushr a0 1) 6148914691236517205)) 2) 3689348814741910323)) 4)) 1085102592571150095) 8)) (jlushr (jladd (jland (jladd (jladd (jland (jlsub a0 (jland (jlushr a0 1) 6148914691236517205)) 3689348814741910323) (jland (jlushr (jlsub a0 (jland (jlushr a0 1) 6148914691236517205)) 2) 3689348814741910323)) (jlushr (jladd (jland (jlsub a0 (jland (jlushr a0 1) 6148914691236517205)) 3689348814741910323) (jland (jlushr (jlsub a0 (jland (jlushr a0 1) 6148914691236517205)) 2) 3689348814741910323)) 4)) 1085102592571150095) (jlushr (jland (jladd (jladd (jland (jlsub a0 (jland (jlushr a0 1) 6148914691236517205)) 3689348814741910323) (jland (jlushr (jlsub a0 (jland (jlushr a0 1) 6148914691236517205)) 2) 3689348814741910323)) (jlushr (jladd (jland (jlsub a0 (jland (jlushr a0 1) 6148914691236517205)) 3689348814741910323) (jland (jlushr (jlsub a0 (jland (jlushr a0 1) 6148914691236517205)) 2) 3689348814741910323)) 4)) 1085102592571150095) 8)) 16)) (jlushr (jladd (jladd (jland (jladd (jladd (jland (jlsub a0 (jland (jlushr a0 1) 6148914691236517205)) 3689348814741910323) (jland (jlushr (jlsub a0 (jland (jlushr a0 1) 6148914691236517205)) 2) 3689348814741910323)) (jlushr (jladd (jland (jlsub a0 (jland (jlushr a0 1) 6148914691236517205)) 3689348814741910323) (jland (jlushr (jlsub a0 (jland (jlushr a0 1) 6148914691236517205)) 2) 3689348814741910323)) 4)) 1085102592571150095) (jlushr (jland (jladd (jladd (jland (jlsub a0 (jland (jlushr a0 1) 6148914691236517205)) 3689348814741910323) (jland (jlushr (jlsub a0 (jland (jlushr a0 1) 6148914691236517205)) 2) 3689348814741910323)) (jlushr (jladd (jland (jlsub a0 (jland (jlushr a0 1) 6148914691236517205)) 3689348814741910323) (jland (jlushr (jlsub a0 (jland (jlushr a0 1) 6148914691236517205)) 2) 3689348814741910323)) 4)) 1085102592571150095) 8)) (jlushr (jladd (jland (jladd (jladd (jland (jlsub a0 (jland (jlushr a0 1) 6148914691236517205)) 3689348814741910323) (jland (jlushr (jlsub a0 (jland (jlushr a0 1) 6148914691236517205)) 2) 3689348814741910323)) (jlushr (jladd (jland (jlsub a0 (jland (jlushr a0 1) 6148914691236517205)) 3689348814741910323) (jland (jlushr (jlsub a0 (jland (jlushr a0 1) 6148914691236517205)) 2) 3689348814741910323)) 4)) 1085102592571150095) (jlushr (jland (jladd (jladd (jland (jlsub a0 (jland (jlushr a0 1) 6148914691236517205)) 3689348814741910323) (jland (jlushr (jlsub a0 (jland (jlushr a0 1) 6148914691236517205)) 2) 3689348814741910323)) (jlushr (jladd (jland (jlsub a0 (jland (jlushr a0 1) 6148914691236517205)) 3689348814741910323) (jland (jlushr (jlsub a0 (jland (jlushr a0 1) 6148914691236517205)) 2) 3689348814741910323)) 4)) 1085102592571150095) 8)) 16)) 32))) 127)
set_option maxRecDepth 100000 in
set_option maxHeartbeats 4000000 in
theorem C_Jl_bitCount {E : jE} {h : jH} {a0 : Int} {res : Int} (hv : f_Jl_bitCount h a0 = some res) : jC E M_Jl_bitCount [(1, a0)] h (some (0, res)) h := by
  refine jC.of ok_Jl_bitCount.1 (by rw [jlg]; exact Nat.le_of_ble_eq_true rfl) ?_
  show jG E _ 0 [(0, (1, a0))] [] h _ _
  unfold f_Jl_bitCount at hv
  refine jG.blk (st_Jl_bitCount) 48 (pc1 := 60) (L1 := [(0, (1, jladd (jladd (jladd (jland (jladd (jladd (jland (jlsub a0 (jland (jlushr a0 1) 6148914691236517205)) 3689348814741910323) (jland (jlushr (jlsub a0 (jland (jlushr a0 1) 6148914691236517205)) 2) 3689348814741910323)) (jlushr (jladd (jland (jlsub a0 (jland (jlushr a0 1) 6148914691236517205)) 3689348814741910323) (jland (jlushr (jlsub a0 (jland (jlushr a0 1) 6148914691236517205)) 2) 3689348814741910323)) 4)) 1085102592571150095) (jlushr (jland (jladd (jladd (jland (jlsub a0 (jland (jlushr a0 1) 6148914691236517205)) 3689348814741910323) (jland (jlushr (jlsub a0 (jland (jlushr a0 1) 6148914691236517205)) 2) 3689348814741910323)) (jlushr (jladd (jland (jlsub a0 (jland (jlushr a0 1) 6148914691236517205)) 3689348814741910323) (jland (jlushr (jlsub a0 (jland (jlushr a0 1) 6148914691236517205)) 2) 3689348814741910323)) 4)) 1085102592571150095) 8)) (jlushr (jladd (jland (jladd (jladd (jland (jlsub a0 (jland (jlushr a0 1) 6148914691236517205)) 3689348814741910323) (jland (jlushr (jlsub a0 (jland (jlushr a0 1) 6148914691236517205)) 2) 3689348814741910323)) (jlushr (jladd (jland (jlsub a0 (jland (jlushr a0 1) 6148914691236517205)) 3689348814741910323) (jland (jlushr (jlsub a0 (jland (jlushr a0 1) 6148914691236517205)) 2) 3689348814741910323)) 4)) 1085102592571150095) (jlushr (jland (jladd (jladd (jland (jlsub a0 (jland (jlushr a0 1) 6148914691236517205)) 3689348814741910323) (jland (jlushr (jlsub a0 (jland (jlushr a0 1) 6148914691236517205)) 2) 3689348814741910323)) (jlushr (jladd (jland (jlsub a0 (jland (jlushr a0 1) 6148914691236517205)) 3689348814741910323) (jland (jlushr (jlsub a0 (jland (jlushr a0 1) 6148914691236517205)) 2) 3689348814741910323)) 4)) 1085102592571150095) 8)) 16)) (jlushr (jladd (jladd (jland (jladd (jladd (jland (jlsub a0 (jland (jlushr a0 1) 6148914691236517205)) 3689348814741910323) (jland (jlushr (jlsub a0 (jland (jlushr a0 1) 6148914691236517205)) 2) 3689348814741910323)) (jlushr (jladd (jland (jlsub a0 (jland (jlushr a0 1) 6148914691236517205)) 3689348814741910323) (jland (jlushr (jlsub a0 (jland (jlushr a0 1) 6148914691236517205)) 2) 3689348814741910323)) 4)) 1085102592571150095) (jlushr (jland (jladd (jladd (jland (jlsub a0 (jland (jlushr a0 1) 6148914691236517205)) 3689348814741910323) (jland (jlushr (jlsub a0 (jland (jlushr a0 1) 6148914691236517205)) 2) 3689348814741910323)) (jlushr (jladd (jland (jlsub a0 (jland (jlushr a0 1) 6148914691236517205)) 3689348814741910323) (jland (jlushr (jlsub a0 (jland (jlushr a0 1) 6148914691236517205)) 2) 3689348814741910323)) 4)) 1085102592571150095) 8)) (jlushr (jladd (jland (jladd (jladd (jland (jlsub a0 (jland (jlushr a0 1) 6148914691236517205)) 3689348814741910323) (jland (jlushr (jlsub a0 (jland (jlushr a0 1) 6148914691236517205)) 2) 3689348814741910323)) (jlushr (jladd (jland (jlsub a0 (jland (jlushr a0 1) 6148914691236517205)) 3689348814741910323) (jland (jlushr (jlsub a0 (jland (jlushr a0 1) 6148914691236517205)) 2) 3689348814741910323)) 4)) 1085102592571150095) (jlushr (jland (jladd (jladd (jland (jlsub a0 (jland (jlushr a0 1) 6148914691236517205)) 3689348814741910323) (jland (jlushr (jlsub a0 (jland (jlushr a0 1) 6148914691236517205)) 2) 3689348814741910323)) (jlushr (jladd (jland (jlsub a0 (jland (jlushr a0 1) 6148914691236517205)) 3689348814741910323) (jland (jlushr (jlsub a0 (jland (jlushr a0 1) 6148914691236517205)) 2) 3689348814741910323)) 4)) 1085102592571150095) 8)) 16)) 32)))]) (st1 := [(0, jand (jl2i (jladd (jladd (jladd (jland (jladd (jladd (jland (jlsub a0 (jland (jlushr a0 1) 6148914691236517205)) 3689348814741910323) (jland (jlushr (jlsub a0 (jland (jlushr a0 1) 6148914691236517205)) 2) 3689348814741910323)) (jlushr (jladd (jland (jlsub a0 (jland (jlushr a0 1) 6148914691236517205)) 3689348814741910323) (jland (jlushr (jlsub a0 (jland (jlushr a0 1) 6148914691236517205)) 2) 3689348814741910323)) 4)) 1085102592571150095) (jlushr (jland (jladd (jladd (jland (jlsub a0 (jland (jlushr a0 1) 6148914691236517205)) 3689348814741910323) (jland (jlushr (jlsub a0 (jland (jlushr a0 1) 6148914691236517205)) 2) 3689348814741910323)) (jlushr (jladd (jland (jlsub a0 (jland (jlushr a0 1) 6148914691236517205)) 3689348814741910323) (jland (jlushr (jlsub a0 (jland (jlushr a0 1) 6148914691236517205)) 2) 3689348814741910323)) 4)) 1085102592571150095) 8)) (jlushr (jladd (jland (jladd (jladd (jland (jlsub a0 (jland (jlushr a0 1) 6148914691236517205)) 3689348814741910323) (jland (jlushr (jlsub a0 (jland (jlushr a0 1) 6148914691236517205)) 2) 3689348814741910323)) (jlushr (jladd (jland (jlsub a0 (jland (jlushr a0 1) 6148914691236517205)) 3689348814741910323) (jland (jlushr (jlsub a0 (jland (jlushr a0 1) 6148914691236517205)) 2) 3689348814741910323)) 4)) 1085102592571150095) (jlushr (jland (jladd (jladd (jland (jlsub a0 (jland (jlushr a0 1) 6148914691236517205)) 3689348814741910323) (jland (jlushr (jlsub a0 (jland (jlushr a0 1) 6148914691236517205)) 2) 3689348814741910323)) (jlushr (jladd (jland (jlsub a0 (jland (jlushr a0 1) 6148914691236517205)) 3689348814741910323) (jland (jlushr (jlsub a0 (jland (jlushr a0 1) 6148914691236517205)) 2) 3689348814741910323)) 4)) 1085102592571150095) 8)) 16)) (jlushr (jladd (jladd (jland (jladd (jladd (jland (jlsub a0 (jland (jlushr a0 1) 6148914691236517205)) 3689348814741910323) (jland (jlushr (jlsub a0 (jland (jlushr a0 1) 6148914691236517205)) 2) 3689348814741910323)) (jlushr (jladd (jland (jlsub a0 (jland (jlushr a0 1) 6148914691236517205)) 3689348814741910323) (jland (jlushr (jlsub a0 (jland (jlushr a0 1) 6148914691236517205)) 2) 3689348814741910323)) 4)) 1085102592571150095) (jlushr (jland (jladd (jladd (jland (jlsub a0 (jland (jlushr a0 1) 6148914691236517205)) 3689348814741910323) (jland (jlushr (jlsub a0 (jland (jlushr a0 1) 6148914691236517205)) 2) 3689348814741910323)) (jlushr (jladd (jland (jlsub a0 (jland (jlushr a0 1) 6148914691236517205)) 3689348814741910323) (jland (jlushr (jlsub a0 (jland (jlushr a0 1) 6148914691236517205)) 2) 3689348814741910323)) 4)) 1085102592571150095) 8)) (jlushr (jladd (jland (jladd (jladd (jland (jlsub a0 (jland (jlushr a0 1) 6148914691236517205)) 3689348814741910323) (jland (jlushr (jlsub a0 (jland (jlushr a0 1) 6148914691236517205)) 2) 3689348814741910323)) (jlushr (jladd (jland (jlsub a0 (jland (jlushr a0 1) 6148914691236517205)) 3689348814741910323) (jland (jlushr (jlsub a0 (jland (jlushr a0 1) 6148914691236517205)) 2) 3689348814741910323)) 4)) 1085102592571150095) (jlushr (jland (jladd (jladd (jland (jlsub a0 (jland (jlushr a0 1) 6148914691236517205)) 3689348814741910323) (jland (jlushr (jlsub a0 (jland (jlushr a0 1) 6148914691236517205)) 2) 3689348814741910323)) (jlushr (jladd (jland (jlsub a0 (jland (jlushr a0 1) 6148914691236517205)) 3689348814741910323) (jland (jlushr (jlsub a0 (jland (jlushr a0 1) 6148914691236517205)) 2) 3689348814741910323)) 4)) 1085102592571150095) 8)) 16)) 32))) 127)]) (h1 := h) rfl ?_
  cases hv
  exact jT.iret (st_Jl_bitCount) rfl trivial
def f_Ji_numberOfTrailingZeros_j62 (h : jH) (l5 : Int) (l6 : Int) : Option (Int) := some (if l5 ≤ 4 then jadd l6 (jushr l5 1) else jadd (jadd l6 2) (jushr (jushr l5 2) 1))
def f_Ji_numberOfTrailingZeros_j49 (h : jH) (l3 : Int) (l4 : Int) : Option (Int) := if l3 ≤ 16 then f_Ji_numberOfTrailingZeros_j62 h l3 l4 else f_Ji_numberOfTrailingZeros_j62 h (jushr l3 4) (jadd l4 4)
def f_Ji_numberOfTrailingZeros_j34 (h : jH) (l1 : Int) (l2 : Int) : Option (Int) := if l1 ≤ 256 then f_Ji_numberOfTrailingZeros_j49 h l1 l2 else f_Ji_numberOfTrailingZeros_j49 h (jushr l1 8) (jadd l2 8)
def f_Ji_numberOfTrailingZeros (h : jH) (a0 : Int) : Option (Int) := if 0 < jand (jxor a0 (-1)) (jsub a0 1) then if jand (jxor a0 (-1)) (jsub a0 1) ≤ 65536 then f_Ji_numberOfTrailingZeros_j34 h (jand (jxor a0 (-1)) (jsub a0 1)) 1 else f_Ji_numberOfTrailingZeros_j34 h (jushr (jand (jxor a0 (-1)) (jsub a0 1)) 16) (jadd 1 16) else some (jand (jand (jxor a0 (-1)) (jsub a0 1)) 32)
set_option maxRecDepth 100000 in
set_option maxHeartbeats 4000000 in
theorem f_Ji_numberOfTrailingZeros_j62_ok (E : jE) {h : jH} {l5 : Int} {l6 : Int} {res : Int} (hv : f_Ji_numberOfTrailingZeros_j62 h l5 l6 = some res) : jG E M_Ji_numberOfTrailingZeros 62 [(0, (0, l5)), (1, (0, l6))] [] h (some (0, res)) h := by
  unfold f_Ji_numberOfTrailingZeros_j62 at hv
  refine jG.blk (st_Ji_numberOfTrailingZeros) 2 (pc1 := 64) (L1 := [(0, (0, l5)), (1, (0, l6))]) (st1 := [(0, 4), (0, l5)]) (h1 := h) rfl ?_
  refine jT.if2 (st_Ji_numberOfTrailingZeros) rfl (tgt := 74) (by decide) (fun hc => ?_) (fun hc => ?_)
  · have hc : l5 ≤ 4 := hc
    try rw [if_pos hc] at hv
    refine jG.blk (st_Ji_numberOfTrailingZeros) 5 (pc1 := 79) (L1 := [(0, (0, l5)), (1, (0, l6))]) (st1 := [(0, jadd l6 (jushr l5 1))]) (h1 := h) rfl ?_
    cases hv
    exact jT.iret (st_Ji_numberOfTrailingZeros) rfl trivial
  · have hc : ¬ (l5 ≤ 4) := hc
    try rw [if_neg hc] at hv
    refine jG.blk (st_Ji_numberOfTrailingZeros) 10 (pc1 := 79) (L1 := [(0, (0, jushr l5 2)), (1, (0, jadd l6 2))]) (st1 := [(0, jadd (jadd l6 2) (jushr (jushr l5 2) 1))]) (h1 := h) rfl ?_
    cases hv
    exact jT.iret (st_Ji_numberOfTrailingZeros) rfl trivial
set_option maxRecDepth 100000 in
set_option maxHeartbeats 4000000 in
theorem f_Ji_numberOfTrailingZeros_j49_ok (E : jE) {h : jH} {l3 : Int} {l4 : Int} {res : Int} (hv : f_Ji_numberOfTrailingZeros_j49 h l3 l4 = some res) : jG E M_Ji_numberOfTrailingZeros 49 [(0, (0, l3)), (1, (0, l4))] [] h (some (0, res)) h := by
  unfold f_Ji_numberOfTrailingZeros_j49 at hv
  refine jG.blk (st_Ji_numberOfTrailingZeros) 2 (pc1 := 52) (L1 := [(0, (0, l3)), (1, (0, l4))]) (st1 := [(0, 16), (0, l3)]) (h1 := h) rfl ?_
  refine jT.if2 (st_Ji_numberOfTrailingZeros) rfl (tgt := 62) (by decide) (fun hc => ?_) (fun hc => ?_)
  · have hc : l3 ≤ 16 := hc
    try rw [if_pos hc] at hv
    exact f_Ji_numberOfTrailingZeros_j62_ok E hv
  · have hc : ¬ (l3 ≤ 16) := hc
    try rw [if_neg hc] at hv
    refine jG.blk (st_Ji_numberOfTrailingZeros) 5 (pc1 := 62) (L1 := [(0, (0, jushr l3 4)), (1, (0, jadd l4 4))]) (st1 := []) (h1 := h) rfl ?_
    exact f_Ji_numberOfTrailingZeros_j62_ok E hv
set_option maxRecDepth 100000 in
set_option maxHeartbeats 4000000 in
theorem f_Ji_numberOfTrailingZeros_j34_ok (E : jE) {h : jH} {l1 : Int} {l2 : Int} {res : Int} (hv : f_Ji_numberOfTrailingZeros_j34 h l1 l2 = some res) : jG E M_Ji_numberOfTrailingZeros 34 [(0, (0, l1)), (1, (0, l2))] [] h (some (0, res)) h := by
  unfold f_Ji_numberOfTrailingZeros_j34 at hv
  refine jG.blk (st_Ji_numberOfTrailingZeros) 2 (pc1 := 38) (L1 := [(0, (0, l1)), (1, (0, l2))]) (st1 := [(0, 256), (0, l1)]) (h1 := h) rfl ?_
  refine jT.if2 (st_Ji_numberOfTrailingZeros) rfl (tgt := 49) (by decide) (fun hc => ?_) (fun hc => ?_)
  · have hc : l1 ≤ 256 := hc
    try rw [if_pos hc] at hv
    exact f_Ji_numberOfTrailingZeros_j49_ok E hv
  · have hc : ¬ (l1 ≤ 256) := hc
    try rw [if_neg hc] at hv
    refine jG.blk (st_Ji_numberOfTrailingZeros) 5 (pc1 := 49) (L1 := [(0, (0, jushr l1 8)), (1, (0, jadd l2 8))]) (st1 := []) (h1 := h) rfl ?_
    exact f_Ji_numberOfTrailingZeros_j49_ok E hv
set_option maxRecDepth 100000 in
set_option maxHeartbeats 4000000 in
theorem C_Ji_numberOfTrailingZeros {E : jE} {h : jH} {a0 : Int} {res : Int} (hv : f_Ji_numberOfTrailingZeros h a0 = some res) : jC E M_Ji_numberOfTrailingZeros [(0, a0)] h (some (0, res)) h := by
  refine jC.of ok_Ji_numberOfTrailingZeros.1 (by rw [jlg]; exact Nat.le_of_ble_eq_true rfl) ?_
  show jG E _ 0 [(0, (0, a0))] [] h _ _
  unfold f_Ji_numberOfTrailingZeros at hv
  refine jG.blk (st_Ji_numberOfTrailingZeros) 9 (pc1 := 9) (L1 := [(0, (0, jand (jxor a0 (-1)) (jsub a0 1)))]) (st1 := [(0, jand (jxor a0 (-1)) (jsub a0 1))]) (h1 := h) rfl ?_
  refine jT.if1 (st_Ji_numberOfTrailingZeros) rfl (tgt := 17) (by decide) (fun hc => ?_) (fun hc => ?_)
  · have hc : 0 < jand (jxor a0 (-1)) (jsub a0 1) := hc
    try rw [if_pos hc] at hv
    refine jG.blk (st_Ji_numberOfTrailingZeros) 4 (pc1 := 23) (L1 := [(1, (0, 1)), (0, (0, jand (jxor a0 (-1)) (jsub a0 1)))]) (st1 := [(0, 65536), (0, jand (jxor a0 (-1)) (jsub a0 1))]) (h1 := h) rfl ?_
    refine jT.if2 (st_Ji_numberOfTrailingZeros) rfl (tgt := 34) (by decide) (fun hc => ?_) (fun hc => ?_)
    · have hc : jand (jxor a0 (-1)) (jsub a0 1) ≤ 65536 := hc
      try rw [if_pos hc] at hv
      refine jG.subp [1, 0] (L1 := [(0, (0, jand (jxor a0 (-1)) (jsub a0 1))), (1, (0, 1))]) rfl ?_
      exact f_Ji_numberOfTrailingZeros_j34_ok E hv
    · have hc : ¬ (jand (jxor a0 (-1)) (jsub a0 1) ≤ 65536) := hc
      try rw [if_neg hc] at hv
      refine jG.blk (st_Ji_numberOfTrailingZeros) 5 (pc1 := 34) (L1 := [(0, (0, jushr (jand (jxor a0 (-1)) (jsub a0 1)) 16)), (1, (0, jadd 1 16))]) (st1 := []) (h1 := h) rfl ?_
      exact f_Ji_numberOfTrailingZeros_j34_ok E hv
  · have hc : ¬ (0 < jand (jxor a0 (-1)) (jsub a0 1)) := hc
    try rw [if_neg hc] at hv
    refine jG.blk (st_Ji_numberOfTrailingZeros) 3 (pc1 := 16) (L1 := [(0, (0, jand (jxor a0 (-1)) (jsub a0 1)))]) (st1 := [(0, jand (jand (jxor a0 (-1)) (jsub a0 1)) 32)]) (h1 := h) rfl ?_
    cases hv
    exact jT.iret (st_Ji_numberOfTrailingZeros) rfl trivial
def f_Jl_numberOfTrailingZeros (h : jH) (a0 : Int) : Option (Int) := if jl2i a0 = 0 then (f_Ji_numberOfTrailingZeros h (jl2i (jlushr a0 32))).bind fun v2 => some (jadd 32 v2) else (f_Ji_numberOfTrailingZeros h (jl2i a0)).bind fun v1 => some v1
set_option maxRecDepth 100000 in
set_option maxHeartbeats 4000000 in
theorem C_Jl_numberOfTrailingZeros {E : jE} {h : jH} {a0 : Int} {res : Int} (hv : f_Jl_numberOfTrailingZeros h a0 = some res) : jC E M_Jl_numberOfTrailingZeros [(1, a0)] h (some (0, res)) h := by
  refine jC.of ok_Jl_numberOfTrailingZeros.1 (by rw [jlg]; exact Nat.le_of_ble_eq_true rfl) ?_
  show jG E _ 0 [(0, (1, a0))] [] h _ _
  unfold f_Jl_numberOfTrailingZeros at hv
  refine jG.blk (st_Jl_numberOfTrailingZeros) 4 (pc1 := 4) (L1 := [(2, (0, jl2i a0)), (0, (1, a0))]) (st1 := [(0, jl2i a0)]) (h1 := h) rfl ?_
  refine jT.if1 (st_Jl_numberOfTrailingZeros) rfl (tgt := 21) (by decide) (fun hc => ?_) (fun hc => ?_)
  · have hc : ¬ (jl2i a0 = 0) := hc
    try rw [if_neg hc] at hv
    refine jG.blk (st_Jl_numberOfTrailingZeros) 1 (pc1 := 22) (L1 := [(2, (0, jl2i a0)), (0, (1, a0))]) (st1 := [(0, jl2i a0)]) (h1 := h) rfl ?_
    obtain ⟨v1, hq, hv⟩ := Option.bind_eq_some_iff.mp hv
    refine jT.cS (M1 := M_Ji_numberOfTrailingZeros) [(0, jl2i a0)] [] (st_Jl_numberOfTrailingZeros) rfl rfl ok_Ji_numberOfTrailingZeros rfl (Nat.le_of_ble_eq_true rfl) (Nat.le_of_ble_eq_true rfl) rfl (Nat.le_of_ble_eq_true rfl) (C_Ji_numberOfTrailingZeros hq) ?_
    show jG E _ 25 [(2, (0, jl2i a0)), (0, (1, a0))] [(0, v1)] h _ _
    cases hv
    exact jT.iret (st_Jl_numberOfTrailingZeros) rfl trivial
  · have hc : jl2i a0 = 0 := Decidable.not_not.mp hc
    try rw [if_pos hc] at hv
    refine jG.blk (st_Jl_numberOfTrailingZeros) 5 (pc1 := 14) (L1 := [(2, (0, jl2i a0)), (0, (1, a0))]) (st1 := [(0, jl2i (jlushr a0 32)), (0, 32)]) (h1 := h) rfl ?_
    obtain ⟨v2, hq, hv⟩ := Option.bind_eq_some_iff.mp hv
    refine jT.cS (M1 := M_Ji_numberOfTrailingZeros) [(0, jl2i (jlushr a0 32))] [(0, 32)] (st_Jl_numberOfTrailingZeros) rfl rfl ok_Ji_numberOfTrailingZeros rfl (Nat.le_of_ble_eq_true rfl) (Nat.le_of_ble_eq_true rfl) rfl (Nat.le_of_ble_eq_true rfl) (C_Ji_numberOfTrailingZeros hq) ?_
    show jG E _ 17 [(2, (0, jl2i a0)), (0, (1, a0))] [(0, v2), (0, 32)] h _ _
    refine jG.blk (st_Jl_numberOfTrailingZeros) 1 (pc1 := 18) (L1 := [(2, (0, jl2i a0)), (0, (1, a0))]) (st1 := [(0, jadd 32 v2)]) (h1 := h) rfl ?_
    refine jT.goto (st_Jl_numberOfTrailingZeros) rfl (tgt := 25) (by decide) ?_
    cases hv
    exact jT.iret (st_Jl_numberOfTrailingZeros) rfl trivial
def f_Js_isLatin1 (e : Nat) (h : jH) : Option (Int) := some (if (1 : Int) = 0 then 0 else if (0 : Int) = 0 then 1 else 0)
set_option maxRecDepth 100000 in
set_option maxHeartbeats 4000000 in
theorem C_Js_isLatin1 {E : jE} {e : Nat} (hr : e = 7 ∨ e = 8) {h : jH} {res : Int} (hv : f_Js_isLatin1 e h = some res) : jC E M_Js_isLatin1 [(3, ((e : Nat) : Int))] h (some (0, res)) h := by
  rcases hr with rfl | rfl
  · refine jC.of ok_Js_isLatin1.1 (by rw [jlg]; exact Nat.le_of_ble_eq_true rfl) ?_
    show jG E _ 0 [(0, (3, ((7 : Nat) : Int)))] [] h _ _
    unfold f_Js_isLatin1 at hv
    refine jG.blk (st_Js_isLatin1) 1 (pc1 := 3) (L1 := [(0, (3, ((7 : Nat) : Int)))]) (st1 := [(0, 1)]) (h1 := h) rfl ?_
    refine jT.if1 (st_Js_isLatin1) rfl (tgt := 17) (by decide) (fun hc => ?_) (fun hc => ?_)
    · have hc : (1 : Int) = 0 := hc
      try rw [if_pos hc] at hv
      refine jG.blk (st_Js_isLatin1) 1 (pc1 := 18) (L1 := [(0, (3, ((7 : Nat) : Int)))]) (st1 := [(0, 0)]) (h1 := h) rfl ?_
      cases hv
      exact jT.iret (st_Js_isLatin1) rfl (Or.inl rfl)
    · have hc : ¬ ((1 : Int) = 0) := hc
      try rw [if_neg hc] at hv
      refine jG.blk (st_Js_isLatin1) 1 (pc1 := 7) (L1 := [(0, (3, ((7 : Nat) : Int)))]) (st1 := [(3, ((7 : Nat) : Int))]) (h1 := h) rfl ?_
      refine jT.xcod (q := (7, 7 - 2)) (st_Js_isLatin1) rfl (by decide) ?_
      refine jT.if1 (st_Js_isLatin1) rfl (tgt := 17) (by decide) (fun hc => ?_) (fun hc => ?_)
      · have hc : ¬ ((0 : Int) = 0) := hc
        try rw [if_neg hc] at hv
        refine jG.blk (st_Js_isLatin1) 1 (pc1 := 18) (L1 := [(0, (3, ((7 : Nat) : Int)))]) (st1 := [(0, 0)]) (h1 := h) rfl ?_
        cases hv
        exact jT.iret (st_Js_isLatin1) rfl (Or.inl rfl)
      · have hc : (0 : Int) = 0 := Decidable.not_not.mp hc
        try rw [if_pos hc] at hv
        refine jG.blk (st_Js_isLatin1) 1 (pc1 := 14) (L1 := [(0, (3, ((7 : Nat) : Int)))]) (st1 := [(0, 1)]) (h1 := h) rfl ?_
        refine jT.goto (st_Js_isLatin1) rfl (tgt := 18) (by decide) ?_
        cases hv
        exact jT.iret (st_Js_isLatin1) rfl (Or.inr rfl)
  · refine jC.of ok_Js_isLatin1.1 (by rw [jlg]; exact Nat.le_of_ble_eq_true rfl) ?_
    show jG E _ 0 [(0, (3, ((8 : Nat) : Int)))] [] h _ _
    unfold f_Js_isLatin1 at hv
    refine jG.blk (st_Js_isLatin1) 1 (pc1 := 3) (L1 := [(0, (3, ((8 : Nat) : Int)))]) (st1 := [(0, 1)]) (h1 := h) rfl ?_
    refine jT.if1 (st_Js_isLatin1) rfl (tgt := 17) (by decide) (fun hc => ?_) (fun hc => ?_)
    · have hc : (1 : Int) = 0 := hc
      try rw [if_pos hc] at hv
      refine jG.blk (st_Js_isLatin1) 1 (pc1 := 18) (L1 := [(0, (3, ((8 : Nat) : Int)))]) (st1 := [(0, 0)]) (h1 := h) rfl ?_
      cases hv
      exact jT.iret (st_Js_isLatin1) rfl (Or.inl rfl)
    · have hc : ¬ ((1 : Int) = 0) := hc
      try rw [if_neg hc] at hv
      refine jG.blk (st_Js_isLatin1) 1 (pc1 := 7) (L1 := [(0, (3, ((8 : Nat) : Int)))]) (st1 := [(3, ((8 : Nat) : Int))]) (h1 := h) rfl ?_
      refine jT.xcod (q := (8, 8 - 2)) (st_Js_isLatin1) rfl (by decide) ?_
      refine jT.if1 (st_Js_isLatin1) rfl (tgt := 17) (by decide) (fun hc => ?_) (fun hc => ?_)
      · have hc : ¬ ((0 : Int) = 0) := hc
        try rw [if_neg hc] at hv
        refine jG.blk (st_Js_isLatin1) 1 (pc1 := 18) (L1 := [(0, (3, ((8 : Nat) : Int)))]) (st1 := [(0, 0)]) (h1 := h) rfl ?_
        cases hv
        exact jT.iret (st_Js_isLatin1) rfl (Or.inl rfl)
      · have hc : (0 : Int) = 0 := Decidable.not_not.mp hc
        try rw [if_pos hc] at hv
        refine jG.blk (st_Js_isLatin1) 1 (pc1 := 14) (L1 := [(0, (3, ((8 : Nat) : Int)))]) (st1 := [(0, 1)]) (h1 := h) rfl ?_
        refine jT.goto (st_Js_isLatin1) rfl (tgt := 18) (by decide) ?_
        cases hv
        exact jT.iret (st_Js_isLatin1) rfl (Or.inr rfl)
def f_Jp_checkIndex_j9 (h : jH) (l1 : Int) (l2 : Int) : Option (Int) := none
def f_Jp_checkIndex (h : jH) (a0 : Int) (a1 : Int) : Option (Int) := if a0 < 0 then f_Jp_checkIndex_j9 h a0 a1 else if a0 < a1 then some a0 else f_Jp_checkIndex_j9 h a0 a1
set_option maxRecDepth 100000 in
set_option maxHeartbeats 4000000 in
theorem f_Jp_checkIndex_j9_ok (E : jE) {h : jH} {l1 : Int} {l2 : Int} {res : Int} (hv : f_Jp_checkIndex_j9 h l1 l2 = some res) : jG E M_Jp_checkIndex 9 [(0, (0, l1)), (1, (0, l2)), (2, (4, 0))] [] h (some (0, res)) h := by
  unfold f_Jp_checkIndex_j9 at hv
  cases hv
set_option maxRecDepth 100000 in
set_option maxHeartbeats 4000000 in
theorem C_Jp_checkIndex {E : jE} {h : jH} {a0 : Int} {a1 : Int} {res : Int} (hv : f_Jp_checkIndex h a0 a1 = some res) : jC E M_Jp_checkIndex [(0, a0), (0, a1), (4, 0)] h (some (0, res)) h := by
  refine jC.of ok_Jp_checkIndex.1 (by rw [jlg]; exact Nat.le_of_ble_eq_true rfl) ?_
  show jG E _ 0 [(0, (0, a0)), (1, (0, a1)), (2, (4, 0))] [] h _ _
  unfold f_Jp_checkIndex at hv
  refine jG.blk (st_Jp_checkIndex) 1 (pc1 := 1) (L1 := [(0, (0, a0)), (1, (0, a1)), (2, (4, 0))]) (st1 := [(0, a0)]) (h1 := h) rfl ?_
  refine jT.if1 (st_Jp_checkIndex) rfl (tgt := 9) (by decide) (fun hc => ?_) (fun hc => ?_)
  · have hc : a0 < 0 := hc
    try rw [if_pos hc] at hv
    exact f_Jp_checkIndex_j9_ok E hv
  · have hc : ¬ (a0 < 0) := hc
    try rw [if_neg hc] at hv
    refine jG.blk (st_Jp_checkIndex) 2 (pc1 := 6) (L1 := [(0, (0, a0)), (1, (0, a1)), (2, (4, 0))]) (st1 := [(0, a1), (0, a0)]) (h1 := h) rfl ?_
    refine jT.if2 (st_Jp_checkIndex) rfl (tgt := 16) (by decide) (fun hc => ?_) (fun hc => ?_)
    · have hc : a0 < a1 := hc
      try rw [if_pos hc] at hv
      refine jG.blk (st_Jp_checkIndex) 1 (pc1 := 17) (L1 := [(0, (0, a0)), (1, (0, a1)), (2, (4, 0))]) (st1 := [(0, a0)]) (h1 := h) rfl ?_
      cases hv
      exact jT.iret (st_Jp_checkIndex) rfl trivial
    · have hc : ¬ (a0 < a1) := hc
      try rw [if_neg hc] at hv
      exact f_Jp_checkIndex_j9_ok E hv
def f_Js_checkIndex (h : jH) (a0 : Int) (a1 : Int) : Option (Unit) := (f_Jp_checkIndex h a0 a1).bind fun v1 => some ()
set_option maxRecDepth 100000 in
set_option maxHeartbeats 4000000 in
theorem C_Js_checkIndex {E : jE} {h : jH} {a0 : Int} {a1 : Int} {res : Unit} (hv : f_Js_checkIndex h a0 a1 = some res) : jC E M_Js_checkIndex [(0, a0), (0, a1)] h none h := by
  refine jC.of ok_Js_checkIndex.1 (by rw [jlg]; exact Nat.le_of_ble_eq_true rfl) ?_
  show jG E _ 0 [(0, (0, a0)), (1, (0, a1))] [] h _ _
  unfold f_Js_checkIndex at hv
  refine jG.blk (st_Js_checkIndex) 3 (pc1 := 5) (L1 := [(0, (0, a0)), (1, (0, a1))]) (st1 := [(4, 0), (0, a1), (0, a0)]) (h1 := h) rfl ?_
  obtain ⟨v1, hq, hv⟩ := Option.bind_eq_some_iff.mp hv
  refine jT.cS (M1 := M_Jp_checkIndex) [(0, a0), (0, a1), (4, 0)] [] (st_Js_checkIndex) rfl rfl ok_Jp_checkIndex rfl (Nat.le_of_ble_eq_true rfl) (Nat.le_of_ble_eq_true rfl) rfl (Nat.le_of_ble_eq_true rfl) (C_Jp_checkIndex hq) ?_
  show jG E _ 8 [(0, (0, a0)), (1, (0, a1))] [(0, v1)] h _ _
  refine jG.blk (st_Js_checkIndex) 1 (pc1 := 9) (L1 := [(0, (0, a0)), (1, (0, a1))]) (st1 := []) (h1 := h) rfl ?_
  cases hv
  exact jT.vret (st_Js_checkIndex) rfl trivial
def f_Jt_charAt (b : Nat) (h : jH) (a1 : Int) : Option (Int) := (f_Js_checkIndex h a1 (((jxc.getD b []).length : Nat) : Int)).bind fun _ => jgd (0 ≤ a1 ∧ a1 < (((jxc.getD b []).length : Nat) : Int)) (jgd (0 ≤ ji2c (jand ((jxc.getD b []).getD a1.toNat 0) 255) ∧ ji2c (jand ((jxc.getD b []).getD a1.toNat 0) 255) < 65536) (some (ji2c (jand ((jxc.getD b []).getD a1.toNat 0) 255))))
set_option maxRecDepth 100000 in
set_option maxHeartbeats 4000000 in
theorem C_Jt_charAt {E : jE} {b : Nat} (hr : b = 5 ∨ b = 6) {h : jH} {a1 : Int} {res : Int} (hv : f_Jt_charAt b h a1 = some res) : jC E M_Jt_charAt [(3, ((b : Nat) : Int)), (0, a1)] h (some (0, res)) h := by
  rcases hr with rfl | rfl
  · refine jC.of ok_Jt_charAt.1 (by rw [jlg]; exact Nat.le_of_ble_eq_true rfl) ?_
    show jG E _ 0 [(0, (3, ((5 : Nat) : Int))), (1, (0, a1))] [] h _ _
    unfold f_Jt_charAt at hv
    refine jG.blk (st_Jt_charAt) 2 (pc1 := 2) (L1 := [(0, (3, ((5 : Nat) : Int))), (1, (0, a1))]) (st1 := [(3, ((5 : Nat) : Int)), (0, a1)]) (h1 := h) rfl ?_
    refine jT.xlen (x := 5) (st_Jt_charAt) rfl (by decide) (jxl_small (by decide) (by decide)) ?_
    obtain ⟨_, hq, hv⟩ := Option.bind_eq_some_iff.mp hv
    refine jT.cS (M1 := M_Js_checkIndex) [(0, a1), (0, (((jxc.getD 5 []).length : Nat) : Int))] [] (st_Jt_charAt) rfl rfl ok_Js_checkIndex rfl (Nat.le_of_ble_eq_true rfl) (Nat.le_of_ble_eq_true rfl) rfl (Nat.le_of_ble_eq_true rfl) (C_Js_checkIndex hq) ?_
    show jG E _ 6 [(0, (3, ((5 : Nat) : Int))), (1, (0, a1))] [] h _ _
    refine jG.blk (st_Jt_charAt) 2 (pc1 := 8) (L1 := [(0, (3, ((5 : Nat) : Int))), (1, (0, a1))]) (st1 := [(0, a1), (3, ((5 : Nat) : Int))]) (h1 := h) rfl ?_
    obtain ⟨hg, hv⟩ := jgd_some hv
    refine jT.xbld (x := 5) (st_Jt_charAt) rfl (by decide) rfl (jxl_small (by decide) (by decide)) hg.1 hg.2 (jxc_ok _ _) ?_
    refine jG.blk (st_Jt_charAt) 3 (pc1 := 14) (L1 := [(0, (3, ((5 : Nat) : Int))), (1, (0, a1))]) (st1 := [(0, ji2c (jand ((jxc.getD 5 []).getD a1.toNat 0) 255))]) (h1 := h) rfl ?_
    obtain ⟨hg, hv⟩ := jgd_some hv
    cases hv
    exact jT.iret (st_Jt_charAt) rfl hg
  · refine jC.of ok_Jt_charAt.1 (by rw [jlg]; exact Nat.le_of_ble_eq_true rfl) ?_
    show jG E _ 0 [(0, (3, ((6 : Nat) : Int))), (1, (0, a1))] [] h _ _
    unfold f_Jt_charAt at hv
    refine jG.blk (st_Jt_charAt) 2 (pc1 := 2) (L1 := [(0, (3, ((6 : Nat) : Int))), (1, (0, a1))]) (st1 := [(3, ((6 : Nat) : Int)), (0, a1)]) (h1 := h) rfl ?_
    refine jT.xlen (x := 6) (st_Jt_charAt) rfl (by decide) (jxl_small (by decide) (by decide)) ?_
    obtain ⟨_, hq, hv⟩ := Option.bind_eq_some_iff.mp hv
    refine jT.cS (M1 := M_Js_checkIndex) [(0, a1), (0, (((jxc.getD 6 []).length : Nat) : Int))] [] (st_Jt_charAt) rfl rfl ok_Js_checkIndex rfl (Nat.le_of_ble_eq_true rfl) (Nat.le_of_ble_eq_true rfl) rfl (Nat.le_of_ble_eq_true rfl) (C_Js_checkIndex hq) ?_
    show jG E _ 6 [(0, (3, ((6 : Nat) : Int))), (1, (0, a1))] [] h _ _
    refine jG.blk (st_Jt_charAt) 2 (pc1 := 8) (L1 := [(0, (3, ((6 : Nat) : Int))), (1, (0, a1))]) (st1 := [(0, a1), (3, ((6 : Nat) : Int))]) (h1 := h) rfl ?_
    obtain ⟨hg, hv⟩ := jgd_some hv
    refine jT.xbld (x := 6) (st_Jt_charAt) rfl (by decide) rfl (jxl_small (by decide) (by decide)) hg.1 hg.2 (jxc_ok _ _) ?_
    refine jG.blk (st_Jt_charAt) 3 (pc1 := 14) (L1 := [(0, (3, ((6 : Nat) : Int))), (1, (0, a1))]) (st1 := [(0, ji2c (jand ((jxc.getD 6 []).getD a1.toNat 0) 255))]) (h1 := h) rfl ?_
    obtain ⟨hg, hv⟩ := jgd_some hv
    cases hv
    exact jT.iret (st_Jt_charAt) rfl hg
def f_Js_charAt (e : Nat) (h : jH) (a1 : Int) : Option (Int) := (f_Js_isLatin1 e h).bind fun v1 => if v1 = 0 then none else (f_Jt_charAt (e - 2) h a1).bind fun v2 => jgd (0 ≤ v2 ∧ v2 < 65536) (some v2)
set_option maxRecDepth 100000 in
set_option maxHeartbeats 4000000 in
theorem C_Js_charAt {E : jE} {e : Nat} (hr : e = 7 ∨ e = 8) {h : jH} {a1 : Int} {res : Int} (hv : f_Js_charAt e h a1 = some res) : jC E M_Js_charAt [(3, ((e : Nat) : Int)), (0, a1)] h (some (0, res)) h := by
  rcases hr with rfl | rfl
  · refine jC.of ok_Js_charAt.1 (by rw [jlg]; exact Nat.le_of_ble_eq_true rfl) ?_
    show jG E _ 0 [(0, (3, ((7 : Nat) : Int))), (1, (0, a1))] [] h _ _
    unfold f_Js_charAt at hv
    refine jG.blk (st_Js_charAt) 1 (pc1 := 1) (L1 := [(0, (3, ((7 : Nat) : Int))), (1, (0, a1))]) (st1 := [(3, ((7 : Nat) : Int))]) (h1 := h) rfl ?_
    obtain ⟨v1, hq, hv⟩ := Option.bind_eq_some_iff.mp hv
    refine jT.cV (M1 := M_Js_isLatin1) (3, ((7 : Nat) : Int)) [] [] (st_Js_charAt) rfl rfl ok_Js_isLatin1 rfl (Or.inr ⟨rfl, rfl, (7, 7 - 2), by decide, rfl⟩) (Nat.le_of_ble_eq_true rfl) (Nat.le_of_ble_eq_true rfl) rfl (Nat.le_of_ble_eq_true rfl) (C_Js_isLatin1 (by decide) hq) ?_
    show jG E _ 4 [(0, (3, ((7 : Nat) : Int))), (1, (0, a1))] [(0, v1)] h _ _
    refine jT.if1 (st_Js_charAt) rfl (tgt := 16) (by decide) (fun hc => ?_) (fun hc => ?_)
    · have hc : v1 = 0 := hc
      try rw [if_pos hc] at hv
      refine jG.blk (st_Js_charAt) 1 (pc1 := 17) (L1 := [(0, (3, ((7 : Nat) : Int))), (1, (0, a1))]) (st1 := [(3, ((7 : Nat) : Int))]) (h1 := h) rfl ?_
      refine jT.xval (q := (7, 7 - 2)) (st_Js_charAt) rfl (by decide) ?_
      refine jG.blk (st_Js_charAt) 1 (pc1 := 21) (L1 := [(0, (3, ((7 : Nat) : Int))), (1, (0, a1))]) (st1 := [(0, a1), (3, ((7 - 2 : Nat) : Int))]) (h1 := h) rfl ?_
      cases hv
    · have hc : ¬ (v1 = 0) := hc
      try rw [if_neg hc] at hv
      refine jG.blk (st_Js_charAt) 1 (pc1 := 8) (L1 := [(0, (3, ((7 : Nat) : Int))), (1, (0, a1))]) (st1 := [(3, ((7 : Nat) : Int))]) (h1 := h) rfl ?_
      refine jT.xval (q := (7, 7 - 2)) (st_Js_charAt) rfl (by decide) ?_
      refine jG.blk (st_Js_charAt) 1 (pc1 := 12) (L1 := [(0, (3, ((7 : Nat) : Int))), (1, (0, a1))]) (st1 := [(0, a1), (3, ((7 - 2 : Nat) : Int))]) (h1 := h) rfl ?_
      obtain ⟨v2, hq, hv⟩ := Option.bind_eq_some_iff.mp hv
      refine jT.cS (M1 := M_Jt_charAt) [(3, ((7 - 2 : Nat) : Int)), (0, a1)] [] (st_Js_charAt) rfl rfl ok_Jt_charAt rfl (Nat.le_of_ble_eq_true rfl) (Nat.le_of_ble_eq_true rfl) rfl (Nat.le_of_ble_eq_true rfl) (C_Jt_charAt (by decide) hq) ?_
      show jG E _ 15 [(0, (3, ((7 : Nat) : Int))), (1, (0, a1))] [(0, v2)] h _ _
      obtain ⟨hg, hv⟩ := jgd_some hv
      cases hv
      exact jT.iret (st_Js_charAt) rfl hg
  · refine jC.of ok_Js_charAt.1 (by rw [jlg]; exact Nat.le_of_ble_eq_true rfl) ?_
    show jG E _ 0 [(0, (3, ((8 : Nat) : Int))), (1, (0, a1))] [] h _ _
    unfold f_Js_charAt at hv
    refine jG.blk (st_Js_charAt) 1 (pc1 := 1) (L1 := [(0, (3, ((8 : Nat) : Int))), (1, (0, a1))]) (st1 := [(3, ((8 : Nat) : Int))]) (h1 := h) rfl ?_
    obtain ⟨v1, hq, hv⟩ := Option.bind_eq_some_iff.mp hv
    refine jT.cV (M1 := M_Js_isLatin1) (3, ((8 : Nat) : Int)) [] [] (st_Js_charAt) rfl rfl ok_Js_isLatin1 rfl (Or.inr ⟨rfl, rfl, (8, 8 - 2), by decide, rfl⟩) (Nat.le_of_ble_eq_true rfl) (Nat.le_of_ble_eq_true rfl) rfl (Nat.le_of_ble_eq_true rfl) (C_Js_isLatin1 (by decide) hq) ?_
    show jG E _ 4 [(0, (3, ((8 : Nat) : Int))), (1, (0, a1))] [(0, v1)] h _ _
    refine jT.if1 (st_Js_charAt) rfl (tgt := 16) (by decide) (fun hc => ?_) (fun hc => ?_)
    · have hc : v1 = 0 := hc
      try rw [if_pos hc] at hv
      refine jG.blk (st_Js_charAt) 1 (pc1 := 17) (L1 := [(0, (3, ((8 : Nat) : Int))), (1, (0, a1))]) (st1 := [(3, ((8 : Nat) : Int))]) (h1 := h) rfl ?_
      refine jT.xval (q := (8, 8 - 2)) (st_Js_charAt) rfl (by decide) ?_
      refine jG.blk (st_Js_charAt) 1 (pc1 := 21) (L1 := [(0, (3, ((8 : Nat) : Int))), (1, (0, a1))]) (st1 := [(0, a1), (3, ((8 - 2 : Nat) : Int))]) (h1 := h) rfl ?_
      cases hv
    · have hc : ¬ (v1 = 0) := hc
      try rw [if_neg hc] at hv
      refine jG.blk (st_Js_charAt) 1 (pc1 := 8) (L1 := [(0, (3, ((8 : Nat) : Int))), (1, (0, a1))]) (st1 := [(3, ((8 : Nat) : Int))]) (h1 := h) rfl ?_
      refine jT.xval (q := (8, 8 - 2)) (st_Js_charAt) rfl (by decide) ?_
      refine jG.blk (st_Js_charAt) 1 (pc1 := 12) (L1 := [(0, (3, ((8 : Nat) : Int))), (1, (0, a1))]) (st1 := [(0, a1), (3, ((8 - 2 : Nat) : Int))]) (h1 := h) rfl ?_
      obtain ⟨v2, hq, hv⟩ := Option.bind_eq_some_iff.mp hv
      refine jT.cS (M1 := M_Jt_charAt) [(3, ((8 - 2 : Nat) : Int)), (0, a1)] [] (st_Js_charAt) rfl rfl ok_Jt_charAt rfl (Nat.le_of_ble_eq_true rfl) (Nat.le_of_ble_eq_true rfl) rfl (Nat.le_of_ble_eq_true rfl) (C_Jt_charAt (by decide) hq) ?_
      show jG E _ 15 [(0, (3, ((8 : Nat) : Int))), (1, (0, a1))] [(0, v2)] h _ _
      obtain ⟨hg, hv⟩ := jgd_some hv
      cases hv
      exact jT.iret (st_Js_charAt) rfl hg
