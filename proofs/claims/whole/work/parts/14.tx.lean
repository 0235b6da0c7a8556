def f_Tx_add (x : Nat) (h : jH) (a1 : Int) : Option (jH) := if 100 ≤ h x 1 then some h else jgd (0 ≤ h x 1 ∧ h x 1 < 100 ∧ 0 ≤ ji2c a1 ∧ ji2c a1 < 65536) (some (jup (jup h (x + 1) (h x 1).toNat (ji2c a1)) x 1 (jadd ((jup h (x + 1) (h x 1).toNat (ji2c a1)) x 1) 1)))
set_option maxRecDepth 100000 in
set_option maxHeartbeats 4000000 in
theorem C_Tx_add {E : jE} {x : Nat} (hr : x = 18 ∨ x = 22) {h : jH} {a1 : Int} {res : jH} (hv : f_Tx_add x h a1 = some res) : jC E M_Tx_add [(2, ((x : Nat) : Int)), (0, a1)] h none res := by
  rcases hr with rfl | rfl
  · refine jC.of ok_Tx_add.1 (by rw [jlg]; exact Nat.le_of_ble_eq_true rfl) ?_
    show jG E _ 0 [(0, (2, ((18 : Nat) : Int))), (1, (0, a1))] [] h _ _
    unfold f_Tx_add at hv
    refine jG.blk (st_Tx_add) 3 (pc1 := 6) (L1 := [(0, (2, ((18 : Nat) : Int))), (1, (0, a1))]) (st1 := [(0, 100), (0, h 18 1)]) (h1 := h) rfl ?_
    refine jT.if2 (st_Tx_add) rfl (tgt := 30) (by decide) (fun hc => ?_) (fun hc => ?_)
    · have hc : 100 ≤ h 18 1 := hc
      try rw [if_pos hc] at hv
      cases hv
      exact jT.vret (st_Tx_add) rfl trivial
    · have hc : ¬ (100 ≤ h 18 1) := hc
      try rw [if_neg hc] at hv
      refine jG.blk (st_Tx_add) 6 (pc1 := 19) (L1 := [(0, (2, ((18 : Nat) : Int))), (1, (0, a1))]) (st1 := [(0, ji2c a1), (0, h 18 1), (2, ((18 + 1 : Nat) : Int))]) (h1 := h) rfl ?_
      obtain ⟨hg, hv⟩ := jgd_some hv
      refine jT.cast (a := 18 + 1) (st_Tx_add) rfl rfl (by decide) hg.1 hg.2.1 hg.2.2.1 hg.2.2.2 ?_
      refine jG.blk (st_Tx_add) 6 (pc1 := 30) (L1 := [(0, (2, ((18 : Nat) : Int))), (1, (0, a1))]) (st1 := []) (h1 := jup (jup h (18 + 1) (h 18 1).toNat (ji2c a1)) 18 1 (jadd ((jup h (18 + 1) (h 18 1).toNat (ji2c a1)) 18 1) 1)) rfl ?_
      cases hv
      exact jT.vret (st_Tx_add) rfl trivial
  · refine jC.of ok_Tx_add.1 (by rw [jlg]; exact Nat.le_of_ble_eq_true rfl) ?_
    show jG E _ 0 [(0, (2, ((22 : Nat) : Int))), (1, (0, a1))] [] h _ _
    unfold f_Tx_add at hv
    refine jG.blk (st_Tx_add) 3 (pc1 := 6) (L1 := [(0, (2, ((22 : Nat) : Int))), (1, (0, a1))]) (st1 := [(0, 100), (0, h 22 1)]) (h1 := h) rfl ?_
    refine jT.if2 (st_Tx_add) rfl (tgt := 30) (by decide) (fun hc => ?_) (fun hc => ?_)
    · have hc : 100 ≤ h 22 1 := hc
      try rw [if_pos hc] at hv
      cases hv
      exact jT.vret (st_Tx_add) rfl trivial
    · have hc : ¬ (100 ≤ h 22 1) := hc
      try rw [if_neg hc] at hv
      refine jG.blk (st_Tx_add) 6 (pc1 := 19) (L1 := [(0, (2, ((22 : Nat) : Int))), (1, (0, a1))]) (st1 := [(0, ji2c a1), (0, h 22 1), (2, ((22 + 1 : Nat) : Int))]) (h1 := h) rfl ?_
      obtain ⟨hg, hv⟩ := jgd_some hv
      refine jT.cast (a := 22 + 1) (st_Tx_add) rfl rfl (by decide) hg.1 hg.2.1 hg.2.2.1 hg.2.2.2 ?_
      refine jG.blk (st_Tx_add) 6 (pc1 := 30) (L1 := [(0, (2, ((22 : Nat) : Int))), (1, (0, a1))]) (st1 := []) (h1 := jup (jup h (22 + 1) (h 22 1).toNat (ji2c a1)) 22 1 (jadd ((jup h (22 + 1) (h 22 1).toNat (ji2c a1)) 22 1) 1)) rfl ?_
      cases hv
      exact jT.vret (st_Tx_add) rfl trivial
def f_Tx_letterAt (x : Nat) (h : jH) (a1 : Int) : Option (Int) := if a1 < 0 then some (-1) else if a1 < h x 1 then jgd (0 ≤ a1 ∧ a1 < 100) (some (h (x + 1) a1.toNat)) else some (-1)
set_option maxRecDepth 100000 in
set_option maxHeartbeats 4000000 in
theorem C_Tx_letterAt {E : jE} {x : Nat} (hr : x = 18 ∨ x = 22) {h : jH} {a1 : Int} {res : Int} (hv : f_Tx_letterAt x h a1 = some res) : jC E M_Tx_letterAt [(2, ((x : Nat) : Int)), (0, a1)] h (some (0, res)) h := by
  rcases hr with rfl | rfl
  · refine jC.of ok_Tx_letterAt.1 (by rw [jlg]; exact Nat.le_of_ble_eq_true rfl) ?_
    show jG E _ 0 [(0, (2, ((18 : Nat) : Int))), (1, (0, a1))] [] h _ _
    unfold f_Tx_letterAt at hv
    refine jG.blk (st_Tx_letterAt) 1 (pc1 := 1) (L1 := [(0, (2, ((18 : Nat) : Int))), (1, (0, a1))]) (st1 := [(0, a1)]) (h1 := h) rfl ?_
    refine jT.if1 (st_Tx_letterAt) rfl (tgt := 12) (by decide) (fun hc => ?_) (fun hc => ?_)
    · have hc : a1 < 0 := hc
      try rw [if_pos hc] at hv
      refine jG.blk (st_Tx_letterAt) 1 (pc1 := 13) (L1 := [(0, (2, ((18 : Nat) : Int))), (1, (0, a1))]) (st1 := [(0, (-1))]) (h1 := h) rfl ?_
      cases hv
      exact jT.iret (st_Tx_letterAt) rfl trivial
    · have hc : ¬ (a1 < 0) := hc
      try rw [if_neg hc] at hv
      refine jG.blk (st_Tx_letterAt) 3 (pc1 := 9) (L1 := [(0, (2, ((18 : Nat) : Int))), (1, (0, a1))]) (st1 := [(0, h 18 1), (0, a1)]) (h1 := h) rfl ?_
      refine jT.if2 (st_Tx_letterAt) rfl (tgt := 14) (by decide) (fun hc => ?_) (fun hc => ?_)
      · have hc : a1 < h 18 1 := hc
        try rw [if_pos hc] at hv
        refine jG.blk (st_Tx_letterAt) 3 (pc1 := 19) (L1 := [(0, (2, ((18 : Nat) : Int))), (1, (0, a1))]) (st1 := [(0, a1), (2, ((18 + 1 : Nat) : Int))]) (h1 := h) rfl ?_
        obtain ⟨hg, hv⟩ := jgd_some hv
        refine jT.cald (a := 18 + 1) (st_Tx_letterAt) rfl rfl (by decide) hg.1 hg.2 ?_
        cases hv
        exact jT.iret (st_Tx_letterAt) rfl trivial
      · have hc : ¬ (a1 < h 18 1) := hc
        try rw [if_neg hc] at hv
        refine jG.blk (st_Tx_letterAt) 1 (pc1 := 13) (L1 := [(0, (2, ((18 : Nat) : Int))), (1, (0, a1))]) (st1 := [(0, (-1))]) (h1 := h) rfl ?_
        cases hv
        exact jT.iret (st_Tx_letterAt) rfl trivial
  · refine jC.of ok_Tx_letterAt.1 (by rw [jlg]; exact Nat.le_of_ble_eq_true rfl) ?_
    show jG E _ 0 [(0, (2, ((22 : Nat) : Int))), (1, (0, a1))] [] h _ _
    unfold f_Tx_letterAt at hv
    refine jG.blk (st_Tx_letterAt) 1 (pc1 := 1) (L1 := [(0, (2, ((22 : Nat) : Int))), (1, (0, a1))]) (st1 := [(0, a1)]) (h1 := h) rfl ?_
    refine jT.if1 (st_Tx_letterAt) rfl (tgt := 12) (by decide) (fun hc => ?_) (fun hc => ?_)
    · have hc : a1 < 0 := hc
      try rw [if_pos hc] at hv
      refine jG.blk (st_Tx_letterAt) 1 (pc1 := 13) (L1 := [(0, (2, ((22 : Nat) : Int))), (1, (0, a1))]) (st1 := [(0, (-1))]) (h1 := h) rfl ?_
      cases hv
      exact jT.iret (st_Tx_letterAt) rfl trivial
    · have hc : ¬ (a1 < 0) := hc
      try rw [if_neg hc] at hv
      refine jG.blk (st_Tx_letterAt) 3 (pc1 := 9) (L1 := [(0, (2, ((22 : Nat) : Int))), (1, (0, a1))]) (st1 := [(0, h 22 1), (0, a1)]) (h1 := h) rfl ?_
      refine jT.if2 (st_Tx_letterAt) rfl (tgt := 14) (by decide) (fun hc => ?_) (fun hc => ?_)
      · have hc : a1 < h 22 1 := hc
        try rw [if_pos hc] at hv
        refine jG.blk (st_Tx_letterAt) 3 (pc1 := 19) (L1 := [(0, (2, ((22 : Nat) : Int))), (1, (0, a1))]) (st1 := [(0, a1), (2, ((22 + 1 : Nat) : Int))]) (h1 := h) rfl ?_
        obtain ⟨hg, hv⟩ := jgd_some hv
        refine jT.cald (a := 22 + 1) (st_Tx_letterAt) rfl rfl (by decide) hg.1 hg.2 ?_
        cases hv
        exact jT.iret (st_Tx_letterAt) rfl trivial
      · have hc : ¬ (a1 < h 22 1) := hc
        try rw [if_neg hc] at hv
        refine jG.blk (st_Tx_letterAt) 1 (pc1 := 13) (L1 := [(0, (2, ((22 : Nat) : Int))), (1, (0, a1))]) (st1 := [(0, (-1))]) (h1 := h) rfl ?_
        cases hv
        exact jT.iret (st_Tx_letterAt) rfl trivial
def f_Rd_letter (h : jH) : Option (Int) := (f_Tx_letterAt 18 h (h 17 2)).bind fun v1 => some v1
set_option maxRecDepth 100000 in
set_option maxHeartbeats 4000000 in
theorem C_Rd_letter {E : jE} {h : jH} {res : Int} (hv : f_Rd_letter h = some res) : jC E M_Rd_letter [(2, ((17 : Nat) : Int))] h (some (0, res)) h := by
  refine jC.of ok_Rd_letter.1 (by rw [jlg]; exact Nat.le_of_ble_eq_true rfl) ?_
  show jG E _ 0 [(0, (2, ((17 : Nat) : Int)))] [] h _ _
  unfold f_Rd_letter at hv
  refine jG.blk (st_Rd_letter) 4 (pc1 := 8) (L1 := [(0, (2, ((17 : Nat) : Int)))]) (st1 := [(0, h 17 2), (2, ((18 : Nat) : Int))]) (h1 := h) rfl ?_
  obtain ⟨v1, hq, hv⟩ := Option.bind_eq_some_iff.mp hv
  refine jT.cV (M1 := M_Tx_letterAt) (2, ((18 : Nat) : Int)) [(0, h 17 2)] [] (st_Rd_letter) rfl rfl ok_Tx_letterAt rfl (Or.inl ⟨rfl, _, _, _, rfl, rfl⟩) (Nat.le_of_ble_eq_true rfl) (Nat.le_of_ble_eq_true rfl) rfl (Nat.le_of_ble_eq_true rfl) (C_Tx_letterAt (by decide) hq) ?_
  show jG E _ 11 [(0, (2, ((17 : Nat) : Int)))] [(0, v1)] h _ _
  cases hv
  exact jT.iret (st_Rd_letter) rfl trivial
def f_Rd_takeLetter (h : jH) (a1 : Int) : Option (Int × jH) := (f_Rd_letter h).bind fun v1 => some (if v1 = a1 then (1, jup h 17 2 (jadd (h 17 2) 1)) else (0, h))
set_option maxRecDepth 100000 in
set_option maxHeartbeats 4000000 in
theorem C_Rd_takeLetter {E : jE} {h : jH} {a1 : Int} {res : Int × jH} (hv : f_Rd_takeLetter h a1 = some res) : jC E M_Rd_takeLetter [(2, ((17 : Nat) : Int)), (0, a1)] h (some (0, res.1)) res.2 := by
  refine jC.of ok_Rd_takeLetter.1 (by rw [jlg]; exact Nat.le_of_ble_eq_true rfl) ?_
  show jG E _ 0 [(0, (2, ((17 : Nat) : Int))), (1, (0, a1))] [] h _ _
  unfold f_Rd_takeLetter at hv
  refine jG.blk (st_Rd_takeLetter) 1 (pc1 := 1) (L1 := [(0, (2, ((17 : Nat) : Int))), (1, (0, a1))]) (st1 := [(2, ((17 : Nat) : Int))]) (h1 := h) rfl ?_
  obtain ⟨v1, hq, hv⟩ := Option.bind_eq_some_iff.mp hv
  refine jT.cV (M1 := M_Rd_letter) (2, ((17 : Nat) : Int)) [] [] (st_Rd_takeLetter) rfl rfl ok_Rd_letter rfl (Or.inl ⟨rfl, _, _, _, rfl, rfl⟩) (Nat.le_of_ble_eq_true rfl) (Nat.le_of_ble_eq_true rfl) rfl (Nat.le_of_ble_eq_true rfl) (C_Rd_letter hq) ?_
  show jG E _ 4 [(0, (2, ((17 : Nat) : Int))), (1, (0, a1))] [(0, v1)] h _ _
  refine jG.blk (st_Rd_takeLetter) 1 (pc1 := 5) (L1 := [(0, (2, ((17 : Nat) : Int))), (1, (0, a1))]) (st1 := [(0, a1), (0, v1)]) (h1 := h) rfl ?_
  refine jT.if2 (st_Rd_takeLetter) rfl (tgt := 10) (by decide) (fun hc => ?_) (fun hc => ?_)
  · have hc : v1 = a1 := hc
    try rw [if_pos hc] at hv
    refine jG.blk (st_Rd_takeLetter) 7 (pc1 := 21) (L1 := [(0, (2, ((17 : Nat) : Int))), (1, (0, a1))]) (st1 := [(0, 1)]) (h1 := jup h 17 2 (jadd (h 17 2) 1)) rfl ?_
    cases hv
    exact jT.iret (st_Rd_takeLetter) rfl (Or.inr rfl)
  · have hc : ¬ (v1 = a1) := hc
    try rw [if_neg hc] at hv
    refine jG.blk (st_Rd_takeLetter) 1 (pc1 := 9) (L1 := [(0, (2, ((17 : Nat) : Int))), (1, (0, a1))]) (st1 := [(0, 0)]) (h1 := h) rfl ?_
    cases hv
    exact jT.iret (st_Rd_takeLetter) rfl (Or.inl rfl)
def f_Rd_pieceFor_lp2 (h : jH) (x2 : Int) (k : Int → Option (Int)) : Nat → Int → Option (Int)
  | 0, _ => none
  | n + 1, l1 => if 12 ≤ l1 then k l1 else (f_Js_charAt 7 h l1).bind fun v3 => if v3 = x2 then some (jadd l1 1) else f_Rd_pieceFor_lp2 h x2 k n (jadd l1 1)
def f_Rd_pieceFor (h : jH) (a0 : Int) : Option (Int) := f_Rd_pieceFor_lp2 h a0 (fun l4 => some (-1)) 1000 0
set_option maxRecDepth 100000 in
set_option maxHeartbeats 4000000 in
theorem f_Rd_pieceFor_lp2_ok (E : jE) {h : jH} {x2 : Int} {k : Int → Option (Int)} (hk : ∀ (l1 : Int) (res : Int), k l1 = some res → jG E M_Rd_pieceFor 28 [] [] h (some (0, res)) h) : ∀ (n : Nat) (l1 : Int) (res : Int), f_Rd_pieceFor_lp2 h x2 k n l1 = some res → jG E M_Rd_pieceFor 2 [(0, (0, x2)), (1, (0, l1))] [] h (some (0, res)) h := by
  intro n
  induction n with
  | zero => intro l1 res hv; cases hv
  | succ n ih =>
    intro l1 res hv
    rw [f_Rd_pieceFor_lp2] at hv
    refine jG.blk (st_Rd_pieceFor) 2 (pc1 := 5) (L1 := [(0, (0, x2)), (1, (0, l1))]) (st1 := [(0, 12), (0, l1)]) (h1 := h) rfl ?_
    refine jT.if2 (st_Rd_pieceFor) rfl (tgt := 28) (by decide) (fun hc => ?_) (fun hc => ?_)
    · have hc : 12 ≤ l1 := hc
      try rw [if_pos hc] at hv
      refine jG.subp [] (L1 := []) rfl ?_
      exact hk _ _ hv
    · have hc : ¬ (12 ≤ l1) := hc
      try rw [if_neg hc] at hv
      refine jG.blk (st_Rd_pieceFor) 2 (pc1 := 11) (L1 := [(0, (0, x2)), (1, (0, l1))]) (st1 := [(0, l1), (3, ((7 : Nat) : Int))]) (h1 := h) rfl ?_
      obtain ⟨v3, hq, hv⟩ := Option.bind_eq_some_iff.mp hv
      refine jT.cV (M1 := M_Js_charAt) (3, ((7 : Nat) : Int)) [(0, l1)] [] (st_Rd_pieceFor) rfl rfl ok_Js_charAt rfl (Or.inr ⟨rfl, rfl, (7, 5), by decide, rfl⟩) (Nat.le_of_ble_eq_true rfl) (Nat.le_of_ble_eq_true rfl) rfl (Nat.le_of_ble_eq_true rfl) (C_Js_charAt (by decide) hq) ?_
      show jG E _ 14 [(0, (0, x2)), (1, (0, l1))] [(0, v3)] h _ _
      refine jG.blk (st_Rd_pieceFor) 1 (pc1 := 15) (L1 := [(0, (0, x2)), (1, (0, l1))]) (st1 := [(0, x2), (0, v3)]) (h1 := h) rfl ?_
      refine jT.if2 (st_Rd_pieceFor) rfl (tgt := 22) (by decide) (fun hc => ?_) (fun hc => ?_)
      · have hc : ¬ (v3 = x2) := hc
        try rw [if_neg hc] at hv
        refine jG.blk (st_Rd_pieceFor) 1 (pc1 := 25) (L1 := [(1, (0, jadd l1 1)), (0, (0, x2))]) (st1 := []) (h1 := h) rfl ?_
        refine jT.goto (st_Rd_pieceFor) rfl (tgt := 2) (by decide) ?_
        refine jG.subp [1, 0] (L1 := [(0, (0, x2)), (1, (0, jadd l1 1))]) rfl ?_
        exact ih _ _ hv
      · have hc : v3 = x2 := Decidable.not_not.mp hc
        try rw [if_pos hc] at hv
        refine jG.blk (st_Rd_pieceFor) 3 (pc1 := 21) (L1 := [(0, (0, x2)), (1, (0, l1))]) (st1 := [(0, jadd l1 1)]) (h1 := h) rfl ?_
        cases hv
        exact jT.iret (st_Rd_pieceFor) rfl trivial
set_option maxRecDepth 100000 in
set_option maxHeartbeats 4000000 in
theorem C_Rd_pieceFor {E : jE} {h : jH} {a0 : Int} {res : Int} (hv : f_Rd_pieceFor h a0 = some res) : jC E M_Rd_pieceFor [(0, a0)] h (some (0, res)) h := by
  refine jC.of ok_Rd_pieceFor.1 (by rw [jlg]; exact Nat.le_of_ble_eq_true rfl) ?_
  show jG E _ 0 [(0, (0, a0))] [] h _ _
  unfold f_Rd_pieceFor at hv
  refine jG.blk (st_Rd_pieceFor) 2 (pc1 := 2) (L1 := [(1, (0, 0)), (0, (0, a0))]) (st1 := []) (h1 := h) rfl ?_
  refine jG.subp [1, 0] (L1 := [(0, (0, a0)), (1, (0, 0))]) rfl ?_
  refine f_Rd_pieceFor_lp2_ok E (fun l4 res hv => ?_) 1000 _ _ hv
  · refine jG.blk (st_Rd_pieceFor) 1 (pc1 := 29) (L1 := []) (st1 := [(0, (-1))]) (h1 := h) rfl ?_
    cases hv
    exact jT.iret (st_Rd_pieceFor) rfl trivial
def f_Rd_takeRank_j112_7 (rc : Int → Int → Int → jH → Option (Int × jH)) (k : Int → Int → Int → jH → Option (Int × jH)) (h5 : jH) (h21 : jH) (x4 : Int) (l18 : Int) (l19 : Int) (s20 : Int) : Option (Int × jH) := rc s20 l18 (jadd l19 1) (jup h21 17 2 (jadd (h21 17 2) 1))
def f_Rd_takeRank_j101_7 (rc : Int → Int → Int → jH → Option (Int × jH)) (k : Int → Int → Int → jH → Option (Int × jH)) (h5 : jH) (h17 : jH) (x4 : Int) (l14 : Int) (l15 : Int) (l16 : Int) : Option (Int × jH) := f_Rd_takeRank_j112_7 rc k h5 h17 x4 l14 l15 (if l16 = (-1) then 1 else 0)
def f_Rd_takeRank_j46_7 (rc : Int → Int → Int → jH → Option (Int × jH)) (k : Int → Int → Int → jH → Option (Int × jH)) (h5 : jH) (h13 : jH) (x4 : Int) (l8 : Int) (l9 : Int) (l10 : Int) (l11 : Int) (s12 : Int) : Option (Int × jH) := if l11 = (-1) then if l8 = 0 then if s12 < 1 then some (0, h13) else if jadd l9 s12 ≤ 8 then f_Rd_takeRank_j101_7 rc k h5 h13 x4 (jadd l9 s12) l10 l11 else some (0, h13) else some (0, h13) else (f_X_squareAt h13 l9 x4).bind fun v22 => jgd (0 ≤ v22 ∧ v22 < 64) (f_Rd_takeRank_j101_7 rc k h5 (jup h13 21 v22.toNat l11) x4 (jadd l9 1) l10 l11)
def f_Rd_takeRank_lp7 (x4 : Int) (k : Int → Int → Int → jH → Option (Int × jH)) : Nat → Int → Int → Int → jH → Option (Int × jH)
  | 0, _, _, _, _ => none
  | n + 1, l1, l2, l3, h5 => if 8 ≤ l3 then k l1 l2 l3 h5 else if 8 ≤ l2 then k l1 l2 l3 h5 else (f_Rd_letter h5).bind fun v6 => (f_Rd_pieceFor h5 v6).bind fun v7 => if v7 = (-1) then (f_Rd_letter h5).bind fun v23 => f_Rd_takeRank_j46_7 (f_Rd_takeRank_lp7 x4 k n) k h5 h5 x4 l1 l2 l3 v7 (jsub v23 48) else f_Rd_takeRank_j46_7 (f_Rd_takeRank_lp7 x4 k n) k h5 h5 x4 l1 l2 l3 v7 0
def f_Rd_takeRank (h : jH) (a1 : Int) : Option (Int × jH) := f_Rd_takeRank_lp7 a1 (fun l24 l25 l26 h27 => some (1, h27)) 1000 0 0 0 h
set_option maxRecDepth 100000 in
set_option maxHeartbeats 4000000 in
theorem f_Rd_takeRank_j112_7_ok (E : jE) {rc : Int → Int → Int → jH → Option (Int × jH)} {k : Int → Int → Int → jH → Option (Int × jH)} {h5 : jH} {h21 : jH} {x4 : Int} (hrc : ∀ (l1 : Int) (l2 : Int) (l3 : Int) (h5 : jH) (res : Int × jH), rc l1 l2 l3 h5 = some res → jG E M_Rd_takeRank 7 [(0, (2, ((17 : Nat) : Int))), (1, (0, x4)), (2, (0, l1)), (3, (0, l2)), (4, (0, l3))] [] h5 (some (0, res.1)) res.2) (hk : ∀ (l1 : Int) (l2 : Int) (l3 : Int) (h5 : jH) (res : Int × jH), k l1 l2 l3 h5 = some res → jG E M_Rd_takeRank 129 [] [] h5 (some (0, res.1)) res.2) {l18 : Int} {l19 : Int} {s20 : Int} {res : Int × jH} (hv : f_Rd_takeRank_j112_7 rc k h5 h21 x4 l18 l19 s20 = some res) : jG E M_Rd_takeRank 112 [(0, (2, ((17 : Nat) : Int))), (1, (0, x4)), (3, (0, l18)), (4, (0, l19))] [(0, s20)] h21 (some (0, res.1)) res.2 := by
  unfold f_Rd_takeRank_j112_7 at hv
  refine jG.blk (st_Rd_takeRank) 8 (pc1 := 126) (L1 := [(4, (0, jadd l19 1)), (2, (0, s20)), (0, (2, ((17 : Nat) : Int))), (1, (0, x4)), (3, (0, l18))]) (st1 := []) (h1 := jup h21 17 2 (jadd (h21 17 2) 1)) rfl ?_
  refine jT.goto (st_Rd_takeRank) rfl (tgt := 7) (by decide) ?_
  refine jG.subp [2, 3, 1, 4, 0] (L1 := [(0, (2, ((17 : Nat) : Int))), (1, (0, x4)), (2, (0, s20)), (3, (0, l18)), (4, (0, jadd l19 1))]) rfl ?_
  exact hrc _ _ _ _ _ hv
set_option maxRecDepth 100000 in
set_option maxHeartbeats 4000000 in
theorem f_Rd_takeRank_j101_7_ok (E : jE) {rc : Int → Int → Int → jH → Option (Int × jH)} {k : Int → Int → Int → jH → Option (Int × jH)} {h5 : jH} {h17 : jH} {x4 : Int} (hrc : ∀ (l1 : Int) (l2 : Int) (l3 : Int) (h5 : jH) (res : Int × jH), rc l1 l2 l3 h5 = some res → jG E M_Rd_takeRank 7 [(0, (2, ((17 : Nat) : Int))), (1, (0, x4)), (2, (0, l1)), (3, (0, l2)), (4, (0, l3))] [] h5 (some (0, res.1)) res.2) (hk : ∀ (l1 : Int) (l2 : Int) (l3 : Int) (h5 : jH) (res : Int × jH), k l1 l2 l3 h5 = some res → jG E M_Rd_takeRank 129 [] [] h5 (some (0, res.1)) res.2) {l14 : Int} {l15 : Int} {l16 : Int} {res : Int × jH} (hv : f_Rd_takeRank_j101_7 rc k h5 h17 x4 l14 l15 l16 = some res) : jG E M_Rd_takeRank 101 [(0, (2, ((17 : Nat) : Int))), (1, (0, x4)), (3, (0, l14)), (4, (0, l15)), (5, (0, l16))] [] h17 (some (0, res.1)) res.2 := by
  unfold f_Rd_takeRank_j101_7 at hv
  refine jG.blk (st_Rd_takeRank) 2 (pc1 := 104) (L1 := [(0, (2, ((17 : Nat) : Int))), (1, (0, x4)), (3, (0, l14)), (4, (0, l15)), (5, (0, l16))]) (st1 := [(0, (-1)), (0, l16)]) (h1 := h17) rfl ?_
  refine jT.if2 (st_Rd_takeRank) rfl (tgt := 111) (by decide) (fun hc => ?_) (fun hc => ?_)
  · have hc : ¬ (l16 = (-1)) := hc
    try rw [if_neg hc] at hv
    refine jG.blk (st_Rd_takeRank) 1 (pc1 := 112) (L1 := [(0, (2, ((17 : Nat) : Int))), (1, (0, x4)), (3, (0, l14)), (4, (0, l15)), (5, (0, l16))]) (st1 := [(0, 0)]) (h1 := h17) rfl ?_
    refine jG.subp [0, 1, 2, 3] (L1 := [(0, (2, ((17 : Nat) : Int))), (1, (0, x4)), (3, (0, l14)), (4, (0, l15))]) rfl ?_
    exact f_Rd_takeRank_j112_7_ok E hrc hk hv
  · have hc : l16 = (-1) := Decidable.not_not.mp hc
    try rw [if_pos hc] at hv
    refine jG.blk (st_Rd_takeRank) 1 (pc1 := 108) (L1 := [(0, (2, ((17 : Nat) : Int))), (1, (0, x4)), (3, (0, l14)), (4, (0, l15)), (5, (0, l16))]) (st1 := [(0, 1)]) (h1 := h17) rfl ?_
    refine jT.goto (st_Rd_takeRank) rfl (tgt := 112) (by decide) ?_
    refine jG.subp [0, 1, 2, 3] (L1 := [(0, (2, ((17 : Nat) : Int))), (1, (0, x4)), (3, (0, l14)), (4, (0, l15))]) rfl ?_
    exact f_Rd_takeRank_j112_7_ok E hrc hk hv
set_option maxRecDepth 100000 in
set_option maxHeartbeats 4000000 in
theorem f_Rd_takeRank_j46_7_ok (E : jE) {rc : Int → Int → Int → jH → Option (Int × jH)} {k : Int → Int → Int → jH → Option (Int × jH)} {h5 : jH} {h13 : jH} {x4 : Int} (hrc : ∀ (l1 : Int) (l2 : Int) (l3 : Int) (h5 : jH) (res : Int × jH), rc l1 l2 l3 h5 = some res → jG E M_Rd_takeRank 7 [(0, (2, ((17 : Nat) : Int))), (1, (0, x4)), (2, (0, l1)), (3, (0, l2)), (4, (0, l3))] [] h5 (some (0, res.1)) res.2) (hk : ∀ (l1 : Int) (l2 : Int) (l3 : Int) (h5 : jH) (res : Int × jH), k l1 l2 l3 h5 = some res → jG E M_Rd_takeRank 129 [] [] h5 (some (0, res.1)) res.2) {l8 : Int} {l9 : Int} {l10 : Int} {l11 : Int} {s12 : Int} {res : Int × jH} (hv : f_Rd_takeRank_j46_7 rc k h5 h13 x4 l8 l9 l10 l11 s12 = some res) : jG E M_Rd_takeRank 46 [(0, (2, ((17 : Nat) : Int))), (1, (0, x4)), (2, (0, l8)), (3, (0, l9)), (4, (0, l10)), (5, (0, l11))] [(0, s12)] h13 (some (0, res.1)) res.2 := by
  unfold f_Rd_takeRank_j46_7 at hv
  refine jG.blk (st_Rd_takeRank) 3 (pc1 := 51) (L1 := [(6, (0, s12)), (0, (2, ((17 : Nat) : Int))), (1, (0, x4)), (2, (0, l8)), (3, (0, l9)), (4, (0, l10)), (5, (0, l11))]) (st1 := [(0, (-1)), (0, l11)]) (h1 := h13) rfl ?_
  refine jT.if2 (st_Rd_takeRank) rfl (tgt := 75) (by decide) (fun hc => ?_) (fun hc => ?_)
  · have hc : l11 = (-1) := hc
    try rw [if_pos hc] at hv
    refine jG.blk (st_Rd_takeRank) 1 (pc1 := 76) (L1 := [(6, (0, s12)), (0, (2, ((17 : Nat) : Int))), (1, (0, x4)), (2, (0, l8)), (3, (0, l9)), (4, (0, l10)), (5, (0, l11))]) (st1 := [(0, l8)]) (h1 := h13) rfl ?_
    refine jT.if1 (st_Rd_takeRank) rfl (tgt := 94) (by decide) (fun hc => ?_) (fun hc => ?_)
    · have hc : ¬ (l8 = 0) := hc
      try rw [if_neg hc] at hv
      refine jG.blk (st_Rd_takeRank) 1 (pc1 := 95) (L1 := [(6, (0, s12)), (0, (2, ((17 : Nat) : Int))), (1, (0, x4)), (2, (0, l8)), (3, (0, l9)), (4, (0, l10)), (5, (0, l11))]) (st1 := [(0, 0)]) (h1 := h13) rfl ?_
      cases hv
      exact jT.iret (st_Rd_takeRank) rfl (Or.inl rfl)
    · have hc : l8 = 0 := Decidable.not_not.mp hc
      try rw [if_pos hc] at hv
      refine jG.blk (st_Rd_takeRank) 2 (pc1 := 82) (L1 := [(6, (0, s12)), (0, (2, ((17 : Nat) : Int))), (1, (0, x4)), (2, (0, l8)), (3, (0, l9)), (4, (0, l10)), (5, (0, l11))]) (st1 := [(0, 1), (0, s12)]) (h1 := h13) rfl ?_
      refine jT.if2 (st_Rd_takeRank) rfl (tgt := 94) (by decide) (fun hc => ?_) (fun hc => ?_)
      · have hc : s12 < 1 := hc
        try rw [if_pos hc] at hv
        refine jG.blk (st_Rd_takeRank) 1 (pc1 := 95) (L1 := [(6, (0, s12)), (0, (2, ((17 : Nat) : Int))), (1, (0, x4)), (2, (0, l8)), (3, (0, l9)), (4, (0, l10)), (5, (0, l11))]) (st1 := [(0, 0)]) (h1 := h13) rfl ?_
        cases hv
        exact jT.iret (st_Rd_takeRank) rfl (Or.inl rfl)
      · have hc : ¬ (s12 < 1) := hc
        try rw [if_neg hc] at hv
        refine jG.blk (st_Rd_takeRank) 4 (pc1 := 91) (L1 := [(6, (0, s12)), (0, (2, ((17 : Nat) : Int))), (1, (0, x4)), (2, (0, l8)), (3, (0, l9)), (4, (0, l10)), (5, (0, l11))]) (st1 := [(0, 8), (0, jadd l9 s12)]) (h1 := h13) rfl ?_
        refine jT.if2 (st_Rd_takeRank) rfl (tgt := 96) (by decide) (fun hc => ?_) (fun hc => ?_)
        · have hc : jadd l9 s12 ≤ 8 := hc
          try rw [if_pos hc] at hv
          refine jG.blk (st_Rd_takeRank) 4 (pc1 := 101) (L1 := [(3, (0, jadd l9 s12)), (6, (0, s12)), (0, (2, ((17 : Nat) : Int))), (1, (0, x4)), (2, (0, l8)), (4, (0, l10)), (5, (0, l11))]) (st1 := []) (h1 := h13) rfl ?_
          refine jG.subp [2, 3, 0, 5, 6] (L1 := [(0, (2, ((17 : Nat) : Int))), (1, (0, x4)), (3, (0, jadd l9 s12)), (4, (0, l10)), (5, (0, l11))]) rfl ?_
          exact f_Rd_takeRank_j101_7_ok E hrc hk hv
        · have hc : ¬ (jadd l9 s12 ≤ 8) := hc
          try rw [if_neg hc] at hv
          refine jG.blk (st_Rd_takeRank) 1 (pc1 := 95) (L1 := [(6, (0, s12)), (0, (2, ((17 : Nat) : Int))), (1, (0, x4)), (2, (0, l8)), (3, (0, l9)), (4, (0, l10)), (5, (0, l11))]) (st1 := [(0, 0)]) (h1 := h13) rfl ?_
          cases hv
          exact jT.iret (st_Rd_takeRank) rfl (Or.inl rfl)
  · have hc : ¬ (l11 = (-1)) := hc
    try rw [if_neg hc] at hv
    refine jG.blk (st_Rd_takeRank) 5 (pc1 := 63) (L1 := [(6, (0, s12)), (0, (2, ((17 : Nat) : Int))), (1, (0, x4)), (2, (0, l8)), (3, (0, l9)), (4, (0, l10)), (5, (0, l11))]) (st1 := [(0, x4), (0, l9), (2, ((21 : Nat) : Int))]) (h1 := h13) rfl ?_
    obtain ⟨v22, hq, hv⟩ := Option.bind_eq_some_iff.mp hv
    refine jT.cSN (M1 := M_X_squareAt) [(0, l9), (0, x4)] [(2, ((21 : Nat) : Int))] (st_Rd_takeRank) rfl rfl ok_X_squareAt rfl (Nat.le_of_ble_eq_true rfl) (Nat.le_of_ble_eq_true rfl) rfl (Nat.le_of_ble_eq_true rfl) (C_X_squareAt hq) ?_
    show jG E _ 66 [(6, (0, s12)), (0, (2, ((17 : Nat) : Int))), (1, (0, x4)), (2, (0, l8)), (3, (0, l9)), (4, (0, l10)), (5, (0, l11))] [(0, v22), (2, ((21 : Nat) : Int))] h13 _ _
    refine jG.blk (st_Rd_takeRank) 1 (pc1 := 68) (L1 := [(6, (0, s12)), (0, (2, ((17 : Nat) : Int))), (1, (0, x4)), (2, (0, l8)), (3, (0, l9)), (4, (0, l10)), (5, (0, l11))]) (st1 := [(0, l11), (0, v22), (2, ((21 : Nat) : Int))]) (h1 := h13) rfl ?_
    obtain ⟨hg, hv⟩ := jgd_some hv
    refine jT.iast (a := 21) (st_Rd_takeRank) rfl rfl (by decide) hg.1 hg.2 ?_
    refine jG.blk (st_Rd_takeRank) 1 (pc1 := 72) (L1 := [(3, (0, jadd l9 1)), (6, (0, s12)), (0, (2, ((17 : Nat) : Int))), (1, (0, x4)), (2, (0, l8)), (4, (0, l10)), (5, (0, l11))]) (st1 := []) (h1 := jup h13 21 v22.toNat l11) rfl ?_
    refine jT.goto (st_Rd_takeRank) rfl (tgt := 101) (by decide) ?_
    refine jG.subp [2, 3, 0, 5, 6] (L1 := [(0, (2, ((17 : Nat) : Int))), (1, (0, x4)), (3, (0, jadd l9 1)), (4, (0, l10)), (5, (0, l11))]) rfl ?_
    exact f_Rd_takeRank_j101_7_ok E hrc hk hv
set_option maxRecDepth 100000 in
set_option maxHeartbeats 4000000 in
theorem f_Rd_takeRank_lp7_ok (E : jE) {x4 : Int} {k : Int → Int → Int → jH → Option (Int × jH)} (hk : ∀ (l1 : Int) (l2 : Int) (l3 : Int) (h5 : jH) (res : Int × jH), k l1 l2 l3 h5 = some res → jG E M_Rd_takeRank 129 [] [] h5 (some (0, res.1)) res.2) : ∀ (n : Nat) (l1 : Int) (l2 : Int) (l3 : Int) (h5 : jH) (res : Int × jH), f_Rd_takeRank_lp7 x4 k n l1 l2 l3 h5 = some res → jG E M_Rd_takeRank 7 [(0, (2, ((17 : Nat) : Int))), (1, (0, x4)), (2, (0, l1)), (3, (0, l2)), (4, (0, l3))] [] h5 (some (0, res.1)) res.2 := by
  intro n
  induction n with
  | zero => intro l1 l2 l3 h5 res hv; cases hv
  | succ n ih =>
    intro l1 l2 l3 h5 res hv
    rw [f_Rd_takeRank_lp7] at hv
    refine jG.blk (st_Rd_takeRank) 2 (pc1 := 11) (L1 := [(0, (2, ((17 : Nat) : Int))), (1, (0, x4)), (2, (0, l1)), (3, (0, l2)), (4, (0, l3))]) (st1 := [(0, 8), (0, l3)]) (h1 := h5) rfl ?_
    refine jT.if2 (st_Rd_takeRank) rfl (tgt := 129) (by decide) (fun hc => ?_) (fun hc => ?_)
    · have hc : 8 ≤ l3 := hc
      try rw [if_pos hc] at hv
      refine jG.subp [] (L1 := []) rfl ?_
      exact hk _ _ _ _ _ hv
    · have hc : ¬ (8 ≤ l3) := hc
      try rw [if_neg hc] at hv
      refine jG.blk (st_Rd_takeRank) 2 (pc1 := 17) (L1 := [(0, (2, ((17 : Nat) : Int))), (1, (0, x4)), (2, (0, l1)), (3, (0, l2)), (4, (0, l3))]) (st1 := [(0, 8), (0, l2)]) (h1 := h5) rfl ?_
      refine jT.if2 (st_Rd_takeRank) rfl (tgt := 129) (by decide) (fun hc => ?_) (fun hc => ?_)
      · have hc : 8 ≤ l2 := hc
        try rw [if_pos hc] at hv
        refine jG.subp [] (L1 := []) rfl ?_
        exact hk _ _ _ _ _ hv
      · have hc : ¬ (8 ≤ l2) := hc
        try rw [if_neg hc] at hv
        refine jG.blk (st_Rd_takeRank) 1 (pc1 := 21) (L1 := [(0, (2, ((17 : Nat) : Int))), (1, (0, x4)), (2, (0, l1)), (3, (0, l2)), (4, (0, l3))]) (st1 := [(2, ((17 : Nat) : Int))]) (h1 := h5) rfl ?_
        obtain ⟨v6, hq, hv⟩ := Option.bind_eq_some_iff.mp hv
        refine jT.cV (M1 := M_Rd_letter) (2, ((17 : Nat) : Int)) [] [] (st_Rd_takeRank) rfl rfl ok_Rd_letter rfl (Or.inl ⟨rfl, _, _, _, rfl, rfl⟩) (Nat.le_of_ble_eq_true rfl) (Nat.le_of_ble_eq_true rfl) rfl (Nat.le_of_ble_eq_true rfl) (C_Rd_letter hq) ?_
        show jG E _ 24 [(0, (2, ((17 : Nat) : Int))), (1, (0, x4)), (2, (0, l1)), (3, (0, l2)), (4, (0, l3))] [(0, v6)] h5 _ _
        obtain ⟨v7, hq, hv⟩ := Option.bind_eq_some_iff.mp hv
        refine jT.cS (M1 := M_Rd_pieceFor) [(0, v6)] [] (st_Rd_takeRank) rfl rfl ok_Rd_pieceFor rfl (Nat.le_of_ble_eq_true rfl) (Nat.le_of_ble_eq_true rfl) rfl (Nat.le_of_ble_eq_true rfl) (C_Rd_pieceFor hq) ?_
        show jG E _ 27 [(0, (2, ((17 : Nat) : Int))), (1, (0, x4)), (2, (0, l1)), (3, (0, l2)), (4, (0, l3))] [(0, v7)] h5 _ _
        refine jG.blk (st_Rd_takeRank) 3 (pc1 := 32) (L1 := [(5, (0, v7)), (0, (2, ((17 : Nat) : Int))), (1, (0, x4)), (2, (0, l1)), (3, (0, l2)), (4, (0, l3))]) (st1 := [(0, (-1)), (0, v7)]) (h1 := h5) rfl ?_
        refine jT.if2 (st_Rd_takeRank) rfl (tgt := 45) (by decide) (fun hc => ?_) (fun hc => ?_)
        · have hc : ¬ (v7 = (-1)) := hc
          try rw [if_neg hc] at hv
          refine jG.blk (st_Rd_takeRank) 1 (pc1 := 46) (L1 := [(5, (0, v7)), (0, (2, ((17 : Nat) : Int))), (1, (0, x4)), (2, (0, l1)), (3, (0, l2)), (4, (0, l3))]) (st1 := [(0, 0)]) (h1 := h5) rfl ?_
          refine jG.subp [1, 2, 3, 4, 5, 0] (L1 := [(0, (2, ((17 : Nat) : Int))), (1, (0, x4)), (2, (0, l1)), (3, (0, l2)), (4, (0, l3)), (5, (0, v7))]) rfl ?_
          exact f_Rd_takeRank_j46_7_ok E ih hk hv
        · have hc : v7 = (-1) := Decidable.not_not.mp hc
          try rw [if_pos hc] at hv
          refine jG.blk (st_Rd_takeRank) 1 (pc1 := 36) (L1 := [(5, (0, v7)), (0, (2, ((17 : Nat) : Int))), (1, (0, x4)), (2, (0, l1)), (3, (0, l2)), (4, (0, l3))]) (st1 := [(2, ((17 : Nat) : Int))]) (h1 := h5) rfl ?_
          obtain ⟨v23, hq, hv⟩ := Option.bind_eq_some_iff.mp hv
          refine jT.cV (M1 := M_Rd_letter) (2, ((17 : Nat) : Int)) [] [] (st_Rd_takeRank) rfl rfl ok_Rd_letter rfl (Or.inl ⟨rfl, _, _, _, rfl, rfl⟩) (Nat.le_of_ble_eq_true rfl) (Nat.le_of_ble_eq_true rfl) rfl (Nat.le_of_ble_eq_true rfl) (C_Rd_letter hq) ?_
          show jG E _ 39 [(5, (0, v7)), (0, (2, ((17 : Nat) : Int))), (1, (0, x4)), (2, (0, l1)), (3, (0, l2)), (4, (0, l3))] [(0, v23)] h5 _ _
          refine jG.blk (st_Rd_takeRank) 2 (pc1 := 42) (L1 := [(5, (0, v7)), (0, (2, ((17 : Nat) : Int))), (1, (0, x4)), (2, (0, l1)), (3, (0, l2)), (4, (0, l3))]) (st1 := [(0, jsub v23 48)]) (h1 := h5) rfl ?_
          refine jT.goto (st_Rd_takeRank) rfl (tgt := 46) (by decide) ?_
          refine jG.subp [1, 2, 3, 4, 5, 0] (L1 := [(0, (2, ((17 : Nat) : Int))), (1, (0, x4)), (2, (0, l1)), (3, (0, l2)), (4, (0, l3)), (5, (0, v7))]) rfl ?_
          exact f_Rd_takeRank_j46_7_ok E ih hk hv
set_option maxRecDepth 100000 in
set_option maxHeartbeats 4000000 in
theorem C_Rd_takeRank {E : jE} {h : jH} {a1 : Int} {res : Int × jH} (hv : f_Rd_takeRank h a1 = some res) : jC E M_Rd_takeRank [(2, ((17 : Nat) : Int)), (0, a1)] h (some (0, res.1)) res.2 := by
  refine jC.of ok_Rd_takeRank.1 (by rw [jlg]; exact Nat.le_of_ble_eq_true rfl) ?_
  show jG E _ 0 [(0, (2, ((17 : Nat) : Int))), (1, (0, a1))] [] h _ _
  unfold f_Rd_takeRank at hv
  refine jG.blk (st_Rd_takeRank) 6 (pc1 := 7) (L1 := [(4, (0, 0)), (3, (0, 0)), (2, (0, 0)), (0, (2, ((17 : Nat) : Int))), (1, (0, a1))]) (st1 := []) (h1 := h) rfl ?_
  refine jG.subp [3, 4, 2, 1, 0] (L1 := [(0, (2, ((17 : Nat) : Int))), (1, (0, a1)), (2, (0, 0)), (3, (0, 0)), (4, (0, 0))]) rfl ?_
  refine f_Rd_takeRank_lp7_ok E (fun l24 l25 l26 h27 res hv => ?_) 1000 _ _ _ _ _ hv
  · refine jG.blk (st_Rd_takeRank) 1 (pc1 := 130) (L1 := []) (st1 := [(0, 1)]) (h1 := h27) rfl ?_
    cases hv
    exact jT.iret (st_Rd_takeRank) rfl (Or.inr rfl)
def f_Rd_takeSquares_j22_3 (rc : Int → jH → Option (Int × jH)) (k : Int → jH → Option (Int × jH)) (h2 : jH) (h4 : jH) (l3 : Int) : Option (Int × jH) := (f_Rd_takeRank h4 l3).bind fun v5 => if v5.1 = 0 then some (0, v5.2) else rc (jadd l3 (-1)) v5.2
def f_Rd_takeSquares_lp3 (k : Int → jH → Option (Int × jH)) : Nat → Int → jH → Option (Int × jH)
  | 0, _, _ => none
  | n + 1, l1, h2 => if l1 < 0 then k l1 h2 else if 7 ≤ l1 then f_Rd_takeSquares_j22_3 (f_Rd_takeSquares_lp3 k n) k h2 h2 l1 else (f_Rd_takeLetter h2 47).bind fun v6 => if v6.1 = 0 then some (0, v6.2) else f_Rd_takeSquares_j22_3 (f_Rd_takeSquares_lp3 k n) k h2 v6.2 l1
def f_Rd_takeSquares (h : jH) : Option (Int × jH) := f_Rd_takeSquares_lp3 (fun l7 h8 => some (1, h8)) 1000 7 h
set_option maxRecDepth 100000 in
set_option maxHeartbeats 4000000 in
theorem f_Rd_takeSquares_j22_3_ok (E : jE) {rc : Int → jH → Option (Int × jH)} {k : Int → jH → Option (Int × jH)} {h2 : jH} {h4 : jH} (hrc : ∀ (l1 : Int) (h2 : jH) (res : Int × jH), rc l1 h2 = some res → jG E M_Rd_takeSquares 3 [(0, (2, ((17 : Nat) : Int))), (1, (0, l1))] [] h2 (some (0, res.1)) res.2) (hk : ∀ (l1 : Int) (h2 : jH) (res : Int × jH), k l1 h2 = some res → jG E M_Rd_takeSquares 38 [] [] h2 (some (0, res.1)) res.2) {l3 : Int} {res : Int × jH} (hv : f_Rd_takeSquares_j22_3 rc k h2 h4 l3 = some res) : jG E M_Rd_takeSquares 22 [(0, (2, ((17 : Nat) : Int))), (1, (0, l3))] [] h4 (some (0, res.1)) res.2 := by
  unfold f_Rd_takeSquares_j22_3 at hv
  refine jG.blk (st_Rd_takeSquares) 2 (pc1 := 24) (L1 := [(0, (2, ((17 : Nat) : Int))), (1, (0, l3))]) (st1 := [(0, l3), (2, ((17 : Nat) : Int))]) (h1 := h4) rfl ?_
  obtain ⟨v5, hq, hv⟩ := Option.bind_eq_some_iff.mp hv
  refine jT.cV (M1 := M_Rd_takeRank) (2, ((17 : Nat) : Int)) [(0, l3)] [] (st_Rd_takeSquares) rfl rfl ok_Rd_takeRank rfl (Or.inl ⟨rfl, _, _, _, rfl, rfl⟩) (Nat.le_of_ble_eq_true rfl) (Nat.le_of_ble_eq_true rfl) rfl (Nat.le_of_ble_eq_true rfl) (C_Rd_takeRank hq) ?_
  show jG E _ 27 [(0, (2, ((17 : Nat) : Int))), (1, (0, l3))] [(0, v5.1)] v5.2 _ _
  refine jT.if1 (st_Rd_takeSquares) rfl (tgt := 32) (by decide) (fun hc => ?_) (fun hc => ?_)
  · have hc : ¬ (v5.1 = 0) := hc
    try rw [if_neg hc] at hv
    refine jG.blk (st_Rd_takeSquares) 1 (pc1 := 35) (L1 := [(1, (0, jadd l3 (-1))), (0, (2, ((17 : Nat) : Int)))]) (st1 := []) (h1 := v5.2) rfl ?_
    refine jT.goto (st_Rd_takeSquares) rfl (tgt := 3) (by decide) ?_
    refine jG.subp [1, 0] (L1 := [(0, (2, ((17 : Nat) : Int))), (1, (0, jadd l3 (-1)))]) rfl ?_
    exact hrc _ _ _ hv
  · have hc : v5.1 = 0 := Decidable.not_not.mp hc
    try rw [if_pos hc] at hv
    refine jG.blk (st_Rd_takeSquares) 1 (pc1 := 31) (L1 := [(0, (2, ((17 : Nat) : Int))), (1, (0, l3))]) (st1 := [(0, 0)]) (h1 := v5.2) rfl ?_
    cases hv
    exact jT.iret (st_Rd_takeSquares) rfl (Or.inl rfl)
set_option maxRecDepth 100000 in
set_option maxHeartbeats 4000000 in
theorem f_Rd_takeSquares_lp3_ok (E : jE) {k : Int → jH → Option (Int × jH)} (hk : ∀ (l1 : Int) (h2 : jH) (res : Int × jH), k l1 h2 = some res → jG E M_Rd_takeSquares 38 [] [] h2 (some (0, res.1)) res.2) : ∀ (n : Nat) (l1 : Int) (h2 : jH) (res : Int × jH), f_Rd_takeSquares_lp3 k n l1 h2 = some res → jG E M_Rd_takeSquares 3 [(0, (2, ((17 : Nat) : Int))), (1, (0, l1))] [] h2 (some (0, res.1)) res.2 := by
  intro n
  induction n with
  | zero => intro l1 h2 res hv; cases hv
  | succ n ih =>
    intro l1 h2 res hv
    rw [f_Rd_takeSquares_lp3] at hv
    refine jG.blk (st_Rd_takeSquares) 1 (pc1 := 4) (L1 := [(0, (2, ((17 : Nat) : Int))), (1, (0, l1))]) (st1 := [(0, l1)]) (h1 := h2) rfl ?_
    refine jT.if1 (st_Rd_takeSquares) rfl (tgt := 38) (by decide) (fun hc => ?_) (fun hc => ?_)
    · have hc : l1 < 0 := hc
      try rw [if_pos hc] at hv
      refine jG.subp [] (L1 := []) rfl ?_
      exact hk _ _ _ hv
    · have hc : ¬ (l1 < 0) := hc
      try rw [if_neg hc] at hv
      refine jG.blk (st_Rd_takeSquares) 2 (pc1 := 10) (L1 := [(0, (2, ((17 : Nat) : Int))), (1, (0, l1))]) (st1 := [(0, 7), (0, l1)]) (h1 := h2) rfl ?_
      refine jT.if2 (st_Rd_takeSquares) rfl (tgt := 22) (by decide) (fun hc => ?_) (fun hc => ?_)
      · have hc : 7 ≤ l1 := hc
        try rw [if_pos hc] at hv
        exact f_Rd_takeSquares_j22_3_ok E ih hk hv
      · have hc : ¬ (7 ≤ l1) := hc
        try rw [if_neg hc] at hv
        refine jG.blk (st_Rd_takeSquares) 2 (pc1 := 16) (L1 := [(0, (2, ((17 : Nat) : Int))), (1, (0, l1))]) (st1 := [(0, 47), (2, ((17 : Nat) : Int))]) (h1 := h2) rfl ?_
        obtain ⟨v6, hq, hv⟩ := Option.bind_eq_some_iff.mp hv
        refine jT.cV (M1 := M_Rd_takeLetter) (2, ((17 : Nat) : Int)) [(0, 47)] [] (st_Rd_takeSquares) rfl rfl ok_Rd_takeLetter rfl (Or.inl ⟨rfl, _, _, _, rfl, rfl⟩) (Nat.le_of_ble_eq_true rfl) (Nat.le_of_ble_eq_true rfl) rfl (Nat.le_of_ble_eq_true rfl) (C_Rd_takeLetter hq) ?_
        show jG E _ 19 [(0, (2, ((17 : Nat) : Int))), (1, (0, l1))] [(0, v6.1)] v6.2 _ _
        refine jT.if1 (st_Rd_takeSquares) rfl (tgt := 30) (by decide) (fun hc => ?_) (fun hc => ?_)
        · have hc : v6.1 = 0 := hc
          try rw [if_pos hc] at hv
          refine jG.blk (st_Rd_takeSquares) 1 (pc1 := 31) (L1 := [(0, (2, ((17 : Nat) : Int))), (1, (0, l1))]) (st1 := [(0, 0)]) (h1 := v6.2) rfl ?_
          cases hv
          exact jT.iret (st_Rd_takeSquares) rfl (Or.inl rfl)
        · have hc : ¬ (v6.1 = 0) := hc
          try rw [if_neg hc] at hv
          exact f_Rd_takeSquares_j22_3_ok E ih hk hv
set_option maxRecDepth 100000 in
set_option maxHeartbeats 4000000 in
theorem C_Rd_takeSquares {E : jE} {h : jH} {res : Int × jH} (hv : f_Rd_takeSquares h = some res) : jC E M_Rd_takeSquares [(2, ((17 : Nat) : Int))] h (some (0, res.1)) res.2 := by
  refine jC.of ok_Rd_takeSquares.1 (by rw [jlg]; exact Nat.le_of_ble_eq_true rfl) ?_
  show jG E _ 0 [(0, (2, ((17 : Nat) : Int)))] [] h _ _
  unfold f_Rd_takeSquares at hv
  refine jG.blk (st_Rd_takeSquares) 2 (pc1 := 3) (L1 := [(1, (0, 7)), (0, (2, ((17 : Nat) : Int)))]) (st1 := []) (h1 := h) rfl ?_
  refine jG.subp [1, 0] (L1 := [(0, (2, ((17 : Nat) : Int))), (1, (0, 7))]) rfl ?_
  refine f_Rd_takeSquares_lp3_ok E (fun l7 h8 res hv => ?_) 1000 _ _ _ hv
  · refine jG.blk (st_Rd_takeSquares) 1 (pc1 := 39) (L1 := []) (st1 := [(0, 1)]) (h1 := h8) rfl ?_
    cases hv
    exact jT.iret (st_Rd_takeSquares) rfl (Or.inr rfl)
def f_Rd_takeSide (h : jH) : Option (Int × jH) := (f_Rd_takeLetter h 119).bind fun v1 => if v1.1 = 0 then (f_Rd_takeLetter (jup v1.2 20 1 1) 98).bind fun v2 => jgd (v2.1 = 0 ∨ v2.1 = 1) (some (v2.1, v2.2)) else some (1, jup v1.2 20 1 0)
set_option maxRecDepth 100000 in
set_option maxHeartbeats 4000000 in
theorem C_Rd_takeSide {E : jE} {h : jH} {res : Int × jH} (hv : f_Rd_takeSide h = some res) : jC E M_Rd_takeSide [(2, ((17 : Nat) : Int))] h (some (0, res.1)) res.2 := by
  refine jC.of ok_Rd_takeSide.1 (by rw [jlg]; exact Nat.le_of_ble_eq_true rfl) ?_
  show jG E _ 0 [(0, (2, ((17 : Nat) : Int)))] [] h _ _
  unfold f_Rd_takeSide at hv
  refine jG.blk (st_Rd_takeSide) 2 (pc1 := 3) (L1 := [(0, (2, ((17 : Nat) : Int)))]) (st1 := [(0, 119), (2, ((17 : Nat) : Int))]) (h1 := h) rfl ?_
  obtain ⟨v1, hq, hv⟩ := Option.bind_eq_some_iff.mp hv
  refine jT.cV (M1 := M_Rd_takeLetter) (2, ((17 : Nat) : Int)) [(0, 119)] [] (st_Rd_takeSide) rfl rfl ok_Rd_takeLetter rfl (Or.inl ⟨rfl, _, _, _, rfl, rfl⟩) (Nat.le_of_ble_eq_true rfl) (Nat.le_of_ble_eq_true rfl) rfl (Nat.le_of_ble_eq_true rfl) (C_Rd_takeLetter hq) ?_
  show jG E _ 6 [(0, (2, ((17 : Nat) : Int)))] [(0, v1.1)] v1.2 _ _
  refine jT.if1 (st_Rd_takeSide) rfl (tgt := 19) (by decide) (fun hc => ?_) (fun hc => ?_)
  · have hc : v1.1 = 0 := hc
    try rw [if_pos hc] at hv
    refine jG.blk (st_Rd_takeSide) 6 (pc1 := 30) (L1 := [(0, (2, ((17 : Nat) : Int)))]) (st1 := [(0, 98), (2, ((17 : Nat) : Int))]) (h1 := jup v1.2 20 1 1) rfl ?_
    obtain ⟨v2, hq, hv⟩ := Option.bind_eq_some_iff.mp hv
    refine jT.cV (M1 := M_Rd_takeLetter) (2, ((17 : Nat) : Int)) [(0, 98)] [] (st_Rd_takeSide) rfl rfl ok_Rd_takeLetter rfl (Or.inl ⟨rfl, _, _, _, rfl, rfl⟩) (Nat.le_of_ble_eq_true rfl) (Nat.le_of_ble_eq_true rfl) rfl (Nat.le_of_ble_eq_true rfl) (C_Rd_takeLetter hq) ?_
    show jG E _ 33 [(0, (2, ((17 : Nat) : Int)))] [(0, v2.1)] v2.2 _ _
    obtain ⟨hg, hv⟩ := jgd_some hv
    cases hv
    exact jT.iret (st_Rd_takeSide) rfl hg
  · have hc : ¬ (v1.1 = 0) := hc
    try rw [if_neg hc] at hv
    refine jG.blk (st_Rd_takeSide) 5 (pc1 := 18) (L1 := [(0, (2, ((17 : Nat) : Int)))]) (st1 := [(0, 1)]) (h1 := jup v1.2 20 1 0) rfl ?_
    cases hv
    exact jT.iret (st_Rd_takeSide) rfl (Or.inr rfl)
def f_Rd_takeRights_lp13 (k : Int → jH → Option (Int × jH)) : Nat → Int → jH → Option (Int × jH)
  | 0, _, _ => none
  | n + 1, l2, h3 => if 4 ≤ l2 then k l2 h3 else (f_Js_charAt 8 h3 l2).bind fun v4 => (f_Rd_takeLetter h3 v4).bind fun v5 => f_Rd_takeRights_lp13 k n (jadd l2 1) (if v5.1 = 0 then v5.2 else jup v5.2 20 2 (jor (v5.2 20 2) (jshl 1 l2)))
def f_Rd_takeRights (h : jH) : Option (Int × jH) := (f_Rd_takeLetter h 45).bind fun v1 => if v1.1 = 0 then f_Rd_takeRights_lp13 (fun l6 h7 => some (if h7 20 2 = 0 then (0, h7) else (1, h7))) 1000 0 v1.2 else some (1, v1.2)
set_option maxRecDepth 100000 in
set_option maxHeartbeats 4000000 in
theorem f_Rd_takeRights_lp13_ok (E : jE) {k : Int → jH → Option (Int × jH)} (hk : ∀ (l2 : Int) (h3 : jH) (res : Int × jH), k l2 h3 = some res → jG E M_Rd_takeRights 52 [(0, (2, ((17 : Nat) : Int)))] [] h3 (some (0, res.1)) res.2) : ∀ (n : Nat) (l2 : Int) (h3 : jH) (res : Int × jH), f_Rd_takeRights_lp13 k n l2 h3 = some res → jG E M_Rd_takeRights 13 [(0, (2, ((17 : Nat) : Int))), (1, (0, l2))] [] h3 (some (0, res.1)) res.2 := by
  intro n
  induction n with
  | zero => intro l2 h3 res hv; cases hv
  | succ n ih =>
    intro l2 h3 res hv
    rw [f_Rd_takeRights_lp13] at hv
    refine jG.blk (st_Rd_takeRights) 2 (pc1 := 15) (L1 := [(0, (2, ((17 : Nat) : Int))), (1, (0, l2))]) (st1 := [(0, 4), (0, l2)]) (h1 := h3) rfl ?_
    refine jT.if2 (st_Rd_takeRights) rfl (tgt := 52) (by decide) (fun hc => ?_) (fun hc => ?_)
    · have hc : 4 ≤ l2 := hc
      try rw [if_pos hc] at hv
      refine jG.subp [0] (L1 := [(0, (2, ((17 : Nat) : Int)))]) rfl ?_
      exact hk _ _ _ hv
    · have hc : ¬ (4 ≤ l2) := hc
      try rw [if_neg hc] at hv
      refine jG.blk (st_Rd_takeRights) 3 (pc1 := 22) (L1 := [(0, (2, ((17 : Nat) : Int))), (1, (0, l2))]) (st1 := [(0, l2), (3, ((8 : Nat) : Int)), (2, ((17 : Nat) : Int))]) (h1 := h3) rfl ?_
      obtain ⟨v4, hq, hv⟩ := Option.bind_eq_some_iff.mp hv
      refine jT.cV (M1 := M_Js_charAt) (3, ((8 : Nat) : Int)) [(0, l2)] [(2, ((17 : Nat) : Int))] (st_Rd_takeRights) rfl rfl ok_Js_charAt rfl (Or.inr ⟨rfl, rfl, (8, 6), by decide, rfl⟩) (Nat.le_of_ble_eq_true rfl) (Nat.le_of_ble_eq_true rfl) rfl (Nat.le_of_ble_eq_true rfl) (C_Js_charAt (by decide) hq) ?_
      show jG E _ 25 [(0, (2, ((17 : Nat) : Int))), (1, (0, l2))] [(0, v4), (2, ((17 : Nat) : Int))] h3 _ _
      obtain ⟨v5, hq, hv⟩ := Option.bind_eq_some_iff.mp hv
      refine jT.cV (M1 := M_Rd_takeLetter) (2, ((17 : Nat) : Int)) [(0, v4)] [] (st_Rd_takeRights) rfl rfl ok_Rd_takeLetter rfl (Or.inl ⟨rfl, _, _, _, rfl, rfl⟩) (Nat.le_of_ble_eq_true rfl) (Nat.le_of_ble_eq_true rfl) rfl (Nat.le_of_ble_eq_true rfl) (C_Rd_takeLetter hq) ?_
      show jG E _ 28 [(0, (2, ((17 : Nat) : Int))), (1, (0, l2))] [(0, v5.1)] v5.2 _ _
      refine jT.if1 (st_Rd_takeRights) rfl (tgt := 46) (by decide) (fun hc => ?_) (fun hc => ?_)
      · have hc : v5.1 = 0 := hc
        try rw [if_pos hc] at hv
        refine jG.blk (st_Rd_takeRights) 1 (pc1 := 49) (L1 := [(1, (0, jadd l2 1)), (0, (2, ((17 : Nat) : Int)))]) (st1 := []) (h1 := v5.2) rfl ?_
        refine jT.goto (st_Rd_takeRights) rfl (tgt := 13) (by decide) ?_
        refine jG.subp [1, 0] (L1 := [(0, (2, ((17 : Nat) : Int))), (1, (0, jadd l2 1))]) rfl ?_
        exact ih _ _ _ hv
      · have hc : ¬ (v5.1 = 0) := hc
        try rw [if_neg hc] at hv
        refine jG.blk (st_Rd_takeRights) 10 (pc1 := 49) (L1 := [(1, (0, jadd l2 1)), (0, (2, ((17 : Nat) : Int)))]) (st1 := []) (h1 := jup v5.2 20 2 (jor (v5.2 20 2) (jshl 1 l2))) rfl ?_
        refine jT.goto (st_Rd_takeRights) rfl (tgt := 13) (by decide) ?_
        refine jG.subp [1, 0] (L1 := [(0, (2, ((17 : Nat) : Int))), (1, (0, jadd l2 1))]) rfl ?_
        exact ih _ _ _ hv
set_option maxRecDepth 100000 in
set_option maxHeartbeats 4000000 in
theorem C_Rd_takeRights {E : jE} {h : jH} {res : Int × jH} (hv : f_Rd_takeRights h = some res) : jC E M_Rd_takeRights [(2, ((17 : Nat) : Int))] h (some (0, res.1)) res.2 := by
  refine jC.of ok_Rd_takeRights.1 (by rw [jlg]; exact Nat.le_of_ble_eq_true rfl) ?_
  show jG E _ 0 [(0, (2, ((17 : Nat) : Int)))] [] h _ _
  unfold f_Rd_takeRights at hv
  refine jG.blk (st_Rd_takeRights) 2 (pc1 := 3) (L1 := [(0, (2, ((17 : Nat) : Int)))]) (st1 := [(0, 45), (2, ((17 : Nat) : Int))]) (h1 := h) rfl ?_
  obtain ⟨v1, hq, hv⟩ := Option.bind_eq_some_iff.mp hv
  refine jT.cV (M1 := M_Rd_takeLetter) (2, ((17 : Nat) : Int)) [(0, 45)] [] (st_Rd_takeRights) rfl rfl ok_Rd_takeLetter rfl (Or.inl ⟨rfl, _, _, _, rfl, rfl⟩) (Nat.le_of_ble_eq_true rfl) (Nat.le_of_ble_eq_true rfl) rfl (Nat.le_of_ble_eq_true rfl) (C_Rd_takeLetter hq) ?_
  show jG E _ 6 [(0, (2, ((17 : Nat) : Int)))] [(0, v1.1)] v1.2 _ _
  refine jT.if1 (st_Rd_takeRights) rfl (tgt := 11) (by decide) (fun hc => ?_) (fun hc => ?_)
  · have hc : v1.1 = 0 := hc
    try rw [if_pos hc] at hv
    refine jG.blk (st_Rd_takeRights) 2 (pc1 := 13) (L1 := [(1, (0, 0)), (0, (2, ((17 : Nat) : Int)))]) (st1 := []) (h1 := v1.2) rfl ?_
    refine jG.subp [1, 0] (L1 := [(0, (2, ((17 : Nat) : Int))), (1, (0, 0))]) rfl ?_
    refine f_Rd_takeRights_lp13_ok E (fun l6 h7 res hv => ?_) 1000 _ _ _ hv
    · refine jG.blk (st_Rd_takeRights) 3 (pc1 := 59) (L1 := [(0, (2, ((17 : Nat) : Int)))]) (st1 := [(0, h7 20 2)]) (h1 := h7) rfl ?_
      refine jT.if1 (st_Rd_takeRights) rfl (tgt := 66) (by decide) (fun hc => ?_) (fun hc => ?_)
      · have hc : h7 20 2 = 0 := hc
        try rw [if_pos hc] at hv
        refine jG.blk (st_Rd_takeRights) 1 (pc1 := 67) (L1 := [(0, (2, ((17 : Nat) : Int)))]) (st1 := [(0, 0)]) (h1 := h7) rfl ?_
        cases hv
        exact jT.iret (st_Rd_takeRights) rfl (Or.inl rfl)
      · have hc : ¬ (h7 20 2 = 0) := hc
        try rw [if_neg hc] at hv
        refine jG.blk (st_Rd_takeRights) 1 (pc1 := 63) (L1 := [(0, (2, ((17 : Nat) : Int)))]) (st1 := [(0, 1)]) (h1 := h7) rfl ?_
        refine jT.goto (st_Rd_takeRights) rfl (tgt := 67) (by decide) ?_
        cases hv
        exact jT.iret (st_Rd_takeRights) rfl (Or.inr rfl)
  · have hc : ¬ (v1.1 = 0) := hc
    try rw [if_neg hc] at hv
    refine jG.blk (st_Rd_takeRights) 1 (pc1 := 10) (L1 := [(0, (2, ((17 : Nat) : Int)))]) (st1 := [(0, 1)]) (h1 := v1.2) rfl ?_
    cases hv
    exact jT.iret (st_Rd_takeRights) rfl (Or.inr rfl)
def f_Rd_takePassed (h : jH) : Option (Int × jH) := (f_Rd_takeLetter h 45).bind fun v1 => if v1.1 = 0 then (f_Rd_letter v1.2).bind fun v2 => if v2 < 97 then some (0, v1.2) else (f_Rd_letter v1.2).bind fun v3 => if v3 ≤ 104 then (f_Rd_letter v1.2).bind fun v4 => (f_Rd_letter (jup (jup v1.2 20 3 (jsub v4 97)) 17 2 (jadd ((jup v1.2 20 3 (jsub v4 97)) 17 2) 1))).bind fun v5 => (f_Rd_takeLetter (jup (jup (jup v1.2 20 3 (jsub v4 97)) 17 2 (jadd ((jup v1.2 20 3 (jsub v4 97)) 17 2) 1)) 17 3 (jsub v5 49)) 51).bind fun v6 => if v6.1 = 0 then (f_Rd_takeLetter v6.2 54).bind fun v7 => some (if v7.1 = 0 then (0, v7.2) else (1, v7.2)) else some (1, v6.2) else some (0, v1.2) else some (1, v1.2)
set_option maxRecDepth 100000 in
set_option maxHeartbeats 4000000 in
theorem C_Rd_takePassed {E : jE} {h : jH} {res : Int × jH} (hv : f_Rd_takePassed h = some res) : jC E M_Rd_takePassed [(2, ((17 : Nat) : Int))] h (some (0, res.1)) res.2 := by
  refine jC.of ok_Rd_takePassed.1 (by rw [jlg]; exact Nat.le_of_ble_eq_true rfl) ?_
  show jG E _ 0 [(0, (2, ((17 : Nat) : Int)))] [] h _ _
  unfold f_Rd_takePassed at hv
  refine jG.blk (st_Rd_takePassed) 2 (pc1 := 3) (L1 := [(0, (2, ((17 : Nat) : Int)))]) (st1 := [(0, 45), (2, ((17 : Nat) : Int))]) (h1 := h) rfl ?_
  obtain ⟨v1, hq, hv⟩ := Option.bind_eq_some_iff.mp hv
  refine jT.cV (M1 := M_Rd_takeLetter) (2, ((17 : Nat) : Int)) [(0, 45)] [] (st_Rd_takePassed) rfl rfl ok_Rd_takeLetter rfl (Or.inl ⟨rfl, _, _, _, rfl, rfl⟩) (Nat.le_of_ble_eq_true rfl) (Nat.le_of_ble_eq_true rfl) rfl (Nat.le_of_ble_eq_true rfl) (C_Rd_takeLetter hq) ?_
  show jG E _ 6 [(0, (2, ((17 : Nat) : Int)))] [(0, v1.1)] v1.2 _ _
  refine jT.if1 (st_Rd_takePassed) rfl (tgt := 11) (by decide) (fun hc => ?_) (fun hc => ?_)
  · have hc : v1.1 = 0 := hc
    try rw [if_pos hc] at hv
    refine jG.blk (st_Rd_takePassed) 1 (pc1 := 12) (L1 := [(0, (2, ((17 : Nat) : Int)))]) (st1 := [(2, ((17 : Nat) : Int))]) (h1 := v1.2) rfl ?_
    obtain ⟨v2, hq, hv⟩ := Option.bind_eq_some_iff.mp hv
    refine jT.cV (M1 := M_Rd_letter) (2, ((17 : Nat) : Int)) [] [] (st_Rd_takePassed) rfl rfl ok_Rd_letter rfl (Or.inl ⟨rfl, _, _, _, rfl, rfl⟩) (Nat.le_of_ble_eq_true rfl) (Nat.le_of_ble_eq_true rfl) rfl (Nat.le_of_ble_eq_true rfl) (C_Rd_letter hq) ?_
    show jG E _ 15 [(0, (2, ((17 : Nat) : Int)))] [(0, v2)] v1.2 _ _
    refine jG.blk (st_Rd_takePassed) 1 (pc1 := 17) (L1 := [(0, (2, ((17 : Nat) : Int)))]) (st1 := [(0, 97), (0, v2)]) (h1 := v1.2) rfl ?_
    refine jT.if2 (st_Rd_takePassed) rfl (tgt := 29) (by decide) (fun hc => ?_) (fun hc => ?_)
    · have hc : v2 < 97 := hc
      try rw [if_pos hc] at hv
      refine jG.blk (st_Rd_takePassed) 1 (pc1 := 30) (L1 := [(0, (2, ((17 : Nat) : Int)))]) (st1 := [(0, 0)]) (h1 := v1.2) rfl ?_
      cases hv
      exact jT.iret (st_Rd_takePassed) rfl (Or.inl rfl)
    · have hc : ¬ (v2 < 97) := hc
      try rw [if_neg hc] at hv
      refine jG.blk (st_Rd_takePassed) 1 (pc1 := 21) (L1 := [(0, (2, ((17 : Nat) : Int)))]) (st1 := [(2, ((17 : Nat) : Int))]) (h1 := v1.2) rfl ?_
      obtain ⟨v3, hq, hv⟩ := Option.bind_eq_some_iff.mp hv
      refine jT.cV (M1 := M_Rd_letter) (2, ((17 : Nat) : Int)) [] [] (st_Rd_takePassed) rfl rfl ok_Rd_letter rfl (Or.inl ⟨rfl, _, _, _, rfl, rfl⟩) (Nat.le_of_ble_eq_true rfl) (Nat.le_of_ble_eq_true rfl) rfl (Nat.le_of_ble_eq_true rfl) (C_Rd_letter hq) ?_
      show jG E _ 24 [(0, (2, ((17 : Nat) : Int)))] [(0, v3)] v1.2 _ _
      refine jG.blk (st_Rd_takePassed) 1 (pc1 := 26) (L1 := [(0, (2, ((17 : Nat) : Int)))]) (st1 := [(0, 104), (0, v3)]) (h1 := v1.2) rfl ?_
      refine jT.if2 (st_Rd_takePassed) rfl (tgt := 31) (by decide) (fun hc => ?_) (fun hc => ?_)
      · have hc : v3 ≤ 104 := hc
        try rw [if_pos hc] at hv
        refine jG.blk (st_Rd_takePassed) 3 (pc1 := 36) (L1 := [(0, (2, ((17 : Nat) : Int)))]) (st1 := [(2, ((17 : Nat) : Int)), (2, ((20 : Nat) : Int))]) (h1 := v1.2) rfl ?_
        obtain ⟨v4, hq, hv⟩ := Option.bind_eq_some_iff.mp hv
        refine jT.cV (M1 := M_Rd_letter) (2, ((17 : Nat) : Int)) [] [(2, ((20 : Nat) : Int))] (st_Rd_takePassed) rfl rfl ok_Rd_letter rfl (Or.inl ⟨rfl, _, _, _, rfl, rfl⟩) (Nat.le_of_ble_eq_true rfl) (Nat.le_of_ble_eq_true rfl) rfl (Nat.le_of_ble_eq_true rfl) (C_Rd_letter hq) ?_
        show jG E _ 39 [(0, (2, ((17 : Nat) : Int)))] [(0, v4), (2, ((20 : Nat) : Int))] v1.2 _ _
        refine jG.blk (st_Rd_takePassed) 11 (pc1 := 57) (L1 := [(0, (2, ((17 : Nat) : Int)))]) (st1 := [(2, ((17 : Nat) : Int)), (2, ((17 : Nat) : Int))]) (h1 := jup (jup v1.2 20 3 (jsub v4 97)) 17 2 (jadd ((jup v1.2 20 3 (jsub v4 97)) 17 2) 1)) rfl ?_
        obtain ⟨v5, hq, hv⟩ := Option.bind_eq_some_iff.mp hv
        refine jT.cV (M1 := M_Rd_letter) (2, ((17 : Nat) : Int)) [] [(2, ((17 : Nat) : Int))] (st_Rd_takePassed) rfl rfl ok_Rd_letter rfl (Or.inl ⟨rfl, _, _, _, rfl, rfl⟩) (Nat.le_of_ble_eq_true rfl) (Nat.le_of_ble_eq_true rfl) rfl (Nat.le_of_ble_eq_true rfl) (C_Rd_letter hq) ?_
        show jG E _ 60 [(0, (2, ((17 : Nat) : Int)))] [(0, v5), (2, ((17 : Nat) : Int))] (jup (jup v1.2 20 3 (jsub v4 97)) 17 2 (jadd ((jup v1.2 20 3 (jsub v4 97)) 17 2) 1)) _ _
        refine jG.blk (st_Rd_takePassed) 5 (pc1 := 69) (L1 := [(0, (2, ((17 : Nat) : Int)))]) (st1 := [(0, 51), (2, ((17 : Nat) : Int))]) (h1 := jup (jup (jup v1.2 20 3 (jsub v4 97)) 17 2 (jadd ((jup v1.2 20 3 (jsub v4 97)) 17 2) 1)) 17 3 (jsub v5 49)) rfl ?_
        obtain ⟨v6, hq, hv⟩ := Option.bind_eq_some_iff.mp hv
        refine jT.cV (M1 := M_Rd_takeLetter) (2, ((17 : Nat) : Int)) [(0, 51)] [] (st_Rd_takePassed) rfl rfl ok_Rd_takeLetter rfl (Or.inl ⟨rfl, _, _, _, rfl, rfl⟩) (Nat.le_of_ble_eq_true rfl) (Nat.le_of_ble_eq_true rfl) rfl (Nat.le_of_ble_eq_true rfl) (C_Rd_takeLetter hq) ?_
        show jG E _ 72 [(0, (2, ((17 : Nat) : Int)))] [(0, v6.1)] v6.2 _ _
        refine jT.if1 (st_Rd_takePassed) rfl (tgt := 84) (by decide) (fun hc => ?_) (fun hc => ?_)
        · have hc : ¬ (v6.1 = 0) := hc
          try rw [if_neg hc] at hv
          refine jG.blk (st_Rd_takePassed) 1 (pc1 := 85) (L1 := [(0, (2, ((17 : Nat) : Int)))]) (st1 := [(0, 1)]) (h1 := v6.2) rfl ?_
          refine jT.goto (st_Rd_takePassed) rfl (tgt := 89) (by decide) ?_
          cases hv
          exact jT.iret (st_Rd_takePassed) rfl (Or.inr rfl)
        · have hc : v6.1 = 0 := Decidable.not_not.mp hc
          try rw [if_pos hc] at hv
          refine jG.blk (st_Rd_takePassed) 2 (pc1 := 78) (L1 := [(0, (2, ((17 : Nat) : Int)))]) (st1 := [(0, 54), (2, ((17 : Nat) : Int))]) (h1 := v6.2) rfl ?_
          obtain ⟨v7, hq, hv⟩ := Option.bind_eq_some_iff.mp hv
          refine jT.cV (M1 := M_Rd_takeLetter) (2, ((17 : Nat) : Int)) [(0, 54)] [] (st_Rd_takePassed) rfl rfl ok_Rd_takeLetter rfl (Or.inl ⟨rfl, _, _, _, rfl, rfl⟩) (Nat.le_of_ble_eq_true rfl) (Nat.le_of_ble_eq_true rfl) rfl (Nat.le_of_ble_eq_true rfl) (C_Rd_takeLetter hq) ?_
          show jG E _ 81 [(0, (2, ((17 : Nat) : Int)))] [(0, v7.1)] v7.2 _ _
          refine jT.if1 (st_Rd_takePassed) rfl (tgt := 88) (by decide) (fun hc => ?_) (fun hc => ?_)
          · have hc : v7.1 = 0 := hc
            try rw [if_pos hc] at hv
            refine jG.blk (st_Rd_takePassed) 1 (pc1 := 89) (L1 := [(0, (2, ((17 : Nat) : Int)))]) (st1 := [(0, 0)]) (h1 := v7.2) rfl ?_
            cases hv
            exact jT.iret (st_Rd_takePassed) rfl (Or.inl rfl)
          · have hc : ¬ (v7.1 = 0) := hc
            try rw [if_neg hc] at hv
            refine jG.blk (st_Rd_takePassed) 1 (pc1 := 85) (L1 := [(0, (2, ((17 : Nat) : Int)))]) (st1 := [(0, 1)]) (h1 := v7.2) rfl ?_
            refine jT.goto (st_Rd_takePassed) rfl (tgt := 89) (by decide) ?_
            cases hv
            exact jT.iret (st_Rd_takePassed) rfl (Or.inr rfl)
      · have hc : ¬ (v3 ≤ 104) := hc
        try rw [if_neg hc] at hv
        refine jG.blk (st_Rd_takePassed) 1 (pc1 := 30) (L1 := [(0, (2, ((17 : Nat) : Int)))]) (st1 := [(0, 0)]) (h1 := v1.2) rfl ?_
        cases hv
        exact jT.iret (st_Rd_takePassed) rfl (Or.inl rfl)
  · have hc : ¬ (v1.1 = 0) := hc
    try rw [if_neg hc] at hv
    refine jG.blk (st_Rd_takePassed) 1 (pc1 := 10) (L1 := [(0, (2, ((17 : Nat) : Int)))]) (st1 := [(0, 1)]) (h1 := v1.2) rfl ?_
    cases hv
    exact jT.iret (st_Rd_takePassed) rfl (Or.inr rfl)
def f_Rd_takeCount_lp13 (k : Int → jH → Option (Int × jH)) : Nat → Int → jH → Option (Int × jH)
  | 0, _, _ => none
  | n + 1, l2, h3 => if 3 ≤ l2 then k l2 h3 else (f_Rd_letter h3).bind fun v4 => if v4 < 48 then k l2 h3 else (f_Rd_letter h3).bind fun v5 => if 57 < v5 then k l2 h3 else (f_Rd_letter h3).bind fun v6 => f_Rd_takeCount_lp13 k n (jadd l2 1) (jup (jup h3 20 4 (jsub (jadd (jmul 10 (h3 20 4)) v6) 48)) 17 2 (jadd ((jup h3 20 4 (jsub (jadd (jmul 10 (h3 20 4)) v6) 48)) 17 2) 1))
def f_Rd_takeCount_j77 (h10 : jH) (l9 : Int) : Option (Int × jH) := some (if l9 ≤ 0 then (0, h10) else (1, h10))
def f_Rd_takeCount (h : jH) : Option (Int × jH) := (f_Rd_takeLetter h 48).bind fun v1 => if v1.1 = 0 then f_Rd_takeCount_lp13 (fun l7 h8 => f_Rd_takeCount_j77 h8 l7) 1000 0 v1.2 else some (1, v1.2)
set_option maxRecDepth 100000 in
set_option maxHeartbeats 4000000 in
theorem f_Rd_takeCount_lp13_ok (E : jE) {k : Int → jH → Option (Int × jH)} (hk : ∀ (l2 : Int) (h3 : jH) (res : Int × jH), k l2 h3 = some res → jG E M_Rd_takeCount 77 [(1, (0, l2))] [] h3 (some (0, res.1)) res.2) : ∀ (n : Nat) (l2 : Int) (h3 : jH) (res : Int × jH), f_Rd_takeCount_lp13 k n l2 h3 = some res → jG E M_Rd_takeCount 13 [(0, (2, ((17 : Nat) : Int))), (1, (0, l2))] [] h3 (some (0, res.1)) res.2 := by
  intro n
  induction n with
  | zero => intro l2 h3 res hv; cases hv
  | succ n ih =>
    intro l2 h3 res hv
    rw [f_Rd_takeCount_lp13] at hv
    refine jG.blk (st_Rd_takeCount) 2 (pc1 := 15) (L1 := [(0, (2, ((17 : Nat) : Int))), (1, (0, l2))]) (st1 := [(0, 3), (0, l2)]) (h1 := h3) rfl ?_
    refine jT.if2 (st_Rd_takeCount) rfl (tgt := 77) (by decide) (fun hc => ?_) (fun hc => ?_)
    · have hc : 3 ≤ l2 := hc
      try rw [if_pos hc] at hv
      refine jG.subp [1] (L1 := [(1, (0, l2))]) rfl ?_
      exact hk _ _ _ hv
    · have hc : ¬ (3 ≤ l2) := hc
      try rw [if_neg hc] at hv
      refine jG.blk (st_Rd_takeCount) 1 (pc1 := 19) (L1 := [(0, (2, ((17 : Nat) : Int))), (1, (0, l2))]) (st1 := [(2, ((17 : Nat) : Int))]) (h1 := h3) rfl ?_
      obtain ⟨v4, hq, hv⟩ := Option.bind_eq_some_iff.mp hv
      refine jT.cV (M1 := M_Rd_letter) (2, ((17 : Nat) : Int)) [] [] (st_Rd_takeCount) rfl rfl ok_Rd_letter rfl (Or.inl ⟨rfl, _, _, _, rfl, rfl⟩) (Nat.le_of_ble_eq_true rfl) (Nat.le_of_ble_eq_true rfl) rfl (Nat.le_of_ble_eq_true rfl) (C_Rd_letter hq) ?_
      show jG E _ 22 [(0, (2, ((17 : Nat) : Int))), (1, (0, l2))] [(0, v4)] h3 _ _
      refine jG.blk (st_Rd_takeCount) 1 (pc1 := 24) (L1 := [(0, (2, ((17 : Nat) : Int))), (1, (0, l2))]) (st1 := [(0, 48), (0, v4)]) (h1 := h3) rfl ?_
      refine jT.if2 (st_Rd_takeCount) rfl (tgt := 77) (by decide) (fun hc => ?_) (fun hc => ?_)
      · have hc : v4 < 48 := hc
        try rw [if_pos hc] at hv
        refine jG.subp [1] (L1 := [(1, (0, l2))]) rfl ?_
        exact hk _ _ _ hv
      · have hc : ¬ (v4 < 48) := hc
        try rw [if_neg hc] at hv
        refine jG.blk (st_Rd_takeCount) 1 (pc1 := 28) (L1 := [(0, (2, ((17 : Nat) : Int))), (1, (0, l2))]) (st1 := [(2, ((17 : Nat) : Int))]) (h1 := h3) rfl ?_
        obtain ⟨v5, hq, hv⟩ := Option.bind_eq_some_iff.mp hv
        refine jT.cV (M1 := M_Rd_letter) (2, ((17 : Nat) : Int)) [] [] (st_Rd_takeCount) rfl rfl ok_Rd_letter rfl (Or.inl ⟨rfl, _, _, _, rfl, rfl⟩) (Nat.le_of_ble_eq_true rfl) (Nat.le_of_ble_eq_true rfl) rfl (Nat.le_of_ble_eq_true rfl) (C_Rd_letter hq) ?_
        show jG E _ 31 [(0, (2, ((17 : Nat) : Int))), (1, (0, l2))] [(0, v5)] h3 _ _
        refine jG.blk (st_Rd_takeCount) 1 (pc1 := 33) (L1 := [(0, (2, ((17 : Nat) : Int))), (1, (0, l2))]) (st1 := [(0, 57), (0, v5)]) (h1 := h3) rfl ?_
        refine jT.if2 (st_Rd_takeCount) rfl (tgt := 77) (by decide) (fun hc => ?_) (fun hc => ?_)
        · have hc : 57 < v5 := hc
          try rw [if_pos hc] at hv
          refine jG.subp [1] (L1 := [(1, (0, l2))]) rfl ?_
          exact hk _ _ _ hv
        · have hc : ¬ (57 < v5) := hc
          try rw [if_neg hc] at hv
          refine jG.blk (st_Rd_takeCount) 8 (pc1 := 51) (L1 := [(0, (2, ((17 : Nat) : Int))), (1, (0, l2))]) (st1 := [(2, ((17 : Nat) : Int)), (0, jmul 10 (h3 20 4)), (2, ((20 : Nat) : Int))]) (h1 := h3) rfl ?_
          obtain ⟨v6, hq, hv⟩ := Option.bind_eq_some_iff.mp hv
          refine jT.cV (M1 := M_Rd_letter) (2, ((17 : Nat) : Int)) [] [(0, jmul 10 (h3 20 4)), (2, ((20 : Nat) : Int))] (st_Rd_takeCount) rfl rfl ok_Rd_letter rfl (Or.inl ⟨rfl, _, _, _, rfl, rfl⟩) (Nat.le_of_ble_eq_true rfl) (Nat.le_of_ble_eq_true rfl) rfl (Nat.le_of_ble_eq_true rfl) (C_Rd_letter hq) ?_
          show jG E _ 54 [(0, (2, ((17 : Nat) : Int))), (1, (0, l2))] [(0, v6), (0, jmul 10 (h3 20 4)), (2, ((20 : Nat) : Int))] h3 _ _
          refine jG.blk (st_Rd_takeCount) 11 (pc1 := 74) (L1 := [(1, (0, jadd l2 1)), (0, (2, ((17 : Nat) : Int)))]) (st1 := []) (h1 := jup (jup h3 20 4 (jsub (jadd (jmul 10 (h3 20 4)) v6) 48)) 17 2 (jadd ((jup h3 20 4 (jsub (jadd (jmul 10 (h3 20 4)) v6) 48)) 17 2) 1)) rfl ?_
          refine jT.goto (st_Rd_takeCount) rfl (tgt := 13) (by decide) ?_
          refine jG.subp [1, 0] (L1 := [(0, (2, ((17 : Nat) : Int))), (1, (0, jadd l2 1))]) rfl ?_
          exact ih _ _ _ hv
set_option maxRecDepth 100000 in
set_option maxHeartbeats 4000000 in
theorem f_Rd_takeCount_j77_ok (E : jE) {h10 : jH} {l9 : Int} {res : Int × jH} (hv : f_Rd_takeCount_j77 h10 l9 = some res) : jG E M_Rd_takeCount 77 [(1, (0, l9))] [] h10 (some (0, res.1)) res.2 := by
  unfold f_Rd_takeCount_j77 at hv
  refine jG.blk (st_Rd_takeCount) 1 (pc1 := 78) (L1 := [(1, (0, l9))]) (st1 := [(0, l9)]) (h1 := h10) rfl ?_
  refine jT.if1 (st_Rd_takeCount) rfl (tgt := 85) (by decide) (fun hc => ?_) (fun hc => ?_)
  · have hc : l9 ≤ 0 := hc
    try rw [if_pos hc] at hv
    refine jG.blk (st_Rd_takeCount) 1 (pc1 := 86) (L1 := [(1, (0, l9))]) (st1 := [(0, 0)]) (h1 := h10) rfl ?_
    cases hv
    exact jT.iret (st_Rd_takeCount) rfl (Or.inl rfl)
  · have hc : ¬ (l9 ≤ 0) := hc
    try rw [if_neg hc] at hv
    refine jG.blk (st_Rd_takeCount) 1 (pc1 := 82) (L1 := [(1, (0, l9))]) (st1 := [(0, 1)]) (h1 := h10) rfl ?_
    refine jT.goto (st_Rd_takeCount) rfl (tgt := 86) (by decide) ?_
    cases hv
    exact jT.iret (st_Rd_takeCount) rfl (Or.inr rfl)
set_option maxRecDepth 100000 in
set_option maxHeartbeats 4000000 in
theorem C_Rd_takeCount {E : jE} {h : jH} {res : Int × jH} (hv : f_Rd_takeCount h = some res) : jC E M_Rd_takeCount [(2, ((17 : Nat) : Int))] h (some (0, res.1)) res.2 := by
  refine jC.of ok_Rd_takeCount.1 (by rw [jlg]; exact Nat.le_of_ble_eq_true rfl) ?_
  show jG E _ 0 [(0, (2, ((17 : Nat) : Int)))] [] h _ _
  unfold f_Rd_takeCount at hv
  refine jG.blk (st_Rd_takeCount) 2 (pc1 := 3) (L1 := [(0, (2, ((17 : Nat) : Int)))]) (st1 := [(0, 48), (2, ((17 : Nat) : Int))]) (h1 := h) rfl ?_
  obtain ⟨v1, hq, hv⟩ := Option.bind_eq_some_iff.mp hv
  refine jT.cV (M1 := M_Rd_takeLetter) (2, ((17 : Nat) : Int)) [(0, 48)] [] (st_Rd_takeCount) rfl rfl ok_Rd_takeLetter rfl (Or.inl ⟨rfl, _, _, _, rfl, rfl⟩) (Nat.le_of_ble_eq_true rfl) (Nat.le_of_ble_eq_true rfl) rfl (Nat.le_of_ble_eq_true rfl) (C_Rd_takeLetter hq) ?_
  show jG E _ 6 [(0, (2, ((17 : Nat) : Int)))] [(0, v1.1)] v1.2 _ _
  refine jT.if1 (st_Rd_takeCount) rfl (tgt := 11) (by decide) (fun hc => ?_) (fun hc => ?_)
  · have hc : v1.1 = 0 := hc
    try rw [if_pos hc] at hv
    refine jG.blk (st_Rd_takeCount) 2 (pc1 := 13) (L1 := [(1, (0, 0)), (0, (2, ((17 : Nat) : Int)))]) (st1 := []) (h1 := v1.2) rfl ?_
    refine jG.subp [1, 0] (L1 := [(0, (2, ((17 : Nat) : Int))), (1, (0, 0))]) rfl ?_
    refine f_Rd_takeCount_lp13_ok E (fun l7 h8 res hv => ?_) 1000 _ _ _ hv
    · exact f_Rd_takeCount_j77_ok E hv
  · have hc : ¬ (v1.1 = 0) := hc
    try rw [if_neg hc] at hv
    refine jG.blk (st_Rd_takeCount) 1 (pc1 := 10) (L1 := [(0, (2, ((17 : Nat) : Int)))]) (st1 := [(0, 1)]) (h1 := v1.2) rfl ?_
    cases hv
    exact jT.iret (st_Rd_takeCount) rfl (Or.inr rfl)
def f_Rd_parse_j101 (h5 : jH) (s4 : Int) : Option (Int × jH) := some (if s4 = 0 then (jadd (h5 17 2) 1, h5) else (0, h5))
def f_Rd_parse_j100 (h3 : jH) : Option (Int × jH) := f_Rd_parse_j101 h3 0
def f_Rd_parse (h : jH) : Option (Int × jH) := (f_Bd_wipe 20 h).bind fun v1 => (f_Rd_takeSquares (jup (jup v1 17 2 0) 17 3 (-1))).bind fun v2 => if v2.1 = 0 then f_Rd_parse_j100 v2.2 else (f_Rd_takeLetter v2.2 32).bind fun v6 => if v6.1 = 0 then f_Rd_parse_j100 v6.2 else (f_Rd_takeSide v6.2).bind fun v7 => if v7.1 = 0 then f_Rd_parse_j100 v7.2 else (f_Rd_takeLetter v7.2 32).bind fun v8 => if v8.1 = 0 then f_Rd_parse_j100 v8.2 else (f_Rd_takeRights v8.2).bind fun v9 => if v9.1 = 0 then f_Rd_parse_j100 v9.2 else (f_Rd_takeLetter v9.2 32).bind fun v10 => if v10.1 = 0 then f_Rd_parse_j100 v10.2 else (f_Rd_takePassed v10.2).bind fun v11 => if v11.1 = 0 then f_Rd_parse_j100 v11.2 else (f_Rd_takeLetter v11.2 32).bind fun v12 => if v12.1 = 0 then f_Rd_parse_j100 v12.2 else (f_Rd_takeCount v12.2).bind fun v13 => if v13.1 = 0 then f_Rd_parse_j100 v13.2 else (f_Rd_letter v13.2).bind fun v14 => if v14 = (-1) then f_Rd_parse_j101 v13.2 1 else f_Rd_parse_j100 v13.2
set_option maxRecDepth 100000 in
set_option maxHeartbeats 4000000 in
theorem f_Rd_parse_j101_ok (E : jE) {h5 : jH} {s4 : Int} {res : Int × jH} (hv : f_Rd_parse_j101 h5 s4 = some res) : jG E M_Rd_parse 101 [(0, (2, ((17 : Nat) : Int)))] [(0, s4)] h5 (some (0, res.1)) res.2 := by
  unfold f_Rd_parse_j101 at hv
  refine jG.blk (st_Rd_parse) 2 (pc1 := 103) (L1 := [(1, (0, s4)), (0, (2, ((17 : Nat) : Int)))]) (st1 := [(0, s4)]) (h1 := h5) rfl ?_
  refine jT.if1 (st_Rd_parse) rfl (tgt := 110) (by decide) (fun hc => ?_) (fun hc => ?_)
  · have hc : s4 = 0 := hc
    try rw [if_pos hc] at hv
    refine jG.blk (st_Rd_parse) 4 (pc1 := 116) (L1 := [(1, (0, s4)), (0, (2, ((17 : Nat) : Int)))]) (st1 := [(0, jadd (h5 17 2) 1)]) (h1 := h5) rfl ?_
    cases hv
    exact jT.iret (st_Rd_parse) rfl trivial
  · have hc : ¬ (s4 = 0) := hc
    try rw [if_neg hc] at hv
    refine jG.blk (st_Rd_parse) 1 (pc1 := 107) (L1 := [(1, (0, s4)), (0, (2, ((17 : Nat) : Int)))]) (st1 := [(0, 0)]) (h1 := h5) rfl ?_
    refine jT.goto (st_Rd_parse) rfl (tgt := 116) (by decide) ?_
    cases hv
    exact jT.iret (st_Rd_parse) rfl trivial
set_option maxRecDepth 100000 in
set_option maxHeartbeats 4000000 in
theorem f_Rd_parse_j100_ok (E : jE) {h3 : jH} {res : Int × jH} (hv : f_Rd_parse_j100 h3 = some res) : jG E M_Rd_parse 100 [(0, (2, ((17 : Nat) : Int)))] [] h3 (some (0, res.1)) res.2 := by
  unfold f_Rd_parse_j100 at hv
  refine jG.blk (st_Rd_parse) 1 (pc1 := 101) (L1 := [(0, (2, ((17 : Nat) : Int)))]) (st1 := [(0, 0)]) (h1 := h3) rfl ?_
  exact f_Rd_parse_j101_ok E hv
set_option maxRecDepth 100000 in
set_option maxHeartbeats 4000000 in
theorem C_Rd_parse {E : jE} {h : jH} {res : Int × jH} (hv : f_Rd_parse h = some res) : jC E M_Rd_parse [(2, ((17 : Nat) : Int))] h (some (0, res.1)) res.2 := by
  refine jC.of ok_Rd_parse.1 (by rw [jlg]; exact Nat.le_of_ble_eq_true rfl) ?_
  show jG E _ 0 [(0, (2, ((17 : Nat) : Int)))] [] h _ _
  unfold f_Rd_parse at hv
  refine jG.blk (st_Rd_parse) 2 (pc1 := 4) (L1 := [(0, (2, ((17 : Nat) : Int)))]) (st1 := [(2, ((20 : Nat) : Int))]) (h1 := h) rfl ?_
  obtain ⟨v1, hq, hv⟩ := Option.bind_eq_some_iff.mp hv
  refine jT.cV (M1 := M_Bd_wipe) (2, ((20 : Nat) : Int)) [] [] (st_Rd_parse) rfl rfl ok_Bd_wipe rfl (Or.inl ⟨rfl, _, _, _, rfl, rfl⟩) (Nat.le_of_ble_eq_true rfl) (Nat.le_of_ble_eq_true rfl) rfl (Nat.le_of_ble_eq_true rfl) (C_Bd_wipe (by decide) hq) ?_
  show jG E _ 7 [(0, (2, ((17 : Nat) : Int)))] [] v1 _ _
  refine jG.blk (st_Rd_parse) 7 (pc1 := 18) (L1 := [(0, (2, ((17 : Nat) : Int)))]) (st1 := [(2, ((17 : Nat) : Int))]) (h1 := jup (jup v1 17 2 0) 17 3 (-1)) rfl ?_
  obtain ⟨v2, hq, hv⟩ := Option.bind_eq_some_iff.mp hv
  refine jT.cV (M1 := M_Rd_takeSquares) (2, ((17 : Nat) : Int)) [] [] (st_Rd_parse) rfl rfl ok_Rd_takeSquares rfl (Or.inl ⟨rfl, _, _, _, rfl, rfl⟩) (Nat.le_of_ble_eq_true rfl) (Nat.le_of_ble_eq_true rfl) rfl (Nat.le_of_ble_eq_true rfl) (C_Rd_takeSquares hq) ?_
  show jG E _ 21 [(0, (2, ((17 : Nat) : Int)))] [(0, v2.1)] v2.2 _ _
  refine jT.if1 (st_Rd_parse) rfl (tgt := 100) (by decide) (fun hc => ?_) (fun hc => ?_)
  · have hc : v2.1 = 0 := hc
    try rw [if_pos hc] at hv
    exact f_Rd_parse_j100_ok E hv
  · have hc : ¬ (v2.1 = 0) := hc
    try rw [if_neg hc] at hv
    refine jG.blk (st_Rd_parse) 2 (pc1 := 27) (L1 := [(0, (2, ((17 : Nat) : Int)))]) (st1 := [(0, 32), (2, ((17 : Nat) : Int))]) (h1 := v2.2) rfl ?_
    obtain ⟨v6, hq, hv⟩ := Option.bind_eq_some_iff.mp hv
    refine jT.cV (M1 := M_Rd_takeLetter) (2, ((17 : Nat) : Int)) [(0, 32)] [] (st_Rd_parse) rfl rfl ok_Rd_takeLetter rfl (Or.inl ⟨rfl, _, _, _, rfl, rfl⟩) (Nat.le_of_ble_eq_true rfl) (Nat.le_of_ble_eq_true rfl) rfl (Nat.le_of_ble_eq_true rfl) (C_Rd_takeLetter hq) ?_
    show jG E _ 30 [(0, (2, ((17 : Nat) : Int)))] [(0, v6.1)] v6.2 _ _
    refine jT.if1 (st_Rd_parse) rfl (tgt := 100) (by decide) (fun hc => ?_) (fun hc => ?_)
    · have hc : v6.1 = 0 := hc
      try rw [if_pos hc] at hv
      exact f_Rd_parse_j100_ok E hv
    · have hc : ¬ (v6.1 = 0) := hc
      try rw [if_neg hc] at hv
      refine jG.blk (st_Rd_parse) 1 (pc1 := 34) (L1 := [(0, (2, ((17 : Nat) : Int)))]) (st1 := [(2, ((17 : Nat) : Int))]) (h1 := v6.2) rfl ?_
      obtain ⟨v7, hq, hv⟩ := Option.bind_eq_some_iff.mp hv
      refine jT.cV (M1 := M_Rd_takeSide) (2, ((17 : Nat) : Int)) [] [] (st_Rd_parse) rfl rfl ok_Rd_takeSide rfl (Or.inl ⟨rfl, _, _, _, rfl, rfl⟩) (Nat.le_of_ble_eq_true rfl) (Nat.le_of_ble_eq_true rfl) rfl (Nat.le_of_ble_eq_true rfl) (C_Rd_takeSide hq) ?_
      show jG E _ 37 [(0, (2, ((17 : Nat) : Int)))] [(0, v7.1)] v7.2 _ _
      refine jT.if1 (st_Rd_parse) rfl (tgt := 100) (by decide) (fun hc => ?_) (fun hc => ?_)
      · have hc : v7.1 = 0 := hc
        try rw [if_pos hc] at hv
        exact f_Rd_parse_j100_ok E hv
      · have hc : ¬ (v7.1 = 0) := hc
        try rw [if_neg hc] at hv
        refine jG.blk (st_Rd_parse) 2 (pc1 := 43) (L1 := [(0, (2, ((17 : Nat) : Int)))]) (st1 := [(0, 32), (2, ((17 : Nat) : Int))]) (h1 := v7.2) rfl ?_
        obtain ⟨v8, hq, hv⟩ := Option.bind_eq_some_iff.mp hv
        refine jT.cV (M1 := M_Rd_takeLetter) (2, ((17 : Nat) : Int)) [(0, 32)] [] (st_Rd_parse) rfl rfl ok_Rd_takeLetter rfl (Or.inl ⟨rfl, _, _, _, rfl, rfl⟩) (Nat.le_of_ble_eq_true rfl) (Nat.le_of_ble_eq_true rfl) rfl (Nat.le_of_ble_eq_true rfl) (C_Rd_takeLetter hq) ?_
        show jG E _ 46 [(0, (2, ((17 : Nat) : Int)))] [(0, v8.1)] v8.2 _ _
        refine jT.if1 (st_Rd_parse) rfl (tgt := 100) (by decide) (fun hc => ?_) (fun hc => ?_)
        · have hc : v8.1 = 0 := hc
          try rw [if_pos hc] at hv
          exact f_Rd_parse_j100_ok E hv
        · have hc : ¬ (v8.1 = 0) := hc
          try rw [if_neg hc] at hv
          refine jG.blk (st_Rd_parse) 1 (pc1 := 50) (L1 := [(0, (2, ((17 : Nat) : Int)))]) (st1 := [(2, ((17 : Nat) : Int))]) (h1 := v8.2) rfl ?_
          obtain ⟨v9, hq, hv⟩ := Option.bind_eq_some_iff.mp hv
          refine jT.cV (M1 := M_Rd_takeRights) (2, ((17 : Nat) : Int)) [] [] (st_Rd_parse) rfl rfl ok_Rd_takeRights rfl (Or.inl ⟨rfl, _, _, _, rfl, rfl⟩) (Nat.le_of_ble_eq_true rfl) (Nat.le_of_ble_eq_true rfl) rfl (Nat.le_of_ble_eq_true rfl) (C_Rd_takeRights hq) ?_
          show jG E _ 53 [(0, (2, ((17 : Nat) : Int)))] [(0, v9.1)] v9.2 _ _
          refine jT.if1 (st_Rd_parse) rfl (tgt := 100) (by decide) (fun hc => ?_) (fun hc => ?_)
          · have hc : v9.1 = 0 := hc
            try rw [if_pos hc] at hv
            exact f_Rd_parse_j100_ok E hv
          · have hc : ¬ (v9.1 = 0) := hc
            try rw [if_neg hc] at hv
            refine jG.blk (st_Rd_parse) 2 (pc1 := 59) (L1 := [(0, (2, ((17 : Nat) : Int)))]) (st1 := [(0, 32), (2, ((17 : Nat) : Int))]) (h1 := v9.2) rfl ?_
            obtain ⟨v10, hq, hv⟩ := Option.bind_eq_some_iff.mp hv
            refine jT.cV (M1 := M_Rd_takeLetter) (2, ((17 : Nat) : Int)) [(0, 32)] [] (st_Rd_parse) rfl rfl ok_Rd_takeLetter rfl (Or.inl ⟨rfl, _, _, _, rfl, rfl⟩) (Nat.le_of_ble_eq_true rfl) (Nat.le_of_ble_eq_true rfl) rfl (Nat.le_of_ble_eq_true rfl) (C_Rd_takeLetter hq) ?_
            show jG E _ 62 [(0, (2, ((17 : Nat) : Int)))] [(0, v10.1)] v10.2 _ _
            refine jT.if1 (st_Rd_parse) rfl (tgt := 100) (by decide) (fun hc => ?_) (fun hc => ?_)
            · have hc : v10.1 = 0 := hc
              try rw [if_pos hc] at hv
              exact f_Rd_parse_j100_ok E hv
            · have hc : ¬ (v10.1 = 0) := hc
              try rw [if_neg hc] at hv
              refine jG.blk (st_Rd_parse) 1 (pc1 := 66) (L1 := [(0, (2, ((17 : Nat) : Int)))]) (st1 := [(2, ((17 : Nat) : Int))]) (h1 := v10.2) rfl ?_
              obtain ⟨v11, hq, hv⟩ := Option.bind_eq_some_iff.mp hv
              refine jT.cV (M1 := M_Rd_takePassed) (2, ((17 : Nat) : Int)) [] [] (st_Rd_parse) rfl rfl ok_Rd_takePassed rfl (Or.inl ⟨rfl, _, _, _, rfl, rfl⟩) (Nat.le_of_ble_eq_true rfl) (Nat.le_of_ble_eq_true rfl) rfl (Nat.le_of_ble_eq_true rfl) (C_Rd_takePassed hq) ?_
              show jG E _ 69 [(0, (2, ((17 : Nat) : Int)))] [(0, v11.1)] v11.2 _ _
              refine jT.if1 (st_Rd_parse) rfl (tgt := 100) (by decide) (fun hc => ?_) (fun hc => ?_)
              · have hc : v11.1 = 0 := hc
                try rw [if_pos hc] at hv
                exact f_Rd_parse_j100_ok E hv
              · have hc : ¬ (v11.1 = 0) := hc
                try rw [if_neg hc] at hv
                refine jG.blk (st_Rd_parse) 2 (pc1 := 75) (L1 := [(0, (2, ((17 : Nat) : Int)))]) (st1 := [(0, 32), (2, ((17 : Nat) : Int))]) (h1 := v11.2) rfl ?_
                obtain ⟨v12, hq, hv⟩ := Option.bind_eq_some_iff.mp hv
                refine jT.cV (M1 := M_Rd_takeLetter) (2, ((17 : Nat) : Int)) [(0, 32)] [] (st_Rd_parse) rfl rfl ok_Rd_takeLetter rfl (Or.inl ⟨rfl, _, _, _, rfl, rfl⟩) (Nat.le_of_ble_eq_true rfl) (Nat.le_of_ble_eq_true rfl) rfl (Nat.le_of_ble_eq_true rfl) (C_Rd_takeLetter hq) ?_
                show jG E _ 78 [(0, (2, ((17 : Nat) : Int)))] [(0, v12.1)] v12.2 _ _
                refine jT.if1 (st_Rd_parse) rfl (tgt := 100) (by decide) (fun hc => ?_) (fun hc => ?_)
                · have hc : v12.1 = 0 := hc
                  try rw [if_pos hc] at hv
                  exact f_Rd_parse_j100_ok E hv
                · have hc : ¬ (v12.1 = 0) := hc
                  try rw [if_neg hc] at hv
                  refine jG.blk (st_Rd_parse) 1 (pc1 := 82) (L1 := [(0, (2, ((17 : Nat) : Int)))]) (st1 := [(2, ((17 : Nat) : Int))]) (h1 := v12.2) rfl ?_
                  obtain ⟨v13, hq, hv⟩ := Option.bind_eq_some_iff.mp hv
                  refine jT.cV (M1 := M_Rd_takeCount) (2, ((17 : Nat) : Int)) [] [] (st_Rd_parse) rfl rfl ok_Rd_takeCount rfl (Or.inl ⟨rfl, _, _, _, rfl, rfl⟩) (Nat.le_of_ble_eq_true rfl) (Nat.le_of_ble_eq_true rfl) rfl (Nat.le_of_ble_eq_true rfl) (C_Rd_takeCount hq) ?_
                  show jG E _ 85 [(0, (2, ((17 : Nat) : Int)))] [(0, v13.1)] v13.2 _ _
                  refine jT.if1 (st_Rd_parse) rfl (tgt := 100) (by decide) (fun hc => ?_) (fun hc => ?_)
                  · have hc : v13.1 = 0 := hc
                    try rw [if_pos hc] at hv
                    exact f_Rd_parse_j100_ok E hv
                  · have hc : ¬ (v13.1 = 0) := hc
                    try rw [if_neg hc] at hv
                    refine jG.blk (st_Rd_parse) 1 (pc1 := 89) (L1 := [(0, (2, ((17 : Nat) : Int)))]) (st1 := [(2, ((17 : Nat) : Int))]) (h1 := v13.2) rfl ?_
                    obtain ⟨v14, hq, hv⟩ := Option.bind_eq_some_iff.mp hv
                    refine jT.cV (M1 := M_Rd_letter) (2, ((17 : Nat) : Int)) [] [] (st_Rd_parse) rfl rfl ok_Rd_letter rfl (Or.inl ⟨rfl, _, _, _, rfl, rfl⟩) (Nat.le_of_ble_eq_true rfl) (Nat.le_of_ble_eq_true rfl) rfl (Nat.le_of_ble_eq_true rfl) (C_Rd_letter hq) ?_
                    show jG E _ 92 [(0, (2, ((17 : Nat) : Int)))] [(0, v14)] v13.2 _ _
                    refine jG.blk (st_Rd_parse) 1 (pc1 := 93) (L1 := [(0, (2, ((17 : Nat) : Int)))]) (st1 := [(0, (-1)), (0, v14)]) (h1 := v13.2) rfl ?_
                    refine jT.if2 (st_Rd_parse) rfl (tgt := 100) (by decide) (fun hc => ?_) (fun hc => ?_)
                    · have hc : ¬ (v14 = (-1)) := hc
                      try rw [if_neg hc] at hv
                      exact f_Rd_parse_j100_ok E hv
                    · have hc : v14 = (-1) := Decidable.not_not.mp hc
                      try rw [if_pos hc] at hv
                      refine jG.blk (st_Rd_parse) 1 (pc1 := 97) (L1 := [(0, (2, ((17 : Nat) : Int)))]) (st1 := [(0, 1)]) (h1 := v13.2) rfl ?_
                      refine jT.goto (st_Rd_parse) rfl (tgt := 101) (by decide) ?_
                      exact f_Rd_parse_j101_ok E hv
def f_Tx_wipe (x : Nat) (h : jH) : Option (jH) := some (jup h x 1 0)
set_option maxRecDepth 100000 in
set_option maxHeartbeats 4000000 in
theorem C_Tx_wipe {E : jE} {x : Nat} (hr : x = 18 ∨ x = 22) {h : jH} {res : jH} (hv : f_Tx_wipe x h = some res) : jC E M_Tx_wipe [(2, ((x : Nat) : Int))] h none res := by
  rcases hr with rfl | rfl
  · refine jC.of ok_Tx_wipe.1 (by rw [jlg]; exact Nat.le_of_ble_eq_true rfl) ?_
    show jG E _ 0 [(0, (2, ((18 : Nat) : Int)))] [] h _ _
    unfold f_Tx_wipe at hv
    refine jG.blk (st_Tx_wipe) 3 (pc1 := 5) (L1 := [(0, (2, ((18 : Nat) : Int)))]) (st1 := []) (h1 := jup h 18 1 0) rfl ?_
    cases hv
    exact jT.vret (st_Tx_wipe) rfl trivial
  · refine jC.of ok_Tx_wipe.1 (by rw [jlg]; exact Nat.le_of_ble_eq_true rfl) ?_
    show jG E _ 0 [(0, (2, ((22 : Nat) : Int)))] [] h _ _
    unfold f_Tx_wipe at hv
    refine jG.blk (st_Tx_wipe) 3 (pc1 := 5) (L1 := [(0, (2, ((22 : Nat) : Int)))]) (st1 := []) (h1 := jup h 22 1 0) rfl ?_
    cases hv
    exact jT.vret (st_Tx_wipe) rfl trivial
def f_Rd_isPassedRankDue (h : jH) : Option (Int) := if h 17 3 = (-1) then some 1 else (f_X_otherSide h (h 20 1)).bind fun v1 => (f_X_rankFor h v1 2).bind fun v2 => some (if h 17 3 = v2 then 1 else 0)
set_option maxRecDepth 100000 in
set_option maxHeartbeats 4000000 in
theorem C_Rd_isPassedRankDue {E : jE} {h : jH} {res : Int} (hv : f_Rd_isPassedRankDue h = some res) : jC E M_Rd_isPassedRankDue [(2, ((17 : Nat) : Int))] h (some (0, res)) h := by
  refine jC.of ok_Rd_isPassedRankDue.1 (by rw [jlg]; exact Nat.le_of_ble_eq_true rfl) ?_
  show jG E _ 0 [(0, (2, ((17 : Nat) : Int)))] [] h _ _
  unfold f_Rd_isPassedRankDue at hv
  refine jG.blk (st_Rd_isPassedRankDue) 3 (pc1 := 5) (L1 := [(0, (2, ((17 : Nat) : Int)))]) (st1 := [(0, (-1)), (0, h 17 3)]) (h1 := h) rfl ?_
  refine jT.if2 (st_Rd_isPassedRankDue) rfl (tgt := 29) (by decide) (fun hc => ?_) (fun hc => ?_)
  · have hc : h 17 3 = (-1) := hc
    try rw [if_pos hc] at hv
    refine jG.blk (st_Rd_isPassedRankDue) 1 (pc1 := 30) (L1 := [(0, (2, ((17 : Nat) : Int)))]) (st1 := [(0, 1)]) (h1 := h) rfl ?_
    refine jT.goto (st_Rd_isPassedRankDue) rfl (tgt := 34) (by decide) ?_
    cases hv
    exact jT.iret (st_Rd_isPassedRankDue) rfl (Or.inr rfl)
  · have hc : ¬ (h 17 3 = (-1)) := hc
    try rw [if_neg hc] at hv
    refine jG.blk (st_Rd_isPassedRankDue) 5 (pc1 := 19) (L1 := [(0, (2, ((17 : Nat) : Int)))]) (st1 := [(0, h 20 1), (0, h 17 3)]) (h1 := h) rfl ?_
    obtain ⟨v1, hq, hv⟩ := Option.bind_eq_some_iff.mp hv
    refine jT.cSN (M1 := M_X_otherSide) [(0, h 20 1)] [(0, h 17 3)] (st_Rd_isPassedRankDue) rfl rfl ok_X_otherSide rfl (Nat.le_of_ble_eq_true rfl) (Nat.le_of_ble_eq_true rfl) rfl (Nat.le_of_ble_eq_true rfl) (C_X_otherSide hq) ?_
    show jG E _ 22 [(0, (2, ((17 : Nat) : Int)))] [(0, v1), (0, h 17 3)] h _ _
    refine jG.blk (st_Rd_isPassedRankDue) 1 (pc1 := 23) (L1 := [(0, (2, ((17 : Nat) : Int)))]) (st1 := [(0, 2), (0, v1), (0, h 17 3)]) (h1 := h) rfl ?_
    obtain ⟨v2, hq, hv⟩ := Option.bind_eq_some_iff.mp hv
    refine jT.cSN (M1 := M_X_rankFor) [(0, v1), (0, 2)] [(0, h 17 3)] (st_Rd_isPassedRankDue) rfl rfl ok_X_rankFor rfl (Nat.le_of_ble_eq_true rfl) (Nat.le_of_ble_eq_true rfl) rfl (Nat.le_of_ble_eq_true rfl) (C_X_rankFor hq) ?_
    show jG E _ 26 [(0, (2, ((17 : Nat) : Int)))] [(0, v2), (0, h 17 3)] h _ _
    refine jT.if2 (st_Rd_isPassedRankDue) rfl (tgt := 33) (by decide) (fun hc => ?_) (fun hc => ?_)
    · have hc : ¬ (h 17 3 = v2) := hc
      try rw [if_neg hc] at hv
      refine jG.blk (st_Rd_isPassedRankDue) 1 (pc1 := 34) (L1 := [(0, (2, ((17 : Nat) : Int)))]) (st1 := [(0, 0)]) (h1 := h) rfl ?_
      cases hv
      exact jT.iret (st_Rd_isPassedRankDue) rfl (Or.inl rfl)
    · have hc : h 17 3 = v2 := Decidable.not_not.mp hc
      try rw [if_pos hc] at hv
      refine jG.blk (st_Rd_isPassedRankDue) 1 (pc1 := 30) (L1 := [(0, (2, ((17 : Nat) : Int)))]) (st1 := [(0, 1)]) (h1 := h) rfl ?_
      refine jT.goto (st_Rd_isPassedRankDue) rfl (tgt := 34) (by decide) ?_
      cases hv
      exact jT.iret (st_Rd_isPassedRankDue) rfl (Or.inr rfl)
def f_Tx_addGap (h : jH) (a1 : Int) : Option (jH) := if a1 ≤ 0 then some h else (f_Tx_add 22 h (jadd 48 a1)).bind fun v1 => some v1
set_option maxRecDepth 100000 in
set_option maxHeartbeats 4000000 in
theorem C_Tx_addGap {E : jE} {h : jH} {a1 : Int} {res : jH} (hv : f_Tx_addGap h a1 = some res) : jC E M_Tx_addGap [(2, ((22 : Nat) : Int)), (0, a1)] h none res := by
  refine jC.of ok_Tx_addGap.1 (by rw [jlg]; exact Nat.le_of_ble_eq_true rfl) ?_
  show jG E _ 0 [(0, (2, ((22 : Nat) : Int))), (1, (0, a1))] [] h _ _
  unfold f_Tx_addGap at hv
  refine jG.blk (st_Tx_addGap) 1 (pc1 := 1) (L1 := [(0, (2, ((22 : Nat) : Int))), (1, (0, a1))]) (st1 := [(0, a1)]) (h1 := h) rfl ?_
  refine jT.if1 (st_Tx_addGap) rfl (tgt := 12) (by decide) (fun hc => ?_) (fun hc => ?_)
  · have hc : a1 ≤ 0 := hc
    try rw [if_pos hc] at hv
    cases hv
    exact jT.vret (st_Tx_addGap) rfl trivial
  · have hc : ¬ (a1 ≤ 0) := hc
    try rw [if_neg hc] at hv
    refine jG.blk (st_Tx_addGap) 4 (pc1 := 9) (L1 := [(0, (2, ((22 : Nat) : Int))), (1, (0, a1))]) (st1 := [(0, jadd 48 a1), (2, ((22 : Nat) : Int))]) (h1 := h) rfl ?_
    obtain ⟨v1, hq, hv⟩ := Option.bind_eq_some_iff.mp hv
    refine jT.cV (M1 := M_Tx_add) (2, ((22 : Nat) : Int)) [(0, jadd 48 a1)] [] (st_Tx_addGap) rfl rfl ok_Tx_add rfl (Or.inl ⟨rfl, _, _, _, rfl, rfl⟩) (Nat.le_of_ble_eq_true rfl) (Nat.le_of_ble_eq_true rfl) rfl (Nat.le_of_ble_eq_true rfl) (C_Tx_add (by decide) hq) ?_
    show jG E _ 12 [(0, (2, ((22 : Nat) : Int))), (1, (0, a1))] [] v1 _ _
    cases hv
    exact jT.vret (st_Tx_addGap) rfl trivial
def f_Tx_addRank_lp5 (x3 : Int) (k : Int → Int → jH → Option (jH)) : Nat → Int → Int → jH → Option (jH)
  | 0, _, _, _ => none
  | n + 1, l1, l2, h4 => if 8 ≤ l2 then k l1 l2 h4 else (f_X_squareAt h4 l2 x3).bind fun v5 => jgd (0 ≤ v5 ∧ v5 < 64) (if h4 3 v5.toNat = 0 then f_Tx_addRank_lp5 x3 k n (jadd l1 1) (jadd l2 1) h4 else (f_Tx_addGap h4 l1).bind fun v6 => (f_Js_charAt 7 v6 (jsub (h4 3 v5.toNat) 1)).bind fun v7 => (f_Tx_add 22 v6 v7).bind fun v8 => f_Tx_addRank_lp5 x3 k n 0 (jadd l2 1) v8)
def f_Tx_addRank (h : jH) (a2 : Int) : Option (jH) := f_Tx_addRank_lp5 a2 (fun l9 l10 h11 => (f_Tx_addGap h11 l9).bind fun v12 => some v12) 1000 0 0 h
set_option maxRecDepth 100000 in
set_option maxHeartbeats 4000000 in
theorem f_Tx_addRank_lp5_ok (E : jE) {x3 : Int} {k : Int → Int → jH → Option (jH)} (hk : ∀ (l1 : Int) (l2 : Int) (h4 : jH) (res : jH), k l1 l2 h4 = some res → jG E M_Tx_addRank 62 [(0, (2, ((22 : Nat) : Int))), (3, (0, l1))] [] h4 none res) : ∀ (n : Nat) (l1 : Int) (l2 : Int) (h4 : jH) (res : jH), f_Tx_addRank_lp5 x3 k n l1 l2 h4 = some res → jG E M_Tx_addRank 5 [(0, (2, ((22 : Nat) : Int))), (1, (2, ((2 : Nat) : Int))), (2, (0, x3)), (3, (0, l1)), (4, (0, l2))] [] h4 none res := by
  intro n
  induction n with
  | zero => intro l1 l2 h4 res hv; cases hv
  | succ n ih =>
    intro l1 l2 h4 res hv
    rw [f_Tx_addRank_lp5] at hv
    refine jG.blk (st_Tx_addRank) 2 (pc1 := 9) (L1 := [(0, (2, ((22 : Nat) : Int))), (1, (2, ((2 : Nat) : Int))), (2, (0, x3)), (3, (0, l1)), (4, (0, l2))]) (st1 := [(0, 8), (0, l2)]) (h1 := h4) rfl ?_
    refine jT.if2 (st_Tx_addRank) rfl (tgt := 62) (by decide) (fun hc => ?_) (fun hc => ?_)
    · have hc : 8 ≤ l2 := hc
      try rw [if_pos hc] at hv
      refine jG.subp [0, 3] (L1 := [(0, (2, ((22 : Nat) : Int))), (3, (0, l1))]) rfl ?_
      exact hk _ _ _ _ hv
    · have hc : ¬ (8 ≤ l2) := hc
      try rw [if_neg hc] at hv
      refine jG.blk (st_Tx_addRank) 4 (pc1 := 19) (L1 := [(0, (2, ((22 : Nat) : Int))), (1, (2, ((2 : Nat) : Int))), (2, (0, x3)), (3, (0, l1)), (4, (0, l2))]) (st1 := [(0, x3), (0, l2), (2, ((3 : Nat) : Int))]) (h1 := h4) rfl ?_
      obtain ⟨v5, hq, hv⟩ := Option.bind_eq_some_iff.mp hv
      refine jT.cSN (M1 := M_X_squareAt) [(0, l2), (0, x3)] [(2, ((3 : Nat) : Int))] (st_Tx_addRank) rfl rfl ok_X_squareAt rfl (Nat.le_of_ble_eq_true rfl) (Nat.le_of_ble_eq_true rfl) rfl (Nat.le_of_ble_eq_true rfl) (C_X_squareAt hq) ?_
      show jG E _ 22 [(0, (2, ((22 : Nat) : Int))), (1, (2, ((2 : Nat) : Int))), (2, (0, x3)), (3, (0, l1)), (4, (0, l2))] [(0, v5), (2, ((3 : Nat) : Int))] h4 _ _
      obtain ⟨hg, hv⟩ := jgd_some hv
      refine jT.iald (a := 3) (st_Tx_addRank) rfl rfl (by decide) hg.1 hg.2 ?_
      refine jG.blk (st_Tx_addRank) 2 (pc1 := 27) (L1 := [(5, (0, h4 3 v5.toNat)), (0, (2, ((22 : Nat) : Int))), (1, (2, ((2 : Nat) : Int))), (2, (0, x3)), (3, (0, l1)), (4, (0, l2))]) (st1 := [(0, h4 3 v5.toNat)]) (h1 := h4) rfl ?_
      refine jT.if1 (st_Tx_addRank) rfl (tgt := 36) (by decide) (fun hc => ?_) (fun hc => ?_)
      · have hc : ¬ (h4 3 v5.toNat = 0) := hc
        try rw [if_neg hc] at hv
        refine jG.blk (st_Tx_addRank) 2 (pc1 := 38) (L1 := [(5, (0, h4 3 v5.toNat)), (0, (2, ((22 : Nat) : Int))), (1, (2, ((2 : Nat) : Int))), (2, (0, x3)), (3, (0, l1)), (4, (0, l2))]) (st1 := [(0, l1), (2, ((22 : Nat) : Int))]) (h1 := h4) rfl ?_
        obtain ⟨v6, hq, hv⟩ := Option.bind_eq_some_iff.mp hv
        refine jT.cV (M1 := M_Tx_addGap) (2, ((22 : Nat) : Int)) [(0, l1)] [] (st_Tx_addRank) rfl rfl ok_Tx_addGap rfl (Or.inl ⟨rfl, _, _, _, rfl, rfl⟩) (Nat.le_of_ble_eq_true rfl) (Nat.le_of_ble_eq_true rfl) rfl (Nat.le_of_ble_eq_true rfl) (C_Tx_addGap hq) ?_
        show jG E _ 41 [(5, (0, h4 3 v5.toNat)), (0, (2, ((22 : Nat) : Int))), (1, (2, ((2 : Nat) : Int))), (2, (0, x3)), (3, (0, l1)), (4, (0, l2))] [] v6 _ _
        refine jG.blk (st_Tx_addRank) 5 (pc1 := 48) (L1 := [(5, (0, h4 3 v5.toNat)), (0, (2, ((22 : Nat) : Int))), (1, (2, ((2 : Nat) : Int))), (2, (0, x3)), (3, (0, l1)), (4, (0, l2))]) (st1 := [(0, jsub (h4 3 v5.toNat) 1), (3, ((7 : Nat) : Int)), (2, ((22 : Nat) : Int))]) (h1 := v6) rfl ?_
        obtain ⟨v7, hq, hv⟩ := Option.bind_eq_some_iff.mp hv
        refine jT.cV (M1 := M_Js_charAt) (3, ((7 : Nat) : Int)) [(0, jsub (h4 3 v5.toNat) 1)] [(2, ((22 : Nat) : Int))] (st_Tx_addRank) rfl rfl ok_Js_charAt rfl (Or.inr ⟨rfl, rfl, (7, 5), by decide, rfl⟩) (Nat.le_of_ble_eq_true rfl) (Nat.le_of_ble_eq_true rfl) rfl (Nat.le_of_ble_eq_true rfl) (C_Js_charAt (by decide) hq) ?_
        show jG E _ 51 [(5, (0, h4 3 v5.toNat)), (0, (2, ((22 : Nat) : Int))), (1, (2, ((2 : Nat) : Int))), (2, (0, x3)), (3, (0, l1)), (4, (0, l2))] [(0, v7), (2, ((22 : Nat) : Int))] v6 _ _
        obtain ⟨v8, hq, hv⟩ := Option.bind_eq_some_iff.mp hv
        refine jT.cV (M1 := M_Tx_add) (2, ((22 : Nat) : Int)) [(0, v7)] [] (st_Tx_addRank) rfl rfl ok_Tx_add rfl (Or.inl ⟨rfl, _, _, _, rfl, rfl⟩) (Nat.le_of_ble_eq_true rfl) (Nat.le_of_ble_eq_true rfl) rfl (Nat.le_of_ble_eq_true rfl) (C_Tx_add (by decide) hq) ?_
        show jG E _ 54 [(5, (0, h4 3 v5.toNat)), (0, (2, ((22 : Nat) : Int))), (1, (2, ((2 : Nat) : Int))), (2, (0, x3)), (3, (0, l1)), (4, (0, l2))] [] v8 _ _
        refine jG.blk (st_Tx_addRank) 3 (pc1 := 59) (L1 := [(4, (0, jadd l2 1)), (3, (0, 0)), (5, (0, h4 3 v5.toNat)), (0, (2, ((22 : Nat) : Int))), (1, (2, ((2 : Nat) : Int))), (2, (0, x3))]) (st1 := []) (h1 := v8) rfl ?_
        refine jT.goto (st_Tx_addRank) rfl (tgt := 5) (by decide) ?_
        refine jG.subp [3, 4, 5, 1, 0] (L1 := [(0, (2, ((22 : Nat) : Int))), (1, (2, ((2 : Nat) : Int))), (2, (0, x3)), (3, (0, 0)), (4, (0, jadd l2 1))]) rfl ?_
        exact ih _ _ _ _ hv
      · have hc : h4 3 v5.toNat = 0 := Decidable.not_not.mp hc
        try rw [if_pos hc] at hv
        refine jG.blk (st_Tx_addRank) 1 (pc1 := 33) (L1 := [(3, (0, jadd l1 1)), (5, (0, h4 3 v5.toNat)), (0, (2, ((22 : Nat) : Int))), (1, (2, ((2 : Nat) : Int))), (2, (0, x3)), (4, (0, l2))]) (st1 := []) (h1 := h4) rfl ?_
        refine jT.goto (st_Tx_addRank) rfl (tgt := 56) (by decide) ?_
        refine jG.blk (st_Tx_addRank) 1 (pc1 := 59) (L1 := [(4, (0, jadd l2 1)), (3, (0, jadd l1 1)), (5, (0, h4 3 v5.toNat)), (0, (2, ((22 : Nat) : Int))), (1, (2, ((2 : Nat) : Int))), (2, (0, x3))]) (st1 := []) (h1 := h4) rfl ?_
        refine jT.goto (st_Tx_addRank) rfl (tgt := 5) (by decide) ?_
        refine jG.subp [3, 4, 5, 1, 0] (L1 := [(0, (2, ((22 : Nat) : Int))), (1, (2, ((2 : Nat) : Int))), (2, (0, x3)), (3, (0, jadd l1 1)), (4, (0, jadd l2 1))]) rfl ?_
        exact ih _ _ _ _ hv
set_option maxRecDepth 100000 in
set_option maxHeartbeats 4000000 in
theorem C_Tx_addRank {E : jE} {h : jH} {a2 : Int} {res : jH} (hv : f_Tx_addRank h a2 = some res) : jC E M_Tx_addRank [(2, ((22 : Nat) : Int)), (2, ((2 : Nat) : Int)), (0, a2)] h none res := by
  refine jC.of ok_Tx_addRank.1 (by rw [jlg]; exact Nat.le_of_ble_eq_true rfl) ?_
  show jG E _ 0 [(0, (2, ((22 : Nat) : Int))), (1, (2, ((2 : Nat) : Int))), (2, (0, a2))] [] h _ _
  unfold f_Tx_addRank at hv
  refine jG.blk (st_Tx_addRank) 4 (pc1 := 5) (L1 := [(4, (0, 0)), (3, (0, 0)), (0, (2, ((22 : Nat) : Int))), (1, (2, ((2 : Nat) : Int))), (2, (0, a2))]) (st1 := []) (h1 := h) rfl ?_
  refine jG.subp [2, 3, 4, 1, 0] (L1 := [(0, (2, ((22 : Nat) : Int))), (1, (2, ((2 : Nat) : Int))), (2, (0, a2)), (3, (0, 0)), (4, (0, 0))]) rfl ?_
  refine f_Tx_addRank_lp5_ok E (fun l9 l10 h11 res hv => ?_) 1000 _ _ _ _ hv
  · refine jG.blk (st_Tx_addRank) 2 (pc1 := 64) (L1 := [(0, (2, ((22 : Nat) : Int))), (3, (0, l9))]) (st1 := [(0, l9), (2, ((22 : Nat) : Int))]) (h1 := h11) rfl ?_
    obtain ⟨v12, hq, hv⟩ := Option.bind_eq_some_iff.mp hv
    refine jT.cV (M1 := M_Tx_addGap) (2, ((22 : Nat) : Int)) [(0, l9)] [] (st_Tx_addRank) rfl rfl ok_Tx_addGap rfl (Or.inl ⟨rfl, _, _, _, rfl, rfl⟩) (Nat.le_of_ble_eq_true rfl) (Nat.le_of_ble_eq_true rfl) rfl (Nat.le_of_ble_eq_true rfl) (C_Tx_addGap hq) ?_
    show jG E _ 67 [(0, (2, ((22 : Nat) : Int))), (3, (0, l9))] [] v12 _ _
    cases hv
    exact jT.vret (st_Tx_addRank) rfl trivial
def f_Tx_addSquares_lp3 (k : Int → jH → Option (jH)) : Nat → Int → jH → Option (jH)
  | 0, _, _ => none
  | n + 1, l1, h2 => if l1 < 0 then k l1 h2 else (f_Tx_addRank h2 l1).bind fun v3 => if l1 ≤ 0 then f_Tx_addSquares_lp3 k n (jadd l1 (-1)) v3 else (f_Tx_add 22 v3 47).bind fun v4 => f_Tx_addSquares_lp3 k n (jadd l1 (-1)) v4
def f_Tx_addSquares (h : jH) : Option (jH) := f_Tx_addSquares_lp3 (fun l5 h6 => some h6) 1000 7 h
set_option maxRecDepth 100000 in
set_option maxHeartbeats 4000000 in
theorem f_Tx_addSquares_lp3_ok (E : jE) {k : Int → jH → Option (jH)} (hk : ∀ (l1 : Int) (h2 : jH) (res : jH), k l1 h2 = some res → jG E M_Tx_addSquares 29 [] [] h2 none res) : ∀ (n : Nat) (l1 : Int) (h2 : jH) (res : jH), f_Tx_addSquares_lp3 k n l1 h2 = some res → jG E M_Tx_addSquares 3 [(0, (2, ((22 : Nat) : Int))), (1, (2, ((2 : Nat) : Int))), (2, (0, l1))] [] h2 none res := by
  intro n
  induction n with
  | zero => intro l1 h2 res hv; cases hv
  | succ n ih =>
    intro l1 h2 res hv
    rw [f_Tx_addSquares_lp3] at hv
    refine jG.blk (st_Tx_addSquares) 1 (pc1 := 4) (L1 := [(0, (2, ((22 : Nat) : Int))), (1, (2, ((2 : Nat) : Int))), (2, (0, l1))]) (st1 := [(0, l1)]) (h1 := h2) rfl ?_
    refine jT.if1 (st_Tx_addSquares) rfl (tgt := 29) (by decide) (fun hc => ?_) (fun hc => ?_)
    · have hc : l1 < 0 := hc
      try rw [if_pos hc] at hv
      refine jG.subp [] (L1 := []) rfl ?_
      exact hk _ _ _ hv
    · have hc : ¬ (l1 < 0) := hc
      try rw [if_neg hc] at hv
      refine jG.blk (st_Tx_addSquares) 3 (pc1 := 10) (L1 := [(0, (2, ((22 : Nat) : Int))), (1, (2, ((2 : Nat) : Int))), (2, (0, l1))]) (st1 := [(0, l1), (2, ((2 : Nat) : Int)), (2, ((22 : Nat) : Int))]) (h1 := h2) rfl ?_
      obtain ⟨v3, hq, hv⟩ := Option.bind_eq_some_iff.mp hv
      refine jT.cV (M1 := M_Tx_addRank) (2, ((22 : Nat) : Int)) [(2, ((2 : Nat) : Int)), (0, l1)] [] (st_Tx_addSquares) rfl rfl ok_Tx_addRank rfl (Or.inl ⟨rfl, _, _, _, rfl, rfl⟩) (Nat.le_of_ble_eq_true rfl) (Nat.le_of_ble_eq_true rfl) rfl (Nat.le_of_ble_eq_true rfl) (C_Tx_addRank hq) ?_
      show jG E _ 13 [(0, (2, ((22 : Nat) : Int))), (1, (2, ((2 : Nat) : Int))), (2, (0, l1))] [] v3 _ _
      refine jG.blk (st_Tx_addSquares) 1 (pc1 := 14) (L1 := [(0, (2, ((22 : Nat) : Int))), (1, (2, ((2 : Nat) : Int))), (2, (0, l1))]) (st1 := [(0, l1)]) (h1 := v3) rfl ?_
      refine jT.if1 (st_Tx_addSquares) rfl (tgt := 23) (by decide) (fun hc => ?_) (fun hc => ?_)
      · have hc : l1 ≤ 0 := hc
        try rw [if_pos hc] at hv
        refine jG.blk (st_Tx_addSquares) 1 (pc1 := 26) (L1 := [(2, (0, jadd l1 (-1))), (0, (2, ((22 : Nat) : Int))), (1, (2, ((2 : Nat) : Int)))]) (st1 := []) (h1 := v3) rfl ?_
        refine jT.goto (st_Tx_addSquares) rfl (tgt := 3) (by decide) ?_
        refine jG.subp [1, 2, 0] (L1 := [(0, (2, ((22 : Nat) : Int))), (1, (2, ((2 : Nat) : Int))), (2, (0, jadd l1 (-1)))]) rfl ?_
        exact ih _ _ _ hv
      · have hc : ¬ (l1 ≤ 0) := hc
        try rw [if_neg hc] at hv
        refine jG.blk (st_Tx_addSquares) 2 (pc1 := 20) (L1 := [(0, (2, ((22 : Nat) : Int))), (1, (2, ((2 : Nat) : Int))), (2, (0, l1))]) (st1 := [(0, 47), (2, ((22 : Nat) : Int))]) (h1 := v3) rfl ?_
        obtain ⟨v4, hq, hv⟩ := Option.bind_eq_some_iff.mp hv
        refine jT.cV (M1 := M_Tx_add) (2, ((22 : Nat) : Int)) [(0, 47)] [] (st_Tx_addSquares) rfl rfl ok_Tx_add rfl (Or.inl ⟨rfl, _, _, _, rfl, rfl⟩) (Nat.le_of_ble_eq_true rfl) (Nat.le_of_ble_eq_true rfl) rfl (Nat.le_of_ble_eq_true rfl) (C_Tx_add (by decide) hq) ?_
        show jG E _ 23 [(0, (2, ((22 : Nat) : Int))), (1, (2, ((2 : Nat) : Int))), (2, (0, l1))] [] v4 _ _
        refine jG.blk (st_Tx_addSquares) 1 (pc1 := 26) (L1 := [(2, (0, jadd l1 (-1))), (0, (2, ((22 : Nat) : Int))), (1, (2, ((2 : Nat) : Int)))]) (st1 := []) (h1 := v4) rfl ?_
        refine jT.goto (st_Tx_addSquares) rfl (tgt := 3) (by decide) ?_
        refine jG.subp [1, 2, 0] (L1 := [(0, (2, ((22 : Nat) : Int))), (1, (2, ((2 : Nat) : Int))), (2, (0, jadd l1 (-1)))]) rfl ?_
        exact ih _ _ _ hv
set_option maxRecDepth 100000 in
set_option maxHeartbeats 4000000 in
theorem C_Tx_addSquares {E : jE} {h : jH} {res : jH} (hv : f_Tx_addSquares h = some res) : jC E M_Tx_addSquares [(2, ((22 : Nat) : Int)), (2, ((2 : Nat) : Int))] h none res := by
  refine jC.of ok_Tx_addSquares.1 (by rw [jlg]; exact Nat.le_of_ble_eq_true rfl) ?_
  show jG E _ 0 [(0, (2, ((22 : Nat) : Int))), (1, (2, ((2 : Nat) : Int)))] [] h _ _
  unfold f_Tx_addSquares at hv
  refine jG.blk (st_Tx_addSquares) 2 (pc1 := 3) (L1 := [(2, (0, 7)), (0, (2, ((22 : Nat) : Int))), (1, (2, ((2 : Nat) : Int)))]) (st1 := []) (h1 := h) rfl ?_
  refine jG.subp [1, 2, 0] (L1 := [(0, (2, ((22 : Nat) : Int))), (1, (2, ((2 : Nat) : Int))), (2, (0, 7))]) rfl ?_
  refine f_Tx_addSquares_lp3_ok E (fun l5 h6 res hv => ?_) 1000 _ _ _ hv
  · cases hv
    exact jT.vret (st_Tx_addSquares) rfl trivial
def f_Tx_addRights_lp12 (x4 : Int) (k : Int → jH → Option (jH)) : Nat → Int → jH → Option (jH)
  | 0, _, _ => none
  | n + 1, l3, h5 => if 4 ≤ l3 then k l3 h5 else if jand (jshr x4 l3) 1 = 0 then f_Tx_addRights_lp12 x4 k n (jadd l3 1) h5 else (f_Js_charAt 8 h5 l3).bind fun v6 => (f_Tx_add 22 h5 v6).bind fun v7 => f_Tx_addRights_lp12 x4 k n (jadd l3 1) v7
def f_Tx_addRights_j10 (h2 : jH) (l1 : Int) : Option (jH) := f_Tx_addRights_lp12 l1 (fun l8 h9 => some h9) 1000 0 h2
def f_Tx_addRights (h : jH) (a1 : Int) : Option (jH) := if a1 = 0 then (f_Tx_add 22 h 45).bind fun v10 => f_Tx_addRights_j10 v10 a1 else f_Tx_addRights_j10 h a1
set_option maxRecDepth 100000 in
set_option maxHeartbeats 4000000 in
theorem f_Tx_addRights_lp12_ok (E : jE) {x4 : Int} {k : Int → jH → Option (jH)} (hk : ∀ (l3 : Int) (h5 : jH) (res : jH), k l3 h5 = some res → jG E M_Tx_addRights 41 [] [] h5 none res) : ∀ (n : Nat) (l3 : Int) (h5 : jH) (res : jH), f_Tx_addRights_lp12 x4 k n l3 h5 = some res → jG E M_Tx_addRights 12 [(0, (2, ((22 : Nat) : Int))), (1, (0, x4)), (2, (0, l3))] [] h5 none res := by
  intro n
  induction n with
  | zero => intro l3 h5 res hv; cases hv
  | succ n ih =>
    intro l3 h5 res hv
    rw [f_Tx_addRights_lp12] at hv
    refine jG.blk (st_Tx_addRights) 2 (pc1 := 14) (L1 := [(0, (2, ((22 : Nat) : Int))), (1, (0, x4)), (2, (0, l3))]) (st1 := [(0, 4), (0, l3)]) (h1 := h5) rfl ?_
    refine jT.if2 (st_Tx_addRights) rfl (tgt := 41) (by decide) (fun hc => ?_) (fun hc => ?_)
    · have hc : 4 ≤ l3 := hc
      try rw [if_pos hc] at hv
      refine jG.subp [] (L1 := []) rfl ?_
      exact hk _ _ _ hv
    · have hc : ¬ (4 ≤ l3) := hc
      try rw [if_neg hc] at hv
      refine jG.blk (st_Tx_addRights) 5 (pc1 := 22) (L1 := [(0, (2, ((22 : Nat) : Int))), (1, (0, x4)), (2, (0, l3))]) (st1 := [(0, jand (jshr x4 l3) 1)]) (h1 := h5) rfl ?_
      refine jT.if1 (st_Tx_addRights) rfl (tgt := 35) (by decide) (fun hc => ?_) (fun hc => ?_)
      · have hc : jand (jshr x4 l3) 1 = 0 := hc
        try rw [if_pos hc] at hv
        refine jG.blk (st_Tx_addRights) 1 (pc1 := 38) (L1 := [(2, (0, jadd l3 1)), (0, (2, ((22 : Nat) : Int))), (1, (0, x4))]) (st1 := []) (h1 := h5) rfl ?_
        refine jT.goto (st_Tx_addRights) rfl (tgt := 12) (by decide) ?_
        refine jG.subp [1, 2, 0] (L1 := [(0, (2, ((22 : Nat) : Int))), (1, (0, x4)), (2, (0, jadd l3 1))]) rfl ?_
        exact ih _ _ _ hv
      · have hc : ¬ (jand (jshr x4 l3) 1 = 0) := hc
        try rw [if_neg hc] at hv
        refine jG.blk (st_Tx_addRights) 3 (pc1 := 29) (L1 := [(0, (2, ((22 : Nat) : Int))), (1, (0, x4)), (2, (0, l3))]) (st1 := [(0, l3), (3, ((8 : Nat) : Int)), (2, ((22 : Nat) : Int))]) (h1 := h5) rfl ?_
        obtain ⟨v6, hq, hv⟩ := Option.bind_eq_some_iff.mp hv
        refine jT.cV (M1 := M_Js_charAt) (3, ((8 : Nat) : Int)) [(0, l3)] [(2, ((22 : Nat) : Int))] (st_Tx_addRights) rfl rfl ok_Js_charAt rfl (Or.inr ⟨rfl, rfl, (8, 6), by decide, rfl⟩) (Nat.le_of_ble_eq_true rfl) (Nat.le_of_ble_eq_true rfl) rfl (Nat.le_of_ble_eq_true rfl) (C_Js_charAt (by decide) hq) ?_
        show jG E _ 32 [(0, (2, ((22 : Nat) : Int))), (1, (0, x4)), (2, (0, l3))] [(0, v6), (2, ((22 : Nat) : Int))] h5 _ _
        obtain ⟨v7, hq, hv⟩ := Option.bind_eq_some_iff.mp hv
        refine jT.cV (M1 := M_Tx_add) (2, ((22 : Nat) : Int)) [(0, v6)] [] (st_Tx_addRights) rfl rfl ok_Tx_add rfl (Or.inl ⟨rfl, _, _, _, rfl, rfl⟩) (Nat.le_of_ble_eq_true rfl) (Nat.le_of_ble_eq_true rfl) rfl (Nat.le_of_ble_eq_true rfl) (C_Tx_add (by decide) hq) ?_
        show jG E _ 35 [(0, (2, ((22 : Nat) : Int))), (1, (0, x4)), (2, (0, l3))] [] v7 _ _
        refine jG.blk (st_Tx_addRights) 1 (pc1 := 38) (L1 := [(2, (0, jadd l3 1)), (0, (2, ((22 : Nat) : Int))), (1, (0, x4))]) (st1 := []) (h1 := v7) rfl ?_
        refine jT.goto (st_Tx_addRights) rfl (tgt := 12) (by decide) ?_
        refine jG.subp [1, 2, 0] (L1 := [(0, (2, ((22 : Nat) : Int))), (1, (0, x4)), (2, (0, jadd l3 1))]) rfl ?_
        exact ih _ _ _ hv
set_option maxRecDepth 100000 in
set_option maxHeartbeats 4000000 in
theorem f_Tx_addRights_j10_ok (E : jE) {h2 : jH} {l1 : Int} {res : jH} (hv : f_Tx_addRights_j10 h2 l1 = some res) : jG E M_Tx_addRights 10 [(0, (2, ((22 : Nat) : Int))), (1, (0, l1))] [] h2 none res := by
  unfold f_Tx_addRights_j10 at hv
  refine jG.blk (st_Tx_addRights) 2 (pc1 := 12) (L1 := [(2, (0, 0)), (0, (2, ((22 : Nat) : Int))), (1, (0, l1))]) (st1 := []) (h1 := h2) rfl ?_
  refine jG.subp [1, 2, 0] (L1 := [(0, (2, ((22 : Nat) : Int))), (1, (0, l1)), (2, (0, 0))]) rfl ?_
  refine f_Tx_addRights_lp12_ok E (fun l8 h9 res hv => ?_) 1000 _ _ _ hv
  · cases hv
    exact jT.vret (st_Tx_addRights) rfl trivial
set_option maxRecDepth 100000 in
set_option maxHeartbeats 4000000 in
theorem C_Tx_addRights {E : jE} {h : jH} {a1 : Int} {res : jH} (hv : f_Tx_addRights h a1 = some res) : jC E M_Tx_addRights [(2, ((22 : Nat) : Int)), (0, a1)] h none res := by
  refine jC.of ok_Tx_addRights.1 (by rw [jlg]; exact Nat.le_of_ble_eq_true rfl) ?_
  show jG E _ 0 [(0, (2, ((22 : Nat) : Int))), (1, (0, a1))] [] h _ _
  unfold f_Tx_addRights at hv
  refine jG.blk (st_Tx_addRights) 1 (pc1 := 1) (L1 := [(0, (2, ((22 : Nat) : Int))), (1, (0, a1))]) (st1 := [(0, a1)]) (h1 := h) rfl ?_
  refine jT.if1 (st_Tx_addRights) rfl (tgt := 10) (by decide) (fun hc => ?_) (fun hc => ?_)
  · have hc : ¬ (a1 = 0) := hc
    try rw [if_neg hc] at hv
    exact f_Tx_addRights_j10_ok E hv
  · have hc : a1 = 0 := Decidable.not_not.mp hc
    try rw [if_pos hc] at hv
    refine jG.blk (st_Tx_addRights) 2 (pc1 := 7) (L1 := [(0, (2, ((22 : Nat) : Int))), (1, (0, a1))]) (st1 := [(0, 45), (2, ((22 : Nat) : Int))]) (h1 := h) rfl ?_
    obtain ⟨v10, hq, hv⟩ := Option.bind_eq_some_iff.mp hv
    refine jT.cV (M1 := M_Tx_add) (2, ((22 : Nat) : Int)) [(0, 45)] [] (st_Tx_addRights) rfl rfl ok_Tx_add rfl (Or.inl ⟨rfl, _, _, _, rfl, rfl⟩) (Nat.le_of_ble_eq_true rfl) (Nat.le_of_ble_eq_true rfl) rfl (Nat.le_of_ble_eq_true rfl) (C_Tx_add (by decide) hq) ?_
    show jG E _ 10 [(0, (2, ((22 : Nat) : Int))), (1, (0, a1))] [] v10 _ _
    exact f_Tx_addRights_j10_ok E hv
def f_Tx_addPassed (h : jH) (a1 : Int) : Option (jH) := if a1 = (-1) then (f_Tx_add 22 h 45).bind fun v3 => some v3 else (f_Tx_add 22 h (jadd 97 (jand a1 7))).bind fun v1 => (f_Tx_add 22 v1 (jadd 49 (jshr a1 3))).bind fun v2 => some v2
set_option maxRecDepth 100000 in
set_option maxHeartbeats 4000000 in
theorem C_Tx_addPassed {E : jE} {h : jH} {a1 : Int} {res : jH} (hv : f_Tx_addPassed h a1 = some res) : jC E M_Tx_addPassed [(2, ((22 : Nat) : Int)), (0, a1)] h none res := by
  refine jC.of ok_Tx_addPassed.1 (by rw [jlg]; exact Nat.le_of_ble_eq_true rfl) ?_
  show jG E _ 0 [(0, (2, ((22 : Nat) : Int))), (1, (0, a1))] [] h _ _
  unfold f_Tx_addPassed at hv
  refine jG.blk (st_Tx_addPassed) 2 (pc1 := 2) (L1 := [(0, (2, ((22 : Nat) : Int))), (1, (0, a1))]) (st1 := [(0, (-1)), (0, a1)]) (h1 := h) rfl ?_
  refine jT.if2 (st_Tx_addPassed) rfl (tgt := 14) (by decide) (fun hc => ?_) (fun hc => ?_)
  · have hc : ¬ (a1 = (-1)) := hc
    try rw [if_neg hc] at hv
    refine jG.blk (st_Tx_addPassed) 6 (pc1 := 22) (L1 := [(0, (2, ((22 : Nat) : Int))), (1, (0, a1))]) (st1 := [(0, jadd 97 (jand a1 7)), (2, ((22 : Nat) : Int))]) (h1 := h) rfl ?_
    obtain ⟨v1, hq, hv⟩ := Option.bind_eq_some_iff.mp hv
    refine jT.cV (M1 := M_Tx_add) (2, ((22 : Nat) : Int)) [(0, jadd 97 (jand a1 7))] [] (st_Tx_addPassed) rfl rfl ok_Tx_add rfl (Or.inl ⟨rfl, _, _, _, rfl, rfl⟩) (Nat.le_of_ble_eq_true rfl) (Nat.le_of_ble_eq_true rfl) rfl (Nat.le_of_ble_eq_true rfl) (C_Tx_add (by decide) hq) ?_
    show jG E _ 25 [(0, (2, ((22 : Nat) : Int))), (1, (0, a1))] [] v1 _ _
    refine jG.blk (st_Tx_addPassed) 6 (pc1 := 32) (L1 := [(0, (2, ((22 : Nat) : Int))), (1, (0, a1))]) (st1 := [(0, jadd 49 (jshr a1 3)), (2, ((22 : Nat) : Int))]) (h1 := v1) rfl ?_
    obtain ⟨v2, hq, hv⟩ := Option.bind_eq_some_iff.mp hv
    refine jT.cV (M1 := M_Tx_add) (2, ((22 : Nat) : Int)) [(0, jadd 49 (jshr a1 3))] [] (st_Tx_addPassed) rfl rfl ok_Tx_add rfl (Or.inl ⟨rfl, _, _, _, rfl, rfl⟩) (Nat.le_of_ble_eq_true rfl) (Nat.le_of_ble_eq_true rfl) rfl (Nat.le_of_ble_eq_true rfl) (C_Tx_add (by decide) hq) ?_
    show jG E _ 35 [(0, (2, ((22 : Nat) : Int))), (1, (0, a1))] [] v2 _ _
    cases hv
    exact jT.vret (st_Tx_addPassed) rfl trivial
  · have hc : a1 = (-1) := Decidable.not_not.mp hc
    try rw [if_pos hc] at hv
    refine jG.blk (st_Tx_addPassed) 2 (pc1 := 8) (L1 := [(0, (2, ((22 : Nat) : Int))), (1, (0, a1))]) (st1 := [(0, 45), (2, ((22 : Nat) : Int))]) (h1 := h) rfl ?_
    obtain ⟨v3, hq, hv⟩ := Option.bind_eq_some_iff.mp hv
    refine jT.cV (M1 := M_Tx_add) (2, ((22 : Nat) : Int)) [(0, 45)] [] (st_Tx_addPassed) rfl rfl ok_Tx_add rfl (Or.inl ⟨rfl, _, _, _, rfl, rfl⟩) (Nat.le_of_ble_eq_true rfl) (Nat.le_of_ble_eq_true rfl) rfl (Nat.le_of_ble_eq_true rfl) (C_Tx_add (by decide) hq) ?_
    show jG E _ 11 [(0, (2, ((22 : Nat) : Int))), (1, (0, a1))] [] v3 _ _
    refine jT.goto (st_Tx_addPassed) rfl (tgt := 35) (by decide) ?_
    cases hv
    exact jT.vret (st_Tx_addPassed) rfl trivial
def f_Tx_addNumber_j40 (h4 : jH) (l3 : Int) : Option (jH) := (f_Tx_add 22 h4 (jadd 48 (jrem l3 10))).bind fun v5 => some v5
def f_Tx_addNumber_j20 (h2 : jH) (l1 : Int) : Option (jH) := if l1 < 10 then f_Tx_addNumber_j40 h2 l1 else (f_Tx_add 22 h2 (jadd 48 (jrem (jdiv l1 10) 10))).bind fun v6 => f_Tx_addNumber_j40 v6 l1
def f_Tx_addNumber (h : jH) (a1 : Int) : Option (jH) := if a1 < 100 then f_Tx_addNumber_j20 h a1 else (f_Tx_add 22 h (jadd 48 (jrem (jdiv a1 100) 10))).bind fun v7 => f_Tx_addNumber_j20 v7 a1
set_option maxRecDepth 100000 in
set_option maxHeartbeats 4000000 in
theorem f_Tx_addNumber_j40_ok (E : jE) {h4 : jH} {l3 : Int} {res : jH} (hv : f_Tx_addNumber_j40 h4 l3 = some res) : jG E M_Tx_addNumber 40 [(0, (2, ((22 : Nat) : Int))), (1, (0, l3))] [] h4 none res := by
  unfold f_Tx_addNumber_j40 at hv
  refine jG.blk (st_Tx_addNumber) 6 (pc1 := 48) (L1 := [(0, (2, ((22 : Nat) : Int))), (1, (0, l3))]) (st1 := [(0, jadd 48 (jrem l3 10)), (2, ((22 : Nat) : Int))]) (h1 := h4) rfl ?_
  obtain ⟨v5, hq, hv⟩ := Option.bind_eq_some_iff.mp hv
  refine jT.cV (M1 := M_Tx_add) (2, ((22 : Nat) : Int)) [(0, jadd 48 (jrem l3 10))] [] (st_Tx_addNumber) rfl rfl ok_Tx_add rfl (Or.inl ⟨rfl, _, _, _, rfl, rfl⟩) (Nat.le_of_ble_eq_true rfl) (Nat.le_of_ble_eq_true rfl) rfl (Nat.le_of_ble_eq_true rfl) (C_Tx_add (by decide) hq) ?_
  show jG E _ 51 [(0, (2, ((22 : Nat) : Int))), (1, (0, l3))] [] v5 _ _
  cases hv
  exact jT.vret (st_Tx_addNumber) rfl trivial
set_option maxRecDepth 100000 in
set_option maxHeartbeats 4000000 in
theorem f_Tx_addNumber_j20_ok (E : jE) {h2 : jH} {l1 : Int} {res : jH} (hv : f_Tx_addNumber_j20 h2 l1 = some res) : jG E M_Tx_addNumber 20 [(0, (2, ((22 : Nat) : Int))), (1, (0, l1))] [] h2 none res := by
  unfold f_Tx_addNumber_j20 at hv
  refine jG.blk (st_Tx_addNumber) 2 (pc1 := 23) (L1 := [(0, (2, ((22 : Nat) : Int))), (1, (0, l1))]) (st1 := [(0, 10), (0, l1)]) (h1 := h2) rfl ?_
  refine jT.if2 (st_Tx_addNumber) rfl (tgt := 40) (by decide) (fun hc => ?_) (fun hc => ?_)
  · have hc : l1 < 10 := hc
    try rw [if_pos hc] at hv
    exact f_Tx_addNumber_j40_ok E hv
  · have hc : ¬ (l1 < 10) := hc
    try rw [if_neg hc] at hv
    refine jG.blk (st_Tx_addNumber) 8 (pc1 := 37) (L1 := [(0, (2, ((22 : Nat) : Int))), (1, (0, l1))]) (st1 := [(0, jadd 48 (jrem (jdiv l1 10) 10)), (2, ((22 : Nat) : Int))]) (h1 := h2) rfl ?_
    obtain ⟨v6, hq, hv⟩ := Option.bind_eq_some_iff.mp hv
    refine jT.cV (M1 := M_Tx_add) (2, ((22 : Nat) : Int)) [(0, jadd 48 (jrem (jdiv l1 10) 10))] [] (st_Tx_addNumber) rfl rfl ok_Tx_add rfl (Or.inl ⟨rfl, _, _, _, rfl, rfl⟩) (Nat.le_of_ble_eq_true rfl) (Nat.le_of_ble_eq_true rfl) rfl (Nat.le_of_ble_eq_true rfl) (C_Tx_add (by decide) hq) ?_
    show jG E _ 40 [(0, (2, ((22 : Nat) : Int))), (1, (0, l1))] [] v6 _ _
    exact f_Tx_addNumber_j40_ok E hv
set_option maxRecDepth 100000 in
set_option maxHeartbeats 4000000 in
theorem C_Tx_addNumber {E : jE} {h : jH} {a1 : Int} {res : jH} (hv : f_Tx_addNumber h a1 = some res) : jC E M_Tx_addNumber [(2, ((22 : Nat) : Int)), (0, a1)] h none res := by
  refine jC.of ok_Tx_addNumber.1 (by rw [jlg]; exact Nat.le_of_ble_eq_true rfl) ?_
  show jG E _ 0 [(0, (2, ((22 : Nat) : Int))), (1, (0, a1))] [] h _ _
  unfold f_Tx_addNumber at hv
  refine jG.blk (st_Tx_addNumber) 2 (pc1 := 3) (L1 := [(0, (2, ((22 : Nat) : Int))), (1, (0, a1))]) (st1 := [(0, 100), (0, a1)]) (h1 := h) rfl ?_
  refine jT.if2 (st_Tx_addNumber) rfl (tgt := 20) (by decide) (fun hc => ?_) (fun hc => ?_)
  · have hc : a1 < 100 := hc
    try rw [if_pos hc] at hv
    exact f_Tx_addNumber_j20_ok E hv
  · have hc : ¬ (a1 < 100) := hc
    try rw [if_neg hc] at hv
    refine jG.blk (st_Tx_addNumber) 8 (pc1 := 17) (L1 := [(0, (2, ((22 : Nat) : Int))), (1, (0, a1))]) (st1 := [(0, jadd 48 (jrem (jdiv a1 100) 10)), (2, ((22 : Nat) : Int))]) (h1 := h) rfl ?_
    obtain ⟨v7, hq, hv⟩ := Option.bind_eq_some_iff.mp hv
    refine jT.cV (M1 := M_Tx_add) (2, ((22 : Nat) : Int)) [(0, jadd 48 (jrem (jdiv a1 100) 10))] [] (st_Tx_addNumber) rfl rfl ok_Tx_add rfl (Or.inl ⟨rfl, _, _, _, rfl, rfl⟩) (Nat.le_of_ble_eq_true rfl) (Nat.le_of_ble_eq_true rfl) rfl (Nat.le_of_ble_eq_true rfl) (C_Tx_add (by decide) hq) ?_
    show jG E _ 20 [(0, (2, ((22 : Nat) : Int))), (1, (0, a1))] [] v7 _ _
    exact f_Tx_addNumber_j20_ok E hv
def f_Tx_addState_j21 (h3 : jH) (s2 : Int) : Option (jH) := (f_Tx_add 22 h3 s2).bind fun v4 => (f_Tx_add 22 v4 32).bind fun v5 => (f_Tx_addRights v5 (v5 2 2)).bind fun v6 => (f_Tx_add 22 v6 32).bind fun v7 => (f_Bd_passedSquare v7).bind fun v8 => (f_Tx_addPassed v7 v8).bind fun v9 => (f_Tx_add 22 v9 32).bind fun v10 => (f_Tx_addNumber v10 (v10 2 4)).bind fun v11 => some v11
def f_Tx_addState (h : jH) : Option (jH) := (f_Tx_add 22 h 32).bind fun v1 => f_Tx_addState_j21 v1 (if v1 2 1 = 0 then 119 else 98)
set_option maxRecDepth 100000 in
set_option maxHeartbeats 4000000 in
theorem f_Tx_addState_j21_ok (E : jE) {h3 : jH} {s2 : Int} {res : jH} (hv : f_Tx_addState_j21 h3 s2 = some res) : jG E M_Tx_addState 21 [(0, (2, ((22 : Nat) : Int))), (1, (2, ((2 : Nat) : Int)))] [(0, s2), (2, ((22 : Nat) : Int))] h3 none res := by
  unfold f_Tx_addState_j21 at hv
  obtain ⟨v4, hq, hv⟩ := Option.bind_eq_some_iff.mp hv
  refine jT.cV (M1 := M_Tx_add) (2, ((22 : Nat) : Int)) [(0, s2)] [] (st_Tx_addState) rfl rfl ok_Tx_add rfl (Or.inl ⟨rfl, _, _, _, rfl, rfl⟩) (Nat.le_of_ble_eq_true rfl) (Nat.le_of_ble_eq_true rfl) rfl (Nat.le_of_ble_eq_true rfl) (C_Tx_add (by decide) hq) ?_
  show jG E _ 24 [(0, (2, ((22 : Nat) : Int))), (1, (2, ((2 : Nat) : Int)))] [] v4 _ _
  refine jG.blk (st_Tx_addState) 2 (pc1 := 27) (L1 := [(0, (2, ((22 : Nat) : Int))), (1, (2, ((2 : Nat) : Int)))]) (st1 := [(0, 32), (2, ((22 : Nat) : Int))]) (h1 := v4) rfl ?_
  obtain ⟨v5, hq, hv⟩ := Option.bind_eq_some_iff.mp hv
  refine jT.cV (M1 := M_Tx_add) (2, ((22 : Nat) : Int)) [(0, 32)] [] (st_Tx_addState) rfl rfl ok_Tx_add rfl (Or.inl ⟨rfl, _, _, _, rfl, rfl⟩) (Nat.le_of_ble_eq_true rfl) (Nat.le_of_ble_eq_true rfl) rfl (Nat.le_of_ble_eq_true rfl) (C_Tx_add (by decide) hq) ?_
  show jG E _ 30 [(0, (2, ((22 : Nat) : Int))), (1, (2, ((2 : Nat) : Int)))] [] v5 _ _
  refine jG.blk (st_Tx_addState) 3 (pc1 := 35) (L1 := [(0, (2, ((22 : Nat) : Int))), (1, (2, ((2 : Nat) : Int)))]) (st1 := [(0, v5 2 2), (2, ((22 : Nat) : Int))]) (h1 := v5) rfl ?_
  obtain ⟨v6, hq, hv⟩ := Option.bind_eq_some_iff.mp hv
  refine jT.cV (M1 := M_Tx_addRights) (2, ((22 : Nat) : Int)) [(0, v5 2 2)] [] (st_Tx_addState) rfl rfl ok_Tx_addRights rfl (Or.inl ⟨rfl, _, _, _, rfl, rfl⟩) (Nat.le_of_ble_eq_true rfl) (Nat.le_of_ble_eq_true rfl) rfl (Nat.le_of_ble_eq_true rfl) (C_Tx_addRights hq) ?_
  show jG E _ 38 [(0, (2, ((22 : Nat) : Int))), (1, (2, ((2 : Nat) : Int)))] [] v6 _ _
  refine jG.blk (st_Tx_addState) 2 (pc1 := 41) (L1 := [(0, (2, ((22 : Nat) : Int))), (1, (2, ((2 : Nat) : Int)))]) (st1 := [(0, 32), (2, ((22 : Nat) : Int))]) (h1 := v6) rfl ?_
  obtain ⟨v7, hq, hv⟩ := Option.bind_eq_some_iff.mp hv
  refine jT.cV (M1 := M_Tx_add) (2, ((22 : Nat) : Int)) [(0, 32)] [] (st_Tx_addState) rfl rfl ok_Tx_add rfl (Or.inl ⟨rfl, _, _, _, rfl, rfl⟩) (Nat.le_of_ble_eq_true rfl) (Nat.le_of_ble_eq_true rfl) rfl (Nat.le_of_ble_eq_true rfl) (C_Tx_add (by decide) hq) ?_
  show jG E _ 44 [(0, (2, ((22 : Nat) : Int))), (1, (2, ((2 : Nat) : Int)))] [] v7 _ _
  refine jG.blk (st_Tx_addState) 2 (pc1 := 46) (L1 := [(0, (2, ((22 : Nat) : Int))), (1, (2, ((2 : Nat) : Int)))]) (st1 := [(2, ((2 : Nat) : Int)), (2, ((22 : Nat) : Int))]) (h1 := v7) rfl ?_
  obtain ⟨v8, hq, hv⟩ := Option.bind_eq_some_iff.mp hv
  refine jT.cV (M1 := M_Bd_passedSquare) (2, ((2 : Nat) : Int)) [] [(2, ((22 : Nat) : Int))] (st_Tx_addState) rfl rfl ok_Bd_passedSquare rfl (Or.inl ⟨rfl, _, _, _, rfl, rfl⟩) (Nat.le_of_ble_eq_true rfl) (Nat.le_of_ble_eq_true rfl) rfl (Nat.le_of_ble_eq_true rfl) (C_Bd_passedSquare hq) ?_
  show jG E _ 49 [(0, (2, ((22 : Nat) : Int))), (1, (2, ((2 : Nat) : Int)))] [(0, v8), (2, ((22 : Nat) : Int))] v7 _ _
  obtain ⟨v9, hq, hv⟩ := Option.bind_eq_some_iff.mp hv
  refine jT.cV (M1 := M_Tx_addPassed) (2, ((22 : Nat) : Int)) [(0, v8)] [] (st_Tx_addState) rfl rfl ok_Tx_addPassed rfl (Or.inl ⟨rfl, _, _, _, rfl, rfl⟩) (Nat.le_of_ble_eq_true rfl) (Nat.le_of_ble_eq_true rfl) rfl (Nat.le_of_ble_eq_true rfl) (C_Tx_addPassed hq) ?_
  show jG E _ 52 [(0, (2, ((22 : Nat) : Int))), (1, (2, ((2 : Nat) : Int)))] [] v9 _ _
  refine jG.blk (st_Tx_addState) 2 (pc1 := 55) (L1 := [(0, (2, ((22 : Nat) : Int))), (1, (2, ((2 : Nat) : Int)))]) (st1 := [(0, 32), (2, ((22 : Nat) : Int))]) (h1 := v9) rfl ?_
  obtain ⟨v10, hq, hv⟩ := Option.bind_eq_some_iff.mp hv
  refine jT.cV (M1 := M_Tx_add) (2, ((22 : Nat) : Int)) [(0, 32)] [] (st_Tx_addState) rfl rfl ok_Tx_add rfl (Or.inl ⟨rfl, _, _, _, rfl, rfl⟩) (Nat.le_of_ble_eq_true rfl) (Nat.le_of_ble_eq_true rfl) rfl (Nat.le_of_ble_eq_true rfl) (C_Tx_add (by decide) hq) ?_
  show jG E _ 58 [(0, (2, ((22 : Nat) : Int))), (1, (2, ((2 : Nat) : Int)))] [] v10 _ _
  refine jG.blk (st_Tx_addState) 3 (pc1 := 63) (L1 := [(0, (2, ((22 : Nat) : Int))), (1, (2, ((2 : Nat) : Int)))]) (st1 := [(0, v10 2 4), (2, ((22 : Nat) : Int))]) (h1 := v10) rfl ?_
  obtain ⟨v11, hq, hv⟩ := Option.bind_eq_some_iff.mp hv
  refine jT.cV (M1 := M_Tx_addNumber) (2, ((22 : Nat) : Int)) [(0, v10 2 4)] [] (st_Tx_addState) rfl rfl ok_Tx_addNumber rfl (Or.inl ⟨rfl, _, _, _, rfl, rfl⟩) (Nat.le_of_ble_eq_true rfl) (Nat.le_of_ble_eq_true rfl) rfl (Nat.le_of_ble_eq_true rfl) (C_Tx_addNumber hq) ?_
  show jG E _ 66 [(0, (2, ((22 : Nat) : Int))), (1, (2, ((2 : Nat) : Int)))] [] v11 _ _
  cases hv
  exact jT.vret (st_Tx_addState) rfl trivial
set_option maxRecDepth 100000 in
set_option maxHeartbeats 4000000 in
theorem C_Tx_addState {E : jE} {h : jH} {res : jH} (hv : f_Tx_addState h = some res) : jC E M_Tx_addState [(2, ((22 : Nat) : Int)), (2, ((2 : Nat) : Int))] h none res := by
  refine jC.of ok_Tx_addState.1 (by rw [jlg]; exact Nat.le_of_ble_eq_true rfl) ?_
  show jG E _ 0 [(0, (2, ((22 : Nat) : Int))), (1, (2, ((2 : Nat) : Int)))] [] h _ _
  unfold f_Tx_addState at hv
  refine jG.blk (st_Tx_addState) 2 (pc1 := 3) (L1 := [(0, (2, ((22 : Nat) : Int))), (1, (2, ((2 : Nat) : Int)))]) (st1 := [(0, 32), (2, ((22 : Nat) : Int))]) (h1 := h) rfl ?_
  obtain ⟨v1, hq, hv⟩ := Option.bind_eq_some_iff.mp hv
  refine jT.cV (M1 := M_Tx_add) (2, ((22 : Nat) : Int)) [(0, 32)] [] (st_Tx_addState) rfl rfl ok_Tx_add rfl (Or.inl ⟨rfl, _, _, _, rfl, rfl⟩) (Nat.le_of_ble_eq_true rfl) (Nat.le_of_ble_eq_true rfl) rfl (Nat.le_of_ble_eq_true rfl) (C_Tx_add (by decide) hq) ?_
  show jG E _ 6 [(0, (2, ((22 : Nat) : Int))), (1, (2, ((2 : Nat) : Int)))] [] v1 _ _
  refine jG.blk (st_Tx_addState) 3 (pc1 := 11) (L1 := [(0, (2, ((22 : Nat) : Int))), (1, (2, ((2 : Nat) : Int)))]) (st1 := [(0, v1 2 1), (2, ((22 : Nat) : Int))]) (h1 := v1) rfl ?_
  refine jT.if1 (st_Tx_addState) rfl (tgt := 19) (by decide) (fun hc => ?_) (fun hc => ?_)
  · have hc : ¬ (v1 2 1 = 0) := hc
    try rw [if_neg hc] at hv
    refine jG.blk (st_Tx_addState) 1 (pc1 := 21) (L1 := [(0, (2, ((22 : Nat) : Int))), (1, (2, ((2 : Nat) : Int)))]) (st1 := [(0, 98), (2, ((22 : Nat) : Int))]) (h1 := v1) rfl ?_
    exact f_Tx_addState_j21_ok E hv
  · have hc : v1 2 1 = 0 := Decidable.not_not.mp hc
    try rw [if_pos hc] at hv
    refine jG.blk (st_Tx_addState) 1 (pc1 := 16) (L1 := [(0, (2, ((22 : Nat) : Int))), (1, (2, ((2 : Nat) : Int)))]) (st1 := [(0, 119), (2, ((22 : Nat) : Int))]) (h1 := v1) rfl ?_
    refine jT.goto (st_Tx_addState) rfl (tgt := 21) (by decide) ?_
    exact f_Tx_addState_j21_ok E hv
