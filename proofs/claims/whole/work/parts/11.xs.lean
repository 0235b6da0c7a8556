def f_X_isSquare (h : jH) (a0 : Int) : Option (Int) := some (if a0 < 0 then 0 else if 64 ≤ a0 then 0 else 1)
set_option maxRecDepth 100000 in
set_option maxHeartbeats 4000000 in
theorem C_X_isSquare {E : jE} {h : jH} {a0 : Int} {res : Int} (hv : f_X_isSquare h a0 = some res) : jC E M_X_isSquare [(0, a0)] h (some (0, res)) h := by
  refine jC.of ok_X_isSquare.1 (by rw [jlg]; exact Nat.le_of_ble_eq_true rfl) ?_
  show jG E _ 0 [(0, (0, a0))] [] h _ _
  unfold f_X_isSquare at hv
  refine jG.blk (st_X_isSquare) 1 (pc1 := 1) (L1 := [(0, (0, a0))]) (st1 := [(0, a0)]) (h1 := h) rfl ?_
  refine jT.if1 (st_X_isSquare) rfl (tgt := 14) (by decide) (fun hc => ?_) (fun hc => ?_)
  · have hc : a0 < 0 := hc
    try rw [if_pos hc] at hv
    refine jG.blk (st_X_isSquare) 1 (pc1 := 15) (L1 := [(0, (0, a0))]) (st1 := [(0, 0)]) (h1 := h) rfl ?_
    cases hv
    exact jT.iret (st_X_isSquare) rfl (Or.inl rfl)
  · have hc : ¬ (a0 < 0) := hc
    try rw [if_neg hc] at hv
    refine jG.blk (st_X_isSquare) 2 (pc1 := 7) (L1 := [(0, (0, a0))]) (st1 := [(0, 64), (0, a0)]) (h1 := h) rfl ?_
    refine jT.if2 (st_X_isSquare) rfl (tgt := 14) (by decide) (fun hc => ?_) (fun hc => ?_)
    · have hc : 64 ≤ a0 := hc
      try rw [if_pos hc] at hv
      refine jG.blk (st_X_isSquare) 1 (pc1 := 15) (L1 := [(0, (0, a0))]) (st1 := [(0, 0)]) (h1 := h) rfl ?_
      cases hv
      exact jT.iret (st_X_isSquare) rfl (Or.inl rfl)
    · have hc : ¬ (64 ≤ a0) := hc
      try rw [if_neg hc] at hv
      refine jG.blk (st_X_isSquare) 1 (pc1 := 11) (L1 := [(0, (0, a0))]) (st1 := [(0, 1)]) (h1 := h) rfl ?_
      refine jT.goto (st_X_isSquare) rfl (tgt := 15) (by decide) ?_
      cases hv
      exact jT.iret (st_X_isSquare) rfl (Or.inr rfl)
def f_X_isSide (h : jH) (a0 : Int) : Option (Int) := some (if a0 = 0 then 1 else if a0 = 1 then 1 else 0)
set_option maxRecDepth 100000 in
set_option maxHeartbeats 4000000 in
theorem C_X_isSide {E : jE} {h : jH} {a0 : Int} {res : Int} (hv : f_X_isSide h a0 = some res) : jC E M_X_isSide [(0, a0)] h (some (0, res)) h := by
  refine jC.of ok_X_isSide.1 (by rw [jlg]; exact Nat.le_of_ble_eq_true rfl) ?_
  show jG E _ 0 [(0, (0, a0))] [] h _ _
  unfold f_X_isSide at hv
  refine jG.blk (st_X_isSide) 1 (pc1 := 1) (L1 := [(0, (0, a0))]) (st1 := [(0, a0)]) (h1 := h) rfl ?_
  refine jT.if1 (st_X_isSide) rfl (tgt := 9) (by decide) (fun hc => ?_) (fun hc => ?_)
  · have hc : a0 = 0 := hc
    try rw [if_pos hc] at hv
    refine jG.blk (st_X_isSide) 1 (pc1 := 10) (L1 := [(0, (0, a0))]) (st1 := [(0, 1)]) (h1 := h) rfl ?_
    refine jT.goto (st_X_isSide) rfl (tgt := 14) (by decide) ?_
    cases hv
    exact jT.iret (st_X_isSide) rfl (Or.inr rfl)
  · have hc : ¬ (a0 = 0) := hc
    try rw [if_neg hc] at hv
    refine jG.blk (st_X_isSide) 2 (pc1 := 6) (L1 := [(0, (0, a0))]) (st1 := [(0, 1), (0, a0)]) (h1 := h) rfl ?_
    refine jT.if2 (st_X_isSide) rfl (tgt := 13) (by decide) (fun hc => ?_) (fun hc => ?_)
    · have hc : ¬ (a0 = 1) := hc
      try rw [if_neg hc] at hv
      refine jG.blk (st_X_isSide) 1 (pc1 := 14) (L1 := [(0, (0, a0))]) (st1 := [(0, 0)]) (h1 := h) rfl ?_
      cases hv
      exact jT.iret (st_X_isSide) rfl (Or.inl rfl)
    · have hc : a0 = 1 := Decidable.not_not.mp hc
      try rw [if_pos hc] at hv
      refine jG.blk (st_X_isSide) 1 (pc1 := 10) (L1 := [(0, (0, a0))]) (st1 := [(0, 1)]) (h1 := h) rfl ?_
      refine jT.goto (st_X_isSide) rfl (tgt := 14) (by decide) ?_
      cases hv
      exact jT.iret (st_X_isSide) rfl (Or.inr rfl)
def f_X_kindOf (h : jH) (a0 : Int) : Option (Int) := some (if a0 ≤ 6 then a0 else jsub a0 6)
set_option maxRecDepth 100000 in
set_option maxHeartbeats 4000000 in
theorem C_X_kindOf {E : jE} {h : jH} {a0 : Int} {res : Int} (hv : f_X_kindOf h a0 = some res) : jC E M_X_kindOf [(0, a0)] h (some (0, res)) h := by
  refine jC.of ok_X_kindOf.1 (by rw [jlg]; exact Nat.le_of_ble_eq_true rfl) ?_
  show jG E _ 0 [(0, (0, a0))] [] h _ _
  unfold f_X_kindOf at hv
  refine jG.blk (st_X_kindOf) 2 (pc1 := 3) (L1 := [(0, (0, a0))]) (st1 := [(0, 6), (0, a0)]) (h1 := h) rfl ?_
  refine jT.if2 (st_X_kindOf) rfl (tgt := 13) (by decide) (fun hc => ?_) (fun hc => ?_)
  · have hc : a0 ≤ 6 := hc
    try rw [if_pos hc] at hv
    refine jG.blk (st_X_kindOf) 1 (pc1 := 14) (L1 := [(0, (0, a0))]) (st1 := [(0, a0)]) (h1 := h) rfl ?_
    cases hv
    exact jT.iret (st_X_kindOf) rfl trivial
  · have hc : ¬ (a0 ≤ 6) := hc
    try rw [if_neg hc] at hv
    refine jG.blk (st_X_kindOf) 3 (pc1 := 10) (L1 := [(0, (0, a0))]) (st1 := [(0, jsub a0 6)]) (h1 := h) rfl ?_
    refine jT.goto (st_X_kindOf) rfl (tgt := 14) (by decide) ?_
    cases hv
    exact jT.iret (st_X_kindOf) rfl trivial
def f_X_pieceOf (h : jH) (a0 : Int) (a1 : Int) : Option (Int) := some (if a1 = 0 then a0 else jadd a0 6)
set_option maxRecDepth 100000 in
set_option maxHeartbeats 4000000 in
theorem C_X_pieceOf {E : jE} {h : jH} {a0 : Int} {a1 : Int} {res : Int} (hv : f_X_pieceOf h a0 a1 = some res) : jC E M_X_pieceOf [(0, a0), (0, a1)] h (some (0, res)) h := by
  refine jC.of ok_X_pieceOf.1 (by rw [jlg]; exact Nat.le_of_ble_eq_true rfl) ?_
  show jG E _ 0 [(0, (0, a0)), (1, (0, a1))] [] h _ _
  unfold f_X_pieceOf at hv
  refine jG.blk (st_X_pieceOf) 1 (pc1 := 1) (L1 := [(0, (0, a0)), (1, (0, a1))]) (st1 := [(0, a1)]) (h1 := h) rfl ?_
  refine jT.if1 (st_X_pieceOf) rfl (tgt := 8) (by decide) (fun hc => ?_) (fun hc => ?_)
  · have hc : ¬ (a1 = 0) := hc
    try rw [if_neg hc] at hv
    refine jG.blk (st_X_pieceOf) 3 (pc1 := 12) (L1 := [(0, (0, a0)), (1, (0, a1))]) (st1 := [(0, jadd a0 6)]) (h1 := h) rfl ?_
    cases hv
    exact jT.iret (st_X_pieceOf) rfl trivial
  · have hc : a1 = 0 := Decidable.not_not.mp hc
    try rw [if_pos hc] at hv
    refine jG.blk (st_X_pieceOf) 1 (pc1 := 5) (L1 := [(0, (0, a0)), (1, (0, a1))]) (st1 := [(0, a0)]) (h1 := h) rfl ?_
    refine jT.goto (st_X_pieceOf) rfl (tgt := 12) (by decide) ?_
    cases hv
    exact jT.iret (st_X_pieceOf) rfl trivial
def f_X_rankFor (h : jH) (a0 : Int) (a1 : Int) : Option (Int) := some (if a0 = 0 then a1 else jsub 7 a1)
set_option maxRecDepth 100000 in
set_option maxHeartbeats 4000000 in
theorem C_X_rankFor {E : jE} {h : jH} {a0 : Int} {a1 : Int} {res : Int} (hv : f_X_rankFor h a0 a1 = some res) : jC E M_X_rankFor [(0, a0), (0, a1)] h (some (0, res)) h := by
  refine jC.of ok_X_rankFor.1 (by rw [jlg]; exact Nat.le_of_ble_eq_true rfl) ?_
  show jG E _ 0 [(0, (0, a0)), (1, (0, a1))] [] h _ _
  unfold f_X_rankFor at hv
  refine jG.blk (st_X_rankFor) 1 (pc1 := 1) (L1 := [(0, (0, a0)), (1, (0, a1))]) (st1 := [(0, a0)]) (h1 := h) rfl ?_
  refine jT.if1 (st_X_rankFor) rfl (tgt := 8) (by decide) (fun hc => ?_) (fun hc => ?_)
  · have hc : ¬ (a0 = 0) := hc
    try rw [if_neg hc] at hv
    refine jG.blk (st_X_rankFor) 3 (pc1 := 12) (L1 := [(0, (0, a0)), (1, (0, a1))]) (st1 := [(0, jsub 7 a1)]) (h1 := h) rfl ?_
    cases hv
    exact jT.iret (st_X_rankFor) rfl trivial
  · have hc : a0 = 0 := Decidable.not_not.mp hc
    try rw [if_pos hc] at hv
    refine jG.blk (st_X_rankFor) 1 (pc1 := 5) (L1 := [(0, (0, a0)), (1, (0, a1))]) (st1 := [(0, a1)]) (h1 := h) rfl ?_
    refine jT.goto (st_X_rankFor) rfl (tgt := 12) (by decide) ?_
    cases hv
    exact jT.iret (st_X_rankFor) rfl trivial
def f_X_squareAt (h : jH) (a0 : Int) (a1 : Int) : Option (Int) := some (jadd (jmul 8 a1) a0)
set_option maxRecDepth 100000 in
set_option maxHeartbeats 4000000 in
theorem C_X_squareAt {E : jE} {h : jH} {a0 : Int} {a1 : Int} {res : Int} (hv : f_X_squareAt h a0 a1 = some res) : jC E M_X_squareAt [(0, a0), (0, a1)] h (some (0, res)) h := by
  refine jC.of ok_X_squareAt.1 (by rw [jlg]; exact Nat.le_of_ble_eq_true rfl) ?_
  show jG E _ 0 [(0, (0, a0)), (1, (0, a1))] [] h _ _
  unfold f_X_squareAt at hv
  refine jG.blk (st_X_squareAt) 5 (pc1 := 6) (L1 := [(0, (0, a0)), (1, (0, a1))]) (st1 := [(0, jadd (jmul 8 a1) a0)]) (h1 := h) rfl ?_
  cases hv
  exact jT.iret (st_X_squareAt) rfl trivial
def f_X_kingHome (h : jH) (a0 : Int) : Option (Int) := (f_X_rankFor h a0 0).bind fun v1 => (f_X_squareAt h 4 v1).bind fun v2 => some v2
set_option maxRecDepth 100000 in
set_option maxHeartbeats 4000000 in
theorem C_X_kingHome {E : jE} {h : jH} {a0 : Int} {res : Int} (hv : f_X_kingHome h a0 = some res) : jC E M_X_kingHome [(0, a0)] h (some (0, res)) h := by
  refine jC.of ok_X_kingHome.1 (by rw [jlg]; exact Nat.le_of_ble_eq_true rfl) ?_
  show jG E _ 0 [(0, (0, a0))] [] h _ _
  unfold f_X_kingHome at hv
  refine jG.blk (st_X_kingHome) 3 (pc1 := 3) (L1 := [(0, (0, a0))]) (st1 := [(0, 0), (0, a0), (0, 4)]) (h1 := h) rfl ?_
  obtain ⟨v1, hq, hv⟩ := Option.bind_eq_some_iff.mp hv
  refine jT.cS (M1 := M_X_rankFor) [(0, a0), (0, 0)] [(0, 4)] (st_X_kingHome) rfl rfl ok_X_rankFor rfl (Nat.le_of_ble_eq_true rfl) (Nat.le_of_ble_eq_true rfl) rfl (Nat.le_of_ble_eq_true rfl) (C_X_rankFor hq) ?_
  show jG E _ 6 [(0, (0, a0))] [(0, v1), (0, 4)] h _ _
  obtain ⟨v2, hq, hv⟩ := Option.bind_eq_some_iff.mp hv
  refine jT.cS (M1 := M_X_squareAt) [(0, 4), (0, v1)] [] (st_X_kingHome) rfl rfl ok_X_squareAt rfl (Nat.le_of_ble_eq_true rfl) (Nat.le_of_ble_eq_true rfl) rfl (Nat.le_of_ble_eq_true rfl) (C_X_squareAt hq) ?_
  show jG E _ 9 [(0, (0, a0))] [(0, v2)] h _ _
  cases hv
  exact jT.iret (st_X_kingHome) rfl trivial
def f_X_rookHome_j10 (h : jH) (l1 : Int) (s2 : Int) : Option (Int) := (f_X_rankFor h l1 0).bind fun v3 => (f_X_squareAt h s2 v3).bind fun v4 => some v4
def f_X_rookHome (h : jH) (a0 : Int) (a1 : Int) : Option (Int) := f_X_rookHome_j10 h a0 (if a1 = 0 then 7 else 0)
set_option maxRecDepth 100000 in
set_option maxHeartbeats 4000000 in
theorem f_X_rookHome_j10_ok (E : jE) {h : jH} {l1 : Int} {s2 : Int} {res : Int} (hv : f_X_rookHome_j10 h l1 s2 = some res) : jG E M_X_rookHome 10 [(0, (0, l1))] [(0, s2)] h (some (0, res)) h := by
  unfold f_X_rookHome_j10 at hv
  refine jG.blk (st_X_rookHome) 2 (pc1 := 12) (L1 := [(0, (0, l1))]) (st1 := [(0, 0), (0, l1), (0, s2)]) (h1 := h) rfl ?_
  obtain ⟨v3, hq, hv⟩ := Option.bind_eq_some_iff.mp hv
  refine jT.cS (M1 := M_X_rankFor) [(0, l1), (0, 0)] [(0, s2)] (st_X_rookHome) rfl rfl ok_X_rankFor rfl (Nat.le_of_ble_eq_true rfl) (Nat.le_of_ble_eq_true rfl) rfl (Nat.le_of_ble_eq_true rfl) (C_X_rankFor hq) ?_
  show jG E _ 15 [(0, (0, l1))] [(0, v3), (0, s2)] h _ _
  obtain ⟨v4, hq, hv⟩ := Option.bind_eq_some_iff.mp hv
  refine jT.cS (M1 := M_X_squareAt) [(0, s2), (0, v3)] [] (st_X_rookHome) rfl rfl ok_X_squareAt rfl (Nat.le_of_ble_eq_true rfl) (Nat.le_of_ble_eq_true rfl) rfl (Nat.le_of_ble_eq_true rfl) (C_X_squareAt hq) ?_
  show jG E _ 18 [(0, (0, l1))] [(0, v4)] h _ _
  cases hv
  exact jT.iret (st_X_rookHome) rfl trivial
set_option maxRecDepth 100000 in
set_option maxHeartbeats 4000000 in
theorem C_X_rookHome {E : jE} {h : jH} {a0 : Int} {a1 : Int} {res : Int} (hv : f_X_rookHome h a0 a1 = some res) : jC E M_X_rookHome [(0, a0), (0, a1)] h (some (0, res)) h := by
  refine jC.of ok_X_rookHome.1 (by rw [jlg]; exact Nat.le_of_ble_eq_true rfl) ?_
  show jG E _ 0 [(0, (0, a0)), (1, (0, a1))] [] h _ _
  unfold f_X_rookHome at hv
  refine jG.blk (st_X_rookHome) 1 (pc1 := 1) (L1 := [(0, (0, a0)), (1, (0, a1))]) (st1 := [(0, a1)]) (h1 := h) rfl ?_
  refine jT.if1 (st_X_rookHome) rfl (tgt := 9) (by decide) (fun hc => ?_) (fun hc => ?_)
  · have hc : ¬ (a1 = 0) := hc
    try rw [if_neg hc] at hv
    refine jG.blk (st_X_rookHome) 1 (pc1 := 10) (L1 := [(0, (0, a0)), (1, (0, a1))]) (st1 := [(0, 0)]) (h1 := h) rfl ?_
    refine jG.subp [0] (L1 := [(0, (0, a0))]) rfl ?_
    exact f_X_rookHome_j10_ok E hv
  · have hc : a1 = 0 := Decidable.not_not.mp hc
    try rw [if_pos hc] at hv
    refine jG.blk (st_X_rookHome) 1 (pc1 := 6) (L1 := [(0, (0, a0)), (1, (0, a1))]) (st1 := [(0, 7)]) (h1 := h) rfl ?_
    refine jT.goto (st_X_rookHome) rfl (tgt := 10) (by decide) ?_
    refine jG.subp [0] (L1 := [(0, (0, a0))]) rfl ?_
    exact f_X_rookHome_j10_ok E hv
def f_X_rightOf (h : jH) (a0 : Int) (a1 : Int) : Option (Int) := some (jshl 1 (jadd (jmul 2 a0) a1))
set_option maxRecDepth 100000 in
set_option maxHeartbeats 4000000 in
theorem C_X_rightOf {E : jE} {h : jH} {a0 : Int} {a1 : Int} {res : Int} (hv : f_X_rightOf h a0 a1 = some res) : jC E M_X_rightOf [(0, a0), (0, a1)] h (some (0, res)) h := by
  refine jC.of ok_X_rightOf.1 (by rw [jlg]; exact Nat.le_of_ble_eq_true rfl) ?_
  show jG E _ 0 [(0, (0, a0)), (1, (0, a1))] [] h _ _
  unfold f_X_rightOf at hv
  refine jG.blk (st_X_rightOf) 7 (pc1 := 7) (L1 := [(0, (0, a0)), (1, (0, a1))]) (st1 := [(0, jshl 1 (jadd (jmul 2 a0) a1))]) (h1 := h) rfl ?_
  cases hv
  exact jT.iret (st_X_rightOf) rfl trivial
def f_X_otherSide (h : jH) (a0 : Int) : Option (Int) := some (jsub 1 a0)
set_option maxRecDepth 100000 in
set_option maxHeartbeats 4000000 in
theorem C_X_otherSide {E : jE} {h : jH} {a0 : Int} {res : Int} (hv : f_X_otherSide h a0 = some res) : jC E M_X_otherSide [(0, a0)] h (some (0, res)) h := by
  refine jC.of ok_X_otherSide.1 (by rw [jlg]; exact Nat.le_of_ble_eq_true rfl) ?_
  show jG E _ 0 [(0, (0, a0))] [] h _ _
  unfold f_X_otherSide at hv
  refine jG.blk (st_X_otherSide) 3 (pc1 := 3) (L1 := [(0, (0, a0))]) (st1 := [(0, jsub 1 a0)]) (h1 := h) rfl ?_
  cases hv
  exact jT.iret (st_X_otherSide) rfl trivial
def f_X_shifted (h : jH) (a0 : Int) (a1 : Int) (a2 : Int) : Option (Int) := some (if jadd (jand a0 7) a1 < 0 then (-1) else if 7 < jadd (jand a0 7) a1 then (-1) else if jadd (jshr a0 3) a2 < 0 then (-1) else if jadd (jshr a0 3) a2 ≤ 7 then jadd (jmul 8 (jadd (jshr a0 3) a2)) (jadd (jand a0 7) a1) else (-1))
set_option maxRecDepth 100000 in
set_option maxHeartbeats 4000000 in
theorem C_X_shifted {E : jE} {h : jH} {a0 : Int} {a1 : Int} {a2 : Int} {res : Int} (hv : f_X_shifted h a0 a1 a2 = some res) : jC E M_X_shifted [(0, a0), (0, a1), (0, a2)] h (some (0, res)) h := by
  refine jC.of ok_X_shifted.1 (by rw [jlg]; exact Nat.le_of_ble_eq_true rfl) ?_
  show jG E _ 0 [(0, (0, a0)), (1, (0, a1)), (2, (0, a2))] [] h _ _
  unfold f_X_shifted at hv
  refine jG.blk (st_X_shifted) 13 (pc1 := 15) (L1 := [(4, (0, jadd (jshr a0 3) a2)), (3, (0, jadd (jand a0 7) a1)), (0, (0, a0)), (1, (0, a1)), (2, (0, a2))]) (st1 := [(0, jadd (jand a0 7) a1)]) (h1 := h) rfl ?_
  refine jT.if1 (st_X_shifted) rfl (tgt := 36) (by decide) (fun hc => ?_) (fun hc => ?_)
  · have hc : jadd (jand a0 7) a1 < 0 := hc
    try rw [if_pos hc] at hv
    refine jG.blk (st_X_shifted) 1 (pc1 := 37) (L1 := [(4, (0, jadd (jshr a0 3) a2)), (3, (0, jadd (jand a0 7) a1)), (0, (0, a0)), (1, (0, a1)), (2, (0, a2))]) (st1 := [(0, (-1))]) (h1 := h) rfl ?_
    cases hv
    exact jT.iret (st_X_shifted) rfl trivial
  · have hc : ¬ (jadd (jand a0 7) a1 < 0) := hc
    try rw [if_neg hc] at hv
    refine jG.blk (st_X_shifted) 2 (pc1 := 21) (L1 := [(4, (0, jadd (jshr a0 3) a2)), (3, (0, jadd (jand a0 7) a1)), (0, (0, a0)), (1, (0, a1)), (2, (0, a2))]) (st1 := [(0, 7), (0, jadd (jand a0 7) a1)]) (h1 := h) rfl ?_
    refine jT.if2 (st_X_shifted) rfl (tgt := 36) (by decide) (fun hc => ?_) (fun hc => ?_)
    · have hc : 7 < jadd (jand a0 7) a1 := hc
      try rw [if_pos hc] at hv
      refine jG.blk (st_X_shifted) 1 (pc1 := 37) (L1 := [(4, (0, jadd (jshr a0 3) a2)), (3, (0, jadd (jand a0 7) a1)), (0, (0, a0)), (1, (0, a1)), (2, (0, a2))]) (st1 := [(0, (-1))]) (h1 := h) rfl ?_
      cases hv
      exact jT.iret (st_X_shifted) rfl trivial
    · have hc : ¬ (7 < jadd (jand a0 7) a1) := hc
      try rw [if_neg hc] at hv
      refine jG.blk (st_X_shifted) 1 (pc1 := 26) (L1 := [(4, (0, jadd (jshr a0 3) a2)), (3, (0, jadd (jand a0 7) a1)), (0, (0, a0)), (1, (0, a1)), (2, (0, a2))]) (st1 := [(0, jadd (jshr a0 3) a2)]) (h1 := h) rfl ?_
      refine jT.if1 (st_X_shifted) rfl (tgt := 36) (by decide) (fun hc => ?_) (fun hc => ?_)
      · have hc : jadd (jshr a0 3) a2 < 0 := hc
        try rw [if_pos hc] at hv
        refine jG.blk (st_X_shifted) 1 (pc1 := 37) (L1 := [(4, (0, jadd (jshr a0 3) a2)), (3, (0, jadd (jand a0 7) a1)), (0, (0, a0)), (1, (0, a1)), (2, (0, a2))]) (st1 := [(0, (-1))]) (h1 := h) rfl ?_
        cases hv
        exact jT.iret (st_X_shifted) rfl trivial
      · have hc : ¬ (jadd (jshr a0 3) a2 < 0) := hc
        try rw [if_neg hc] at hv
        refine jG.blk (st_X_shifted) 2 (pc1 := 33) (L1 := [(4, (0, jadd (jshr a0 3) a2)), (3, (0, jadd (jand a0 7) a1)), (0, (0, a0)), (1, (0, a1)), (2, (0, a2))]) (st1 := [(0, 7), (0, jadd (jshr a0 3) a2)]) (h1 := h) rfl ?_
        refine jT.if2 (st_X_shifted) rfl (tgt := 38) (by decide) (fun hc => ?_) (fun hc => ?_)
        · have hc : jadd (jshr a0 3) a2 ≤ 7 := hc
          try rw [if_pos hc] at hv
          refine jG.blk (st_X_shifted) 5 (pc1 := 45) (L1 := [(4, (0, jadd (jshr a0 3) a2)), (3, (0, jadd (jand a0 7) a1)), (0, (0, a0)), (1, (0, a1)), (2, (0, a2))]) (st1 := [(0, jadd (jmul 8 (jadd (jshr a0 3) a2)) (jadd (jand a0 7) a1))]) (h1 := h) rfl ?_
          cases hv
          exact jT.iret (st_X_shifted) rfl trivial
        · have hc : ¬ (jadd (jshr a0 3) a2 ≤ 7) := hc
          try rw [if_neg hc] at hv
          refine jG.blk (st_X_shifted) 1 (pc1 := 37) (L1 := [(4, (0, jadd (jshr a0 3) a2)), (3, (0, jadd (jand a0 7) a1)), (0, (0, a0)), (1, (0, a1)), (2, (0, a2))]) (st1 := [(0, (-1))]) (h1 := h) rfl ?_
          cases hv
          exact jT.iret (st_X_shifted) rfl trivial
def f_X_sideOf (h : jH) (a0 : Int) : Option (Int) := some (if a0 = 0 then (-1) else if a0 ≤ 6 then 0 else 1)
set_option maxRecDepth 100000 in
set_option maxHeartbeats 4000000 in
theorem C_X_sideOf {E : jE} {h : jH} {a0 : Int} {res : Int} (hv : f_X_sideOf h a0 = some res) : jC E M_X_sideOf [(0, a0)] h (some (0, res)) h := by
  refine jC.of ok_X_sideOf.1 (by rw [jlg]; exact Nat.le_of_ble_eq_true rfl) ?_
  show jG E _ 0 [(0, (0, a0))] [] h _ _
  unfold f_X_sideOf at hv
  refine jG.blk (st_X_sideOf) 1 (pc1 := 1) (L1 := [(0, (0, a0))]) (st1 := [(0, a0)]) (h1 := h) rfl ?_
  refine jT.if1 (st_X_sideOf) rfl (tgt := 6) (by decide) (fun hc => ?_) (fun hc => ?_)
  · have hc : ¬ (a0 = 0) := hc
    try rw [if_neg hc] at hv
    refine jG.blk (st_X_sideOf) 2 (pc1 := 9) (L1 := [(0, (0, a0))]) (st1 := [(0, 6), (0, a0)]) (h1 := h) rfl ?_
    refine jT.if2 (st_X_sideOf) rfl (tgt := 16) (by decide) (fun hc => ?_) (fun hc => ?_)
    · have hc : a0 ≤ 6 := hc
      try rw [if_pos hc] at hv
      refine jG.blk (st_X_sideOf) 1 (pc1 := 17) (L1 := [(0, (0, a0))]) (st1 := [(0, 0)]) (h1 := h) rfl ?_
      cases hv
      exact jT.iret (st_X_sideOf) rfl trivial
    · have hc : ¬ (a0 ≤ 6) := hc
      try rw [if_neg hc] at hv
      refine jG.blk (st_X_sideOf) 1 (pc1 := 13) (L1 := [(0, (0, a0))]) (st1 := [(0, 1)]) (h1 := h) rfl ?_
      refine jT.goto (st_X_sideOf) rfl (tgt := 17) (by decide) ?_
      cases hv
      exact jT.iret (st_X_sideOf) rfl trivial
  · have hc : a0 = 0 := Decidable.not_not.mp hc
    try rw [if_pos hc] at hv
    refine jG.blk (st_X_sideOf) 1 (pc1 := 5) (L1 := [(0, (0, a0))]) (st1 := [(0, (-1))]) (h1 := h) rfl ?_
    cases hv
    exact jT.iret (st_X_sideOf) rfl trivial
def f_X_forwardOf (h : jH) (a0 : Int) : Option (Int) := some (if a0 = 0 then 1 else (-1))
set_option maxRecDepth 100000 in
set_option maxHeartbeats 4000000 in
theorem C_X_forwardOf {E : jE} {h : jH} {a0 : Int} {res : Int} (hv : f_X_forwardOf h a0 = some res) : jC E M_X_forwardOf [(0, a0)] h (some (0, res)) h := by
  refine jC.of ok_X_forwardOf.1 (by rw [jlg]; exact Nat.le_of_ble_eq_true rfl) ?_
  show jG E _ 0 [(0, (0, a0))] [] h _ _
  unfold f_X_forwardOf at hv
  refine jG.blk (st_X_forwardOf) 1 (pc1 := 1) (L1 := [(0, (0, a0))]) (st1 := [(0, a0)]) (h1 := h) rfl ?_
  refine jT.if1 (st_X_forwardOf) rfl (tgt := 8) (by decide) (fun hc => ?_) (fun hc => ?_)
  · have hc : ¬ (a0 = 0) := hc
    try rw [if_neg hc] at hv
    refine jG.blk (st_X_forwardOf) 1 (pc1 := 9) (L1 := [(0, (0, a0))]) (st1 := [(0, (-1))]) (h1 := h) rfl ?_
    cases hv
    exact jT.iret (st_X_forwardOf) rfl trivial
  · have hc : a0 = 0 := Decidable.not_not.mp hc
    try rw [if_pos hc] at hv
    refine jG.blk (st_X_forwardOf) 1 (pc1 := 5) (L1 := [(0, (0, a0))]) (st1 := [(0, 1)]) (h1 := h) rfl ?_
    refine jT.goto (st_X_forwardOf) rfl (tgt := 9) (by decide) ?_
    cases hv
    exact jT.iret (st_X_forwardOf) rfl trivial
def f_X_reachOf_j34 (h : jH) (l3 : Int) (l4 : Int) : Option (Int) := some (if l3 = 3 then if l4 = 0 then 7 else 0 else 0)
def f_X_reachOf_j11 (h : jH) (l1 : Int) (s2 : Int) : Option (Int) := if l1 = 6 then some 1 else if l1 = 5 then some 7 else if l1 = 4 then if s2 = 0 then f_X_reachOf_j34 h l1 s2 else some 7 else f_X_reachOf_j34 h l1 s2
def f_X_reachOf (h : jH) (a0 : Int) (a1 : Int) : Option (Int) := f_X_reachOf_j11 h a0 (if jand a1 1 = 0 then 1 else 0)
set_option maxRecDepth 100000 in
set_option maxHeartbeats 4000000 in
theorem f_X_reachOf_j34_ok (E : jE) {h : jH} {l3 : Int} {l4 : Int} {res : Int} (hv : f_X_reachOf_j34 h l3 l4 = some res) : jG E M_X_reachOf 34 [(0, (0, l3)), (2, (0, l4))] [] h (some (0, res)) h := by
  unfold f_X_reachOf_j34 at hv
  refine jG.blk (st_X_reachOf) 2 (pc1 := 36) (L1 := [(0, (0, l3)), (2, (0, l4))]) (st1 := [(0, 3), (0, l3)]) (h1 := h) rfl ?_
  refine jT.if2 (st_X_reachOf) rfl (tgt := 46) (by decide) (fun hc => ?_) (fun hc => ?_)
  · have hc : ¬ (l3 = 3) := hc
    try rw [if_neg hc] at hv
    refine jG.blk (st_X_reachOf) 1 (pc1 := 47) (L1 := [(0, (0, l3)), (2, (0, l4))]) (st1 := [(0, 0)]) (h1 := h) rfl ?_
    cases hv
    exact jT.iret (st_X_reachOf) rfl trivial
  · have hc : l3 = 3 := Decidable.not_not.mp hc
    try rw [if_pos hc] at hv
    refine jG.blk (st_X_reachOf) 1 (pc1 := 40) (L1 := [(0, (0, l3)), (2, (0, l4))]) (st1 := [(0, l4)]) (h1 := h) rfl ?_
    refine jT.if1 (st_X_reachOf) rfl (tgt := 46) (by decide) (fun hc => ?_) (fun hc => ?_)
    · have hc : ¬ (l4 = 0) := hc
      try rw [if_neg hc] at hv
      refine jG.blk (st_X_reachOf) 1 (pc1 := 47) (L1 := [(0, (0, l3)), (2, (0, l4))]) (st1 := [(0, 0)]) (h1 := h) rfl ?_
      cases hv
      exact jT.iret (st_X_reachOf) rfl trivial
    · have hc : l4 = 0 := Decidable.not_not.mp hc
      try rw [if_pos hc] at hv
      refine jG.blk (st_X_reachOf) 1 (pc1 := 45) (L1 := [(0, (0, l3)), (2, (0, l4))]) (st1 := [(0, 7)]) (h1 := h) rfl ?_
      cases hv
      exact jT.iret (st_X_reachOf) rfl trivial
set_option maxRecDepth 100000 in
set_option maxHeartbeats 4000000 in
theorem f_X_reachOf_j11_ok (E : jE) {h : jH} {l1 : Int} {s2 : Int} {res : Int} (hv : f_X_reachOf_j11 h l1 s2 = some res) : jG E M_X_reachOf 11 [(0, (0, l1))] [(0, s2)] h (some (0, res)) h := by
  unfold f_X_reachOf_j11 at hv
  refine jG.blk (st_X_reachOf) 3 (pc1 := 15) (L1 := [(2, (0, s2)), (0, (0, l1))]) (st1 := [(0, 6), (0, l1)]) (h1 := h) rfl ?_
  refine jT.if2 (st_X_reachOf) rfl (tgt := 20) (by decide) (fun hc => ?_) (fun hc => ?_)
  · have hc : ¬ (l1 = 6) := hc
    try rw [if_neg hc] at hv
    refine jG.blk (st_X_reachOf) 2 (pc1 := 22) (L1 := [(2, (0, s2)), (0, (0, l1))]) (st1 := [(0, 5), (0, l1)]) (h1 := h) rfl ?_
    refine jT.if2 (st_X_reachOf) rfl (tgt := 43) (by decide) (fun hc => ?_) (fun hc => ?_)
    · have hc : l1 = 5 := hc
      try rw [if_pos hc] at hv
      refine jG.blk (st_X_reachOf) 1 (pc1 := 45) (L1 := [(2, (0, s2)), (0, (0, l1))]) (st1 := [(0, 7)]) (h1 := h) rfl ?_
      cases hv
      exact jT.iret (st_X_reachOf) rfl trivial
    · have hc : ¬ (l1 = 5) := hc
      try rw [if_neg hc] at hv
      refine jG.blk (st_X_reachOf) 2 (pc1 := 27) (L1 := [(2, (0, s2)), (0, (0, l1))]) (st1 := [(0, 4), (0, l1)]) (h1 := h) rfl ?_
      refine jT.if2 (st_X_reachOf) rfl (tgt := 34) (by decide) (fun hc => ?_) (fun hc => ?_)
      · have hc : ¬ (l1 = 4) := hc
        try rw [if_neg hc] at hv
        refine jG.subp [1, 0] (L1 := [(0, (0, l1)), (2, (0, s2))]) rfl ?_
        exact f_X_reachOf_j34_ok E hv
      · have hc : l1 = 4 := Decidable.not_not.mp hc
        try rw [if_pos hc] at hv
        refine jG.blk (st_X_reachOf) 1 (pc1 := 31) (L1 := [(2, (0, s2)), (0, (0, l1))]) (st1 := [(0, s2)]) (h1 := h) rfl ?_
        refine jT.if1 (st_X_reachOf) rfl (tgt := 43) (by decide) (fun hc => ?_) (fun hc => ?_)
        · have hc : ¬ (s2 = 0) := hc
          try rw [if_neg hc] at hv
          refine jG.blk (st_X_reachOf) 1 (pc1 := 45) (L1 := [(2, (0, s2)), (0, (0, l1))]) (st1 := [(0, 7)]) (h1 := h) rfl ?_
          cases hv
          exact jT.iret (st_X_reachOf) rfl trivial
        · have hc : s2 = 0 := Decidable.not_not.mp hc
          try rw [if_pos hc] at hv
          refine jG.subp [1, 0] (L1 := [(0, (0, l1)), (2, (0, s2))]) rfl ?_
          exact f_X_reachOf_j34_ok E hv
  · have hc : l1 = 6 := Decidable.not_not.mp hc
    try rw [if_pos hc] at hv
    refine jG.blk (st_X_reachOf) 1 (pc1 := 19) (L1 := [(2, (0, s2)), (0, (0, l1))]) (st1 := [(0, 1)]) (h1 := h) rfl ?_
    cases hv
    exact jT.iret (st_X_reachOf) rfl trivial
set_option maxRecDepth 100000 in
set_option maxHeartbeats 4000000 in
theorem C_X_reachOf {E : jE} {h : jH} {a0 : Int} {a1 : Int} {res : Int} (hv : f_X_reachOf h a0 a1 = some res) : jC E M_X_reachOf [(0, a0), (0, a1)] h (some (0, res)) h := by
  refine jC.of ok_X_reachOf.1 (by rw [jlg]; exact Nat.le_of_ble_eq_true rfl) ?_
  show jG E _ 0 [(0, (0, a0)), (1, (0, a1))] [] h _ _
  unfold f_X_reachOf at hv
  refine jG.blk (st_X_reachOf) 3 (pc1 := 3) (L1 := [(0, (0, a0)), (1, (0, a1))]) (st1 := [(0, jand a1 1)]) (h1 := h) rfl ?_
  refine jT.if1 (st_X_reachOf) rfl (tgt := 10) (by decide) (fun hc => ?_) (fun hc => ?_)
  · have hc : ¬ (jand a1 1 = 0) := hc
    try rw [if_neg hc] at hv
    refine jG.blk (st_X_reachOf) 1 (pc1 := 11) (L1 := [(0, (0, a0)), (1, (0, a1))]) (st1 := [(0, 0)]) (h1 := h) rfl ?_
    refine jG.subp [0] (L1 := [(0, (0, a0))]) rfl ?_
    exact f_X_reachOf_j11_ok E hv
  · have hc : jand a1 1 = 0 := Decidable.not_not.mp hc
    try rw [if_pos hc] at hv
    refine jG.blk (st_X_reachOf) 1 (pc1 := 7) (L1 := [(0, (0, a0)), (1, (0, a1))]) (st1 := [(0, 1)]) (h1 := h) rfl ?_
    refine jT.goto (st_X_reachOf) rfl (tgt := 11) (by decide) ?_
    refine jG.subp [0] (L1 := [(0, (0, a0))]) rfl ?_
    exact f_X_reachOf_j11_ok E hv
def f_X_byteOf (h : jH) (a0 : Int) (a1 : Int) : Option (Int) := some (jand (jl2i (jlushr a0 (jmul 8 a1))) 255)
set_option maxRecDepth 100000 in
set_option maxHeartbeats 4000000 in
theorem C_X_byteOf {E : jE} {h : jH} {a0 : Int} {a1 : Int} {res : Int} (hv : f_X_byteOf h a0 a1 = some res) : jC E M_X_byteOf [(1, a0), (0, a1)] h (some (0, res)) h := by
  refine jC.of ok_X_byteOf.1 (by rw [jlg]; exact Nat.le_of_ble_eq_true rfl) ?_
  show jG E _ 0 [(0, (1, a0)), (2, (0, a1))] [] h _ _
  unfold f_X_byteOf at hv
  refine jG.blk (st_X_byteOf) 8 (pc1 := 11) (L1 := [(0, (1, a0)), (2, (0, a1))]) (st1 := [(0, jand (jl2i (jlushr a0 (jmul 8 a1))) 255)]) (h1 := h) rfl ?_
  cases hv
  exact jT.iret (st_X_byteOf) rfl trivial
