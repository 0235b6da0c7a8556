def f_M_next (h : jH) : Option (Int) := if h 24 10 ≤ h 24 11 then some 0 else jgd (0 ≤ h 24 11 ∧ h 24 11 < 100) (some (h 31 (h 24 11).toNat))
set_option maxRecDepth 100000 in
set_option maxHeartbeats 4000000 in
theorem C_M_next {E : jE} {h : jH} {res : Int} (hv : f_M_next h = some res) : jC E M_M_next [(2, ((24 : Nat) : Int))] h (some (0, res)) h := by
  refine jC.of ok_M_next.1 (by rw [jlg]; exact Nat.le_of_ble_eq_true rfl) ?_
  show jG E _ 0 [(0, (2, ((24 : Nat) : Int)))] [] h _ _
  unfold f_M_next at hv
  refine jG.blk (st_M_next) 4 (pc1 := 8) (L1 := [(0, (2, ((24 : Nat) : Int)))]) (st1 := [(0, h 24 10), (0, h 24 11)]) (h1 := h) rfl ?_
  refine jT.if2 (st_M_next) rfl (tgt := 23) (by decide) (fun hc => ?_) (fun hc => ?_)
  · have hc : h 24 10 ≤ h 24 11 := hc
    try rw [if_pos hc] at hv
    refine jG.blk (st_M_next) 1 (pc1 := 24) (L1 := [(0, (2, ((24 : Nat) : Int)))]) (st1 := [(0, 0)]) (h1 := h) rfl ?_
    cases hv
    exact jT.iret (st_M_next) rfl trivial
  · have hc : ¬ (h 24 10 ≤ h 24 11) := hc
    try rw [if_neg hc] at hv
    refine jG.blk (st_M_next) 4 (pc1 := 19) (L1 := [(0, (2, ((24 : Nat) : Int)))]) (st1 := [(0, h 24 11), (2, ((31 : Nat) : Int))]) (h1 := h) rfl ?_
    obtain ⟨hg, hv⟩ := jgd_some hv
    refine jT.iald (a := 31) (st_M_next) rfl rfl (by decide) hg.1 hg.2 ?_
    refine jT.goto (st_M_next) rfl (tgt := 24) (by decide) ?_
    cases hv
    exact jT.iret (st_M_next) rfl trivial
def f_M_is_j13 (h3 : jH) (s2 : Int) : Option (Int × jH) := if s2 = 0 then jgd (s2 = 0 ∨ s2 = 1) (some (s2, jup h3 24 11 (h3 24 11))) else jgd (s2 = 0 ∨ s2 = 1) (some (s2, jup h3 24 11 (jadd (h3 24 11) 1)))
def f_M_is (h : jH) (a1 : Int) : Option (Int × jH) := (f_M_next h).bind fun v1 => f_M_is_j13 h (if v1 = a1 then 1 else 0)
set_option maxRecDepth 100000 in
set_option maxHeartbeats 4000000 in
theorem f_M_is_j13_ok (E : jE) {h3 : jH} {s2 : Int} {res : Int × jH} (hv : f_M_is_j13 h3 s2 = some res) : jG E M_M_is 13 [(0, (2, ((24 : Nat) : Int)))] [(0, s2)] h3 (some (0, res.1)) res.2 := by
  unfold f_M_is_j13 at hv
  refine jG.blk (st_M_is) 3 (pc1 := 16) (L1 := [(2, (0, s2)), (0, (2, ((24 : Nat) : Int)))]) (st1 := [(0, s2), (2, ((24 : Nat) : Int))]) (h1 := h3) rfl ?_
  refine jT.if1 (st_M_is) rfl (tgt := 28) (by decide) (fun hc => ?_) (fun hc => ?_)
  · have hc : s2 = 0 := hc
    try rw [if_pos hc] at hv
    refine jG.blk (st_M_is) 4 (pc1 := 36) (L1 := [(2, (0, s2)), (0, (2, ((24 : Nat) : Int)))]) (st1 := [(0, s2)]) (h1 := jup h3 24 11 (h3 24 11)) rfl ?_
    obtain ⟨hg, hv⟩ := jgd_some hv
    cases hv
    exact jT.iret (st_M_is) rfl hg
  · have hc : ¬ (s2 = 0) := hc
    try rw [if_neg hc] at hv
    refine jG.blk (st_M_is) 4 (pc1 := 25) (L1 := [(2, (0, s2)), (0, (2, ((24 : Nat) : Int)))]) (st1 := [(0, jadd (h3 24 11) 1), (2, ((24 : Nat) : Int))]) (h1 := h3) rfl ?_
    refine jT.goto (st_M_is) rfl (tgt := 32) (by decide) ?_
    refine jG.blk (st_M_is) 2 (pc1 := 36) (L1 := [(2, (0, s2)), (0, (2, ((24 : Nat) : Int)))]) (st1 := [(0, s2)]) (h1 := jup h3 24 11 (jadd (h3 24 11) 1)) rfl ?_
    obtain ⟨hg, hv⟩ := jgd_some hv
    cases hv
    exact jT.iret (st_M_is) rfl hg
set_option maxRecDepth 100000 in
set_option maxHeartbeats 4000000 in
theorem C_M_is {E : jE} {h : jH} {a1 : Int} {res : Int × jH} (hv : f_M_is h a1 = some res) : jC E M_M_is [(2, ((24 : Nat) : Int)), (0, a1)] h (some (0, res.1)) res.2 := by
  refine jC.of ok_M_is.1 (by rw [jlg]; exact Nat.le_of_ble_eq_true rfl) ?_
  show jG E _ 0 [(0, (2, ((24 : Nat) : Int))), (1, (0, a1))] [] h _ _
  unfold f_M_is at hv
  refine jG.blk (st_M_is) 1 (pc1 := 1) (L1 := [(0, (2, ((24 : Nat) : Int))), (1, (0, a1))]) (st1 := [(2, ((24 : Nat) : Int))]) (h1 := h) rfl ?_
  obtain ⟨v1, hq, hv⟩ := Option.bind_eq_some_iff.mp hv
  refine jT.cV (M1 := M_M_next) (2, ((24 : Nat) : Int)) [] [] (st_M_is) rfl rfl ok_M_next rfl (Or.inl ⟨rfl, _, _, _, rfl, rfl⟩) (Nat.le_of_ble_eq_true rfl) (Nat.le_of_ble_eq_true rfl) rfl (Nat.le_of_ble_eq_true rfl) (C_M_next hq) ?_
  show jG E _ 4 [(0, (2, ((24 : Nat) : Int))), (1, (0, a1))] [(0, v1)] h _ _
  refine jG.blk (st_M_is) 1 (pc1 := 5) (L1 := [(0, (2, ((24 : Nat) : Int))), (1, (0, a1))]) (st1 := [(0, a1), (0, v1)]) (h1 := h) rfl ?_
  refine jT.if2 (st_M_is) rfl (tgt := 12) (by decide) (fun hc => ?_) (fun hc => ?_)
  · have hc : ¬ (v1 = a1) := hc
    try rw [if_neg hc] at hv
    refine jG.blk (st_M_is) 1 (pc1 := 13) (L1 := [(0, (2, ((24 : Nat) : Int))), (1, (0, a1))]) (st1 := [(0, 0)]) (h1 := h) rfl ?_
    refine jG.subp [0] (L1 := [(0, (2, ((24 : Nat) : Int)))]) rfl ?_
    exact f_M_is_j13_ok E hv
  · have hc : v1 = a1 := Decidable.not_not.mp hc
    try rw [if_pos hc] at hv
    refine jG.blk (st_M_is) 1 (pc1 := 9) (L1 := [(0, (2, ((24 : Nat) : Int))), (1, (0, a1))]) (st1 := [(0, 1)]) (h1 := h) rfl ?_
    refine jT.goto (st_M_is) rfl (tgt := 13) (by decide) ?_
    refine jG.subp [0] (L1 := [(0, (2, ((24 : Nat) : Int)))]) rfl ?_
    exact f_M_is_j13_ok E hv
def f_M_letterOf_j57 (h : jH) (l2 : Int) (s3 : Int) : Option (Int) := some (if l2 ≤ 6 then s3 else jadd s3 32)
def f_M_letterOf (h : jH) (a0 : Int) : Option (Int) := (f_M_kindOf h a0).bind fun v1 => f_M_letterOf_j57 h a0 (if v1 = 1 then 80 else if v1 = 2 then 78 else if v1 = 3 then 66 else if v1 = 4 then 82 else if v1 = 5 then 81 else 75)
set_option maxRecDepth 100000 in
set_option maxHeartbeats 4000000 in
theorem f_M_letterOf_j57_ok (E : jE) {h : jH} {l2 : Int} {s3 : Int} {res : Int} (hv : f_M_letterOf_j57 h l2 s3 = some res) : jG E M_M_letterOf 57 [(0, (0, l2))] [(0, s3)] h (some (0, res)) h := by
  unfold f_M_letterOf_j57 at hv
  refine jG.blk (st_M_letterOf) 3 (pc1 := 61) (L1 := [(2, (0, s3)), (0, (0, l2))]) (st1 := [(0, 6), (0, l2)]) (h1 := h) rfl ?_
  refine jT.if2 (st_M_letterOf) rfl (tgt := 71) (by decide) (fun hc => ?_) (fun hc => ?_)
  · have hc : l2 ≤ 6 := hc
    try rw [if_pos hc] at hv
    refine jG.blk (st_M_letterOf) 1 (pc1 := 72) (L1 := [(2, (0, s3)), (0, (0, l2))]) (st1 := [(0, s3)]) (h1 := h) rfl ?_
    cases hv
    exact jT.iret (st_M_letterOf) rfl trivial
  · have hc : ¬ (l2 ≤ 6) := hc
    try rw [if_neg hc] at hv
    refine jG.blk (st_M_letterOf) 3 (pc1 := 68) (L1 := [(2, (0, s3)), (0, (0, l2))]) (st1 := [(0, jadd s3 32)]) (h1 := h) rfl ?_
    refine jT.goto (st_M_letterOf) rfl (tgt := 72) (by decide) ?_
    cases hv
    exact jT.iret (st_M_letterOf) rfl trivial
set_option maxRecDepth 100000 in
set_option maxHeartbeats 4000000 in
theorem C_M_letterOf {E : jE} {h : jH} {a0 : Int} {res : Int} (hv : f_M_letterOf h a0 = some res) : jC E M_M_letterOf [(0, a0)] h (some (0, res)) h := by
  refine jC.of ok_M_letterOf.1 (by rw [jlg]; exact Nat.le_of_ble_eq_true rfl) ?_
  show jG E _ 0 [(0, (0, a0))] [] h _ _
  unfold f_M_letterOf at hv
  refine jG.blk (st_M_letterOf) 1 (pc1 := 1) (L1 := [(0, (0, a0))]) (st1 := [(0, a0)]) (h1 := h) rfl ?_
  obtain ⟨v1, hq, hv⟩ := Option.bind_eq_some_iff.mp hv
  refine jT.cS (M1 := M_M_kindOf) [(0, a0)] [] (st_M_letterOf) rfl rfl ok_M_kindOf rfl (Nat.le_of_ble_eq_true rfl) (Nat.le_of_ble_eq_true rfl) rfl (Nat.le_of_ble_eq_true rfl) (C_M_kindOf hq) ?_
  show jG E _ 4 [(0, (0, a0))] [(0, v1)] h _ _
  refine jG.blk (st_M_letterOf) 3 (pc1 := 7) (L1 := [(1, (0, v1)), (0, (0, a0))]) (st1 := [(0, 1), (0, v1)]) (h1 := h) rfl ?_
  refine jT.if2 (st_M_letterOf) rfl (tgt := 15) (by decide) (fun hc => ?_) (fun hc => ?_)
  · have hc : ¬ (v1 = 1) := hc
    try rw [if_neg hc] at hv
    refine jG.blk (st_M_letterOf) 2 (pc1 := 17) (L1 := [(1, (0, v1)), (0, (0, a0))]) (st1 := [(0, 2), (0, v1)]) (h1 := h) rfl ?_
    refine jT.if2 (st_M_letterOf) rfl (tgt := 25) (by decide) (fun hc => ?_) (fun hc => ?_)
    · have hc : ¬ (v1 = 2) := hc
      try rw [if_neg hc] at hv
      refine jG.blk (st_M_letterOf) 2 (pc1 := 27) (L1 := [(1, (0, v1)), (0, (0, a0))]) (st1 := [(0, 3), (0, v1)]) (h1 := h) rfl ?_
      refine jT.if2 (st_M_letterOf) rfl (tgt := 35) (by decide) (fun hc => ?_) (fun hc => ?_)
      · have hc : ¬ (v1 = 3) := hc
        try rw [if_neg hc] at hv
        refine jG.blk (st_M_letterOf) 2 (pc1 := 37) (L1 := [(1, (0, v1)), (0, (0, a0))]) (st1 := [(0, 4), (0, v1)]) (h1 := h) rfl ?_
        refine jT.if2 (st_M_letterOf) rfl (tgt := 45) (by decide) (fun hc => ?_) (fun hc => ?_)
        · have hc : ¬ (v1 = 4) := hc
          try rw [if_neg hc] at hv
          refine jG.blk (st_M_letterOf) 2 (pc1 := 47) (L1 := [(1, (0, v1)), (0, (0, a0))]) (st1 := [(0, 5), (0, v1)]) (h1 := h) rfl ?_
          refine jT.if2 (st_M_letterOf) rfl (tgt := 55) (by decide) (fun hc => ?_) (fun hc => ?_)
          · have hc : ¬ (v1 = 5) := hc
            try rw [if_neg hc] at hv
            refine jG.blk (st_M_letterOf) 1 (pc1 := 57) (L1 := [(1, (0, v1)), (0, (0, a0))]) (st1 := [(0, 75)]) (h1 := h) rfl ?_
            refine jG.subp [1] (L1 := [(0, (0, a0))]) rfl ?_
            exact f_M_letterOf_j57_ok E hv
          · have hc : v1 = 5 := Decidable.not_not.mp hc
            try rw [if_pos hc] at hv
            refine jG.blk (st_M_letterOf) 1 (pc1 := 52) (L1 := [(1, (0, v1)), (0, (0, a0))]) (st1 := [(0, 81)]) (h1 := h) rfl ?_
            refine jT.goto (st_M_letterOf) rfl (tgt := 57) (by decide) ?_
            refine jG.subp [1] (L1 := [(0, (0, a0))]) rfl ?_
            exact f_M_letterOf_j57_ok E hv
        · have hc : v1 = 4 := Decidable.not_not.mp hc
          try rw [if_pos hc] at hv
          refine jG.blk (st_M_letterOf) 1 (pc1 := 42) (L1 := [(1, (0, v1)), (0, (0, a0))]) (st1 := [(0, 82)]) (h1 := h) rfl ?_
          refine jT.goto (st_M_letterOf) rfl (tgt := 57) (by decide) ?_
          refine jG.subp [1] (L1 := [(0, (0, a0))]) rfl ?_
          exact f_M_letterOf_j57_ok E hv
      · have hc : v1 = 3 := Decidable.not_not.mp hc
        try rw [if_pos hc] at hv
        refine jG.blk (st_M_letterOf) 1 (pc1 := 32) (L1 := [(1, (0, v1)), (0, (0, a0))]) (st1 := [(0, 66)]) (h1 := h) rfl ?_
        refine jT.goto (st_M_letterOf) rfl (tgt := 57) (by decide) ?_
        refine jG.subp [1] (L1 := [(0, (0, a0))]) rfl ?_
        exact f_M_letterOf_j57_ok E hv
    · have hc : v1 = 2 := Decidable.not_not.mp hc
      try rw [if_pos hc] at hv
      refine jG.blk (st_M_letterOf) 1 (pc1 := 22) (L1 := [(1, (0, v1)), (0, (0, a0))]) (st1 := [(0, 78)]) (h1 := h) rfl ?_
      refine jT.goto (st_M_letterOf) rfl (tgt := 57) (by decide) ?_
      refine jG.subp [1] (L1 := [(0, (0, a0))]) rfl ?_
      exact f_M_letterOf_j57_ok E hv
  · have hc : v1 = 1 := Decidable.not_not.mp hc
    try rw [if_pos hc] at hv
    refine jG.blk (st_M_letterOf) 1 (pc1 := 12) (L1 := [(1, (0, v1)), (0, (0, a0))]) (st1 := [(0, 80)]) (h1 := h) rfl ?_
    refine jT.goto (st_M_letterOf) rfl (tgt := 57) (by decide) ?_
    refine jG.subp [1] (L1 := [(0, (0, a0))]) rfl ?_
    exact f_M_letterOf_j57_ok E hv
def f_M_readSquares_lp96 (h26 : jH) (x23 : Int) (x24 : Int) (x25 : Int) (k : Int → Int → Option (Int × jH)) : Nat → Int → Int → Option (Int × jH)
  | 0, _, _ => none
  | n + 1, l21, l22 => if 12 < l22 then k l21 l22 else (f_M_letterOf h26 l22).bind fun v27 => f_M_readSquares_lp96 h26 x23 x24 x25 k n (if v27 = x24 then l22 else l21) (jadd l22 1)
def f_M_readSquares_lp159 (x40 : Int) (x41 : Int) (x42 : Int) (x43 : Int) (k : Int → jH → Option (Int × jH)) : Nat → Int → jH → Option (Int × jH)
  | 0, _, _ => none
  | n + 1, l39, h44 => if x42 ≤ l39 then k l39 h44 else if x41 = 0 then k l39 h44 else jgd (0 ≤ jadd (jadd (jadd 19392 (jmul 8 (jsub 7 (jdiv x40 8)))) (jrem x40 8)) l39 ∧ jadd (jadd (jadd 19392 (jmul 8 (jsub 7 (jdiv x40 8)))) (jrem x40 8)) l39 < 19456 ∧ -128 ≤ (0 : Int) ∧ (0 : Int) < 128) (f_M_readSquares_lp159 x40 x41 x42 x43 k n (jadd l39 1) (jup h44 25 (jadd (jadd (jadd 19392 (jmul 8 (jsub 7 (jdiv x40 8)))) (jrem x40 8)) l39).toNat 0))
def f_M_readSquares_j276_6 (rc : Int → Int → Int → jH → Option (Int × jH)) (k : Int → Int → Int → jH → Option (Int × jH)) (h4 : jH) (h65 : jH) (l61 : Int) (l62 : Int) (l63 : Int) (s64 : Int) : Option (Int × jH) := rc l61 (if l63 ≤ 0 then 0 else 1) l62 (jup h65 24 11 s64)
def f_M_readSquares_j257_6 (rc : Int → Int → Int → jH → Option (Int × jH)) (k : Int → Int → Int → jH → Option (Int × jH)) (h4 : jH) (h60 : jH) (l57 : Int) (l58 : Int) (s59 : Int) : Option (Int × jH) := f_M_readSquares_j276_6 rc k h4 h60 s59 l57 l58 (if l57 = 0 then h60 24 11 else jadd (h60 24 11) 1)
def f_M_readSquares_j252_6 (rc : Int → Int → Int → jH → Option (Int × jH)) (k : Int → Int → Int → jH → Option (Int × jH)) (h4 : jH) (h70 : jH) (l66 : Int) (l67 : Int) (s68 : Int) (s69 : Int) : Option (Int × jH) := f_M_readSquares_j257_6 rc k h4 h70 l66 l67 (jadd s69 s68)
def f_M_readSquares_j236_6 (rc : Int → Int → Int → jH → Option (Int × jH)) (k : Int → Int → Int → jH → Option (Int × jH)) (h4 : jH) (h56 : jH) (l52 : Int) (l53 : Int) (l54 : Int) (l55 : Int) : Option (Int × jH) := if l53 = 0 then f_M_readSquares_j257_6 rc k h4 h56 l53 l54 l52 else f_M_readSquares_j252_6 rc k h4 h56 l53 l54 (if l55 ≤ 0 then l54 else 1) l52
def f_M_readSquares_j204_6 (rc : Int → Int → Int → jH → Option (Int × jH)) (k : Int → Int → Int → jH → Option (Int × jH)) (h4 : jH) (h51 : jH) (l47 : Int) (l48 : Int) (l49 : Int) (l50 : Int) : Option (Int × jH) := if l50 ≤ 0 then f_M_readSquares_j236_6 rc k h4 h51 l47 l48 l49 l50 else jgd (0 ≤ jadd (jadd 19392 (jmul 8 (jsub 7 (jdiv l47 8)))) (jrem l47 8) ∧ jadd (jadd 19392 (jmul 8 (jsub 7 (jdiv l47 8)))) (jrem l47 8) < 19456 ∧ -128 ≤ ji2b l50 ∧ ji2b l50 < 128) (f_M_readSquares_j236_6 rc k h4 (jup h51 25 (jadd (jadd 19392 (jmul 8 (jsub 7 (jdiv l47 8)))) (jrem l47 8)).toNat (ji2b l50)) l47 l48 l49 l50)
def f_M_readSquares_j155_6 (rc : Int → Int → Int → jH → Option (Int × jH)) (k : Int → Int → Int → jH → Option (Int × jH)) (h4 : jH) (h38 : jH) (l34 : Int) (l35 : Int) (l36 : Int) (s37 : Int) : Option (Int × jH) := f_M_readSquares_lp159 l34 s37 l35 l36 (fun l45 h46 => f_M_readSquares_j204_6 rc k h4 h46 l34 s37 l35 l36) 1000 0 h38
def f_M_readSquares_j150_6 (rc : Int → Int → Int → jH → Option (Int × jH)) (k : Int → Int → Int → jH → Option (Int × jH)) (h4 : jH) (h74 : jH) (l71 : Int) (l72 : Int) (l73 : Int) : Option (Int × jH) := f_M_readSquares_j155_6 rc k h4 h74 l71 l72 l73 1
def f_M_readSquares_j145_6 (rc : Int → Int → Int → jH → Option (Int × jH)) (k : Int → Int → Int → jH → Option (Int × jH)) (h4 : jH) (h33 : jH) (l30 : Int) (l31 : Int) (l32 : Int) : Option (Int × jH) := if l32 ≤ 0 then f_M_readSquares_j155_6 rc k h4 h33 l30 l31 l32 0 else f_M_readSquares_j150_6 rc k h4 h33 l30 l31 l32
def f_M_readSquares_j88_6 (rc : Int → Int → Int → jH → Option (Int × jH)) (k : Int → Int → Int → jH → Option (Int × jH)) (h4 : jH) (h20 : jH) (l17 : Int) (l18 : Int) (s19 : Int) : Option (Int × jH) := f_M_readSquares_lp96 h20 l17 l18 s19 (fun l28 l29 => if s19 ≤ 0 then f_M_readSquares_j145_6 rc k h4 h20 l17 s19 l28 else if jadd (jrem l17 8) s19 ≤ 8 then f_M_readSquares_j150_6 rc k h4 h20 l17 s19 l28 else f_M_readSquares_j145_6 rc k h4 h20 l17 s19 l28) 1000 0 1
def f_M_readSquares_j87_6 (rc : Int → Int → Int → jH → Option (Int × jH)) (k : Int → Int → Int → jH → Option (Int × jH)) (h4 : jH) (h16 : jH) (l14 : Int) (l15 : Int) : Option (Int × jH) := f_M_readSquares_j88_6 rc k h4 h16 l14 l15 0
def f_M_readSquares_j54_6 (rc : Int → Int → Int → jH → Option (Int × jH)) (k : Int → Int → Int → jH → Option (Int × jH)) (h4 : jH) (h12 : jH) (l10 : Int) (s11 : Int) : Option (Int × jH) := (f_M_next h12).bind fun v13 => if v13 < 49 then f_M_readSquares_j87_6 rc k h4 h12 l10 v13 else if 56 < v13 then f_M_readSquares_j87_6 rc k h4 h12 l10 v13 else if s11 = 0 then f_M_readSquares_j88_6 rc k h4 h12 l10 v13 (jsub v13 48) else f_M_readSquares_j87_6 rc k h4 h12 l10 v13
def f_M_readSquares_j53_6 (rc : Int → Int → Int → jH → Option (Int × jH)) (k : Int → Int → Int → jH → Option (Int × jH)) (h4 : jH) (h9 : jH) (l8 : Int) : Option (Int × jH) := f_M_readSquares_j54_6 rc k h4 h9 l8 0
def f_M_readSquares_j38_6 (rc : Int → Int → Int → jH → Option (Int × jH)) (k : Int → Int → Int → jH → Option (Int × jH)) (h4 : jH) (h7 : jH) (l5 : Int) (l6 : Int) : Option (Int × jH) := if l6 = 0 then f_M_readSquares_j53_6 rc k h4 h7 l5 else if jrem l5 8 ≤ 0 then f_M_readSquares_j53_6 rc k h4 h7 l5 else f_M_readSquares_j54_6 rc k h4 h7 l5 1
def f_M_readSquares_lp6 (k : Int → Int → Int → jH → Option (Int × jH)) : Nat → Int → Int → Int → jH → Option (Int × jH)
  | 0, _, _, _, _ => none
  | n + 1, l1, l2, l3, h4 => if l3 = 0 then k l1 l2 l3 h4 else if 64 ≤ l1 then k l1 l2 l3 h4 else if l1 ≤ 0 then f_M_readSquares_j38_6 (f_M_readSquares_lp6 k n) k h4 h4 l1 l2 else if jrem l1 8 = 0 then (f_M_is h4 47).bind fun v75 => if v75.1 = 0 then some (l1, v75.2) else f_M_readSquares_j38_6 (f_M_readSquares_lp6 k n) k h4 v75.2 l1 l2 else f_M_readSquares_j38_6 (f_M_readSquares_lp6 k n) k h4 h4 l1 l2
def f_M_readSquares (h : jH) : Option (Int × jH) := f_M_readSquares_lp6 (fun l76 l77 l78 h79 => some (l76, h79)) 1000 0 0 1 h
set_option maxRecDepth 100000 in
set_option maxHeartbeats 4000000 in
theorem f_M_readSquares_lp96_ok (E : jE) {h26 : jH} {x23 : Int} {x24 : Int} {x25 : Int} {k : Int → Int → Option (Int × jH)} (hk : ∀ (l21 : Int) (l22 : Int) (res : Int × jH), k l21 l22 = some res → jG E M_M_readSquares 128 [(0, (2, ((24 : Nat) : Int))), (1, (0, x23)), (5, (0, x25)), (6, (0, l21))] [] h26 (some (0, res.1)) res.2) : ∀ (n : Nat) (l21 : Int) (l22 : Int) (res : Int × jH), f_M_readSquares_lp96 h26 x23 x24 x25 k n l21 l22 = some res → jG E M_M_readSquares 96 [(0, (2, ((24 : Nat) : Int))), (1, (0, x23)), (4, (0, x24)), (5, (0, x25)), (6, (0, l21)), (7, (0, l22))] [] h26 (some (0, res.1)) res.2 := by
  intro n
  induction n with
  | zero => intro l21 l22 res hv; cases hv
  | succ n ih =>
    intro l21 l22 res hv
    rw [f_M_readSquares_lp96] at hv
    refine jG.blk (st_M_readSquares) 2 (pc1 := 100) (L1 := [(0, (2, ((24 : Nat) : Int))), (1, (0, x23)), (4, (0, x24)), (5, (0, x25)), (6, (0, l21)), (7, (0, l22))]) (st1 := [(0, 12), (0, l22)]) (h1 := h26) rfl ?_
    refine jT.if2 (st_M_readSquares) rfl (tgt := 128) (by decide) (fun hc => ?_) (fun hc => ?_)
    · have hc : 12 < l22 := hc
      try rw [if_pos hc] at hv
      refine jG.subp [0, 1, 3, 4] (L1 := [(0, (2, ((24 : Nat) : Int))), (1, (0, x23)), (5, (0, x25)), (6, (0, l21))]) rfl ?_
      exact hk _ _ _ hv
    · have hc : ¬ (12 < l22) := hc
      try rw [if_neg hc] at hv
      refine jG.blk (st_M_readSquares) 1 (pc1 := 105) (L1 := [(0, (2, ((24 : Nat) : Int))), (1, (0, x23)), (4, (0, x24)), (5, (0, x25)), (6, (0, l21)), (7, (0, l22))]) (st1 := [(0, l22)]) (h1 := h26) rfl ?_
      obtain ⟨v27, hq, hv⟩ := Option.bind_eq_some_iff.mp hv
      refine jT.cS (M1 := M_M_letterOf) [(0, l22)] [] (st_M_readSquares) rfl rfl ok_M_letterOf rfl (Nat.le_of_ble_eq_true rfl) (Nat.le_of_ble_eq_true rfl) rfl (Nat.le_of_ble_eq_true rfl) (C_M_letterOf hq) ?_
      show jG E _ 108 [(0, (2, ((24 : Nat) : Int))), (1, (0, x23)), (4, (0, x24)), (5, (0, x25)), (6, (0, l21)), (7, (0, l22))] [(0, v27)] h26 _ _
      refine jG.blk (st_M_readSquares) 1 (pc1 := 110) (L1 := [(0, (2, ((24 : Nat) : Int))), (1, (0, x23)), (4, (0, x24)), (5, (0, x25)), (6, (0, l21)), (7, (0, l22))]) (st1 := [(0, x24), (0, v27)]) (h1 := h26) rfl ?_
      refine jT.if2 (st_M_readSquares) rfl (tgt := 118) (by decide) (fun hc => ?_) (fun hc => ?_)
      · have hc : ¬ (v27 = x24) := hc
        try rw [if_neg hc] at hv
        refine jG.blk (st_M_readSquares) 3 (pc1 := 125) (L1 := [(7, (0, jadd l22 1)), (6, (0, l21)), (0, (2, ((24 : Nat) : Int))), (1, (0, x23)), (4, (0, x24)), (5, (0, x25))]) (st1 := []) (h1 := h26) rfl ?_
        refine jT.goto (st_M_readSquares) rfl (tgt := 96) (by decide) ?_
        refine jG.subp [2, 3, 4, 5, 1, 0] (L1 := [(0, (2, ((24 : Nat) : Int))), (1, (0, x23)), (4, (0, x24)), (5, (0, x25)), (6, (0, l21)), (7, (0, jadd l22 1))]) rfl ?_
        exact ih _ _ _ hv
      · have hc : v27 = x24 := Decidable.not_not.mp hc
        try rw [if_pos hc] at hv
        refine jG.blk (st_M_readSquares) 1 (pc1 := 115) (L1 := [(0, (2, ((24 : Nat) : Int))), (1, (0, x23)), (4, (0, x24)), (5, (0, x25)), (6, (0, l21)), (7, (0, l22))]) (st1 := [(0, l22)]) (h1 := h26) rfl ?_
        refine jT.goto (st_M_readSquares) rfl (tgt := 120) (by decide) ?_
        refine jG.blk (st_M_readSquares) 2 (pc1 := 125) (L1 := [(7, (0, jadd l22 1)), (6, (0, l22)), (0, (2, ((24 : Nat) : Int))), (1, (0, x23)), (4, (0, x24)), (5, (0, x25))]) (st1 := []) (h1 := h26) rfl ?_
        refine jT.goto (st_M_readSquares) rfl (tgt := 96) (by decide) ?_
        refine jG.subp [2, 3, 4, 5, 1, 0] (L1 := [(0, (2, ((24 : Nat) : Int))), (1, (0, x23)), (4, (0, x24)), (5, (0, x25)), (6, (0, l22)), (7, (0, jadd l22 1))]) rfl ?_
        exact ih _ _ _ hv
set_option maxRecDepth 100000 in
set_option maxHeartbeats 4000000 in
theorem f_M_readSquares_lp159_ok (E : jE) {x40 : Int} {x41 : Int} {x42 : Int} {x43 : Int} {k : Int → jH → Option (Int × jH)} (hk : ∀ (l39 : Int) (h44 : jH) (res : Int × jH), k l39 h44 = some res → jG E M_M_readSquares 204 [(0, (2, ((24 : Nat) : Int))), (1, (0, x40)), (3, (0, x41)), (5, (0, x42)), (6, (0, x43))] [] h44 (some (0, res.1)) res.2) : ∀ (n : Nat) (l39 : Int) (h44 : jH) (res : Int × jH), f_M_readSquares_lp159 x40 x41 x42 x43 k n l39 h44 = some res → jG E M_M_readSquares 159 [(0, (2, ((24 : Nat) : Int))), (1, (0, x40)), (3, (0, x41)), (5, (0, x42)), (6, (0, x43)), (7, (0, l39))] [] h44 (some (0, res.1)) res.2 := by
  intro n
  induction n with
  | zero => intro l39 h44 res hv; cases hv
  | succ n ih =>
    intro l39 h44 res hv
    rw [f_M_readSquares_lp159] at hv
    refine jG.blk (st_M_readSquares) 2 (pc1 := 163) (L1 := [(0, (2, ((24 : Nat) : Int))), (1, (0, x40)), (3, (0, x41)), (5, (0, x42)), (6, (0, x43)), (7, (0, l39))]) (st1 := [(0, x42), (0, l39)]) (h1 := h44) rfl ?_
    refine jT.if2 (st_M_readSquares) rfl (tgt := 204) (by decide) (fun hc => ?_) (fun hc => ?_)
    · have hc : x42 ≤ l39 := hc
      try rw [if_pos hc] at hv
      refine jG.subp [0, 1, 2, 3, 4] (L1 := [(0, (2, ((24 : Nat) : Int))), (1, (0, x40)), (3, (0, x41)), (5, (0, x42)), (6, (0, x43))]) rfl ?_
      exact hk _ _ _ hv
    · have hc : ¬ (x42 ≤ l39) := hc
      try rw [if_neg hc] at hv
      refine jG.blk (st_M_readSquares) 1 (pc1 := 167) (L1 := [(0, (2, ((24 : Nat) : Int))), (1, (0, x40)), (3, (0, x41)), (5, (0, x42)), (6, (0, x43)), (7, (0, l39))]) (st1 := [(0, x41)]) (h1 := h44) rfl ?_
      refine jT.if1 (st_M_readSquares) rfl (tgt := 204) (by decide) (fun hc => ?_) (fun hc => ?_)
      · have hc : x41 = 0 := hc
        try rw [if_pos hc] at hv
        refine jG.subp [0, 1, 2, 3, 4] (L1 := [(0, (2, ((24 : Nat) : Int))), (1, (0, x40)), (3, (0, x41)), (5, (0, x42)), (6, (0, x43))]) rfl ?_
        exact hk _ _ _ hv
      · have hc : ¬ (x41 = 0) := hc
        try rw [if_neg hc] at hv
        refine jG.blk (st_M_readSquares) 18 (pc1 := 197) (L1 := [(0, (2, ((24 : Nat) : Int))), (1, (0, x40)), (3, (0, x41)), (5, (0, x42)), (6, (0, x43)), (7, (0, l39))]) (st1 := [(0, 0), (0, jadd (jadd (jadd 19392 (jmul 8 (jsub 7 (jdiv x40 8)))) (jrem x40 8)) l39), (2, ((25 : Nat) : Int))]) (h1 := h44) rfl ?_
        obtain ⟨hg, hv⟩ := jgd_some hv
        refine jT.bast (a := 25) (st_M_readSquares) rfl rfl (by decide) hg.1 hg.2.1 hg.2.2.1 hg.2.2.2 ?_
        refine jG.blk (st_M_readSquares) 1 (pc1 := 201) (L1 := [(7, (0, jadd l39 1)), (0, (2, ((24 : Nat) : Int))), (1, (0, x40)), (3, (0, x41)), (5, (0, x42)), (6, (0, x43))]) (st1 := []) (h1 := jup h44 25 (jadd (jadd (jadd 19392 (jmul 8 (jsub 7 (jdiv x40 8)))) (jrem x40 8)) l39).toNat 0) rfl ?_
        refine jT.goto (st_M_readSquares) rfl (tgt := 159) (by decide) ?_
        refine jG.subp [1, 2, 3, 4, 5, 0] (L1 := [(0, (2, ((24 : Nat) : Int))), (1, (0, x40)), (3, (0, x41)), (5, (0, x42)), (6, (0, x43)), (7, (0, jadd l39 1))]) rfl ?_
        exact ih _ _ _ hv
set_option maxRecDepth 100000 in
set_option maxHeartbeats 4000000 in
theorem f_M_readSquares_j276_6_ok (E : jE) {rc : Int → Int → Int → jH → Option (Int × jH)} {k : Int → Int → Int → jH → Option (Int × jH)} {h4 : jH} {h65 : jH} (hrc : ∀ (l1 : Int) (l2 : Int) (l3 : Int) (h4 : jH) (res : Int × jH), rc l1 l2 l3 h4 = some res → jG E M_M_readSquares 6 [(0, (2, ((24 : Nat) : Int))), (1, (0, l1)), (2, (0, l2)), (3, (0, l3))] [] h4 (some (0, res.1)) res.2) (hk : ∀ (l1 : Int) (l2 : Int) (l3 : Int) (h4 : jH) (res : Int × jH), k l1 l2 l3 h4 = some res → jG E M_M_readSquares 293 [(1, (0, l1))] [] h4 (some (0, res.1)) res.2) {l61 : Int} {l62 : Int} {l63 : Int} {s64 : Int} {res : Int × jH} (hv : f_M_readSquares_j276_6 rc k h4 h65 l61 l62 l63 s64 = some res) : jG E M_M_readSquares 276 [(0, (2, ((24 : Nat) : Int))), (1, (0, l61)), (3, (0, l62)), (5, (0, l63))] [(0, s64), (2, ((24 : Nat) : Int))] h65 (some (0, res.1)) res.2 := by
  unfold f_M_readSquares_j276_6 at hv
  refine jG.blk (st_M_readSquares) 2 (pc1 := 281) (L1 := [(0, (2, ((24 : Nat) : Int))), (1, (0, l61)), (3, (0, l62)), (5, (0, l63))]) (st1 := [(0, l63)]) (h1 := jup h65 24 11 s64) rfl ?_
  refine jT.if1 (st_M_readSquares) rfl (tgt := 288) (by decide) (fun hc => ?_) (fun hc => ?_)
  · have hc : l63 ≤ 0 := hc
    try rw [if_pos hc] at hv
    refine jG.blk (st_M_readSquares) 2 (pc1 := 290) (L1 := [(2, (0, 0)), (0, (2, ((24 : Nat) : Int))), (1, (0, l61)), (3, (0, l62)), (5, (0, l63))]) (st1 := []) (h1 := jup h65 24 11 s64) rfl ?_
    refine jT.goto (st_M_readSquares) rfl (tgt := 6) (by decide) ?_
    refine jG.subp [1, 2, 0, 3] (L1 := [(0, (2, ((24 : Nat) : Int))), (1, (0, l61)), (2, (0, 0)), (3, (0, l62))]) rfl ?_
    exact hrc _ _ _ _ _ hv
  · have hc : ¬ (l63 ≤ 0) := hc
    try rw [if_neg hc] at hv
    refine jG.blk (st_M_readSquares) 1 (pc1 := 285) (L1 := [(0, (2, ((24 : Nat) : Int))), (1, (0, l61)), (3, (0, l62)), (5, (0, l63))]) (st1 := [(0, 1)]) (h1 := jup h65 24 11 s64) rfl ?_
    refine jT.goto (st_M_readSquares) rfl (tgt := 289) (by decide) ?_
    refine jG.blk (st_M_readSquares) 1 (pc1 := 290) (L1 := [(2, (0, 1)), (0, (2, ((24 : Nat) : Int))), (1, (0, l61)), (3, (0, l62)), (5, (0, l63))]) (st1 := []) (h1 := jup h65 24 11 s64) rfl ?_
    refine jT.goto (st_M_readSquares) rfl (tgt := 6) (by decide) ?_
    refine jG.subp [1, 2, 0, 3] (L1 := [(0, (2, ((24 : Nat) : Int))), (1, (0, l61)), (2, (0, 1)), (3, (0, l62))]) rfl ?_
    exact hrc _ _ _ _ _ hv
set_option maxRecDepth 100000 in
set_option maxHeartbeats 4000000 in
theorem f_M_readSquares_j257_6_ok (E : jE) {rc : Int → Int → Int → jH → Option (Int × jH)} {k : Int → Int → Int → jH → Option (Int × jH)} {h4 : jH} {h60 : jH} (hrc : ∀ (l1 : Int) (l2 : Int) (l3 : Int) (h4 : jH) (res : Int × jH), rc l1 l2 l3 h4 = some res → jG E M_M_readSquares 6 [(0, (2, ((24 : Nat) : Int))), (1, (0, l1)), (2, (0, l2)), (3, (0, l3))] [] h4 (some (0, res.1)) res.2) (hk : ∀ (l1 : Int) (l2 : Int) (l3 : Int) (h4 : jH) (res : Int × jH), k l1 l2 l3 h4 = some res → jG E M_M_readSquares 293 [(1, (0, l1))] [] h4 (some (0, res.1)) res.2) {l57 : Int} {l58 : Int} {s59 : Int} {res : Int × jH} (hv : f_M_readSquares_j257_6 rc k h4 h60 l57 l58 s59 = some res) : jG E M_M_readSquares 257 [(0, (2, ((24 : Nat) : Int))), (3, (0, l57)), (5, (0, l58))] [(0, s59)] h60 (some (0, res.1)) res.2 := by
  unfold f_M_readSquares_j257_6 at hv
  refine jG.blk (st_M_readSquares) 3 (pc1 := 260) (L1 := [(1, (0, s59)), (0, (2, ((24 : Nat) : Int))), (3, (0, l57)), (5, (0, l58))]) (st1 := [(0, l57), (2, ((24 : Nat) : Int))]) (h1 := h60) rfl ?_
  refine jT.if1 (st_M_readSquares) rfl (tgt := 272) (by decide) (fun hc => ?_) (fun hc => ?_)
  · have hc : l57 = 0 := hc
    try rw [if_pos hc] at hv
    refine jG.blk (st_M_readSquares) 2 (pc1 := 276) (L1 := [(1, (0, s59)), (0, (2, ((24 : Nat) : Int))), (3, (0, l57)), (5, (0, l58))]) (st1 := [(0, h60 24 11), (2, ((24 : Nat) : Int))]) (h1 := h60) rfl ?_
    refine jG.subp [1, 0, 2, 3] (L1 := [(0, (2, ((24 : Nat) : Int))), (1, (0, s59)), (3, (0, l57)), (5, (0, l58))]) rfl ?_
    exact f_M_readSquares_j276_6_ok E hrc hk hv
  · have hc : ¬ (l57 = 0) := hc
    try rw [if_neg hc] at hv
    refine jG.blk (st_M_readSquares) 4 (pc1 := 269) (L1 := [(1, (0, s59)), (0, (2, ((24 : Nat) : Int))), (3, (0, l57)), (5, (0, l58))]) (st1 := [(0, jadd (h60 24 11) 1), (2, ((24 : Nat) : Int))]) (h1 := h60) rfl ?_
    refine jT.goto (st_M_readSquares) rfl (tgt := 276) (by decide) ?_
    refine jG.subp [1, 0, 2, 3] (L1 := [(0, (2, ((24 : Nat) : Int))), (1, (0, s59)), (3, (0, l57)), (5, (0, l58))]) rfl ?_
    exact f_M_readSquares_j276_6_ok E hrc hk hv
set_option maxRecDepth 100000 in
set_option maxHeartbeats 4000000 in
theorem f_M_readSquares_j252_6_ok (E : jE) {rc : Int → Int → Int → jH → Option (Int × jH)} {k : Int → Int → Int → jH → Option (Int × jH)} {h4 : jH} {h70 : jH} (hrc : ∀ (l1 : Int) (l2 : Int) (l3 : Int) (h4 : jH) (res : Int × jH), rc l1 l2 l3 h4 = some res → jG E M_M_readSquares 6 [(0, (2, ((24 : Nat) : Int))), (1, (0, l1)), (2, (0, l2)), (3, (0, l3))] [] h4 (some (0, res.1)) res.2) (hk : ∀ (l1 : Int) (l2 : Int) (l3 : Int) (h4 : jH) (res : Int × jH), k l1 l2 l3 h4 = some res → jG E M_M_readSquares 293 [(1, (0, l1))] [] h4 (some (0, res.1)) res.2) {l66 : Int} {l67 : Int} {s68 : Int} {s69 : Int} {res : Int × jH} (hv : f_M_readSquares_j252_6 rc k h4 h70 l66 l67 s68 s69 = some res) : jG E M_M_readSquares 252 [(0, (2, ((24 : Nat) : Int))), (3, (0, l66)), (5, (0, l67))] [(0, s68), (0, s69)] h70 (some (0, res.1)) res.2 := by
  unfold f_M_readSquares_j252_6 at hv
  refine jG.blk (st_M_readSquares) 1 (pc1 := 253) (L1 := [(0, (2, ((24 : Nat) : Int))), (3, (0, l66)), (5, (0, l67))]) (st1 := [(0, jadd s69 s68)]) (h1 := h70) rfl ?_
  refine jT.goto (st_M_readSquares) rfl (tgt := 257) (by decide) ?_
  exact f_M_readSquares_j257_6_ok E hrc hk hv
set_option maxRecDepth 100000 in
set_option maxHeartbeats 4000000 in
theorem f_M_readSquares_j236_6_ok (E : jE) {rc : Int → Int → Int → jH → Option (Int × jH)} {k : Int → Int → Int → jH → Option (Int × jH)} {h4 : jH} {h56 : jH} (hrc : ∀ (l1 : Int) (l2 : Int) (l3 : Int) (h4 : jH) (res : Int × jH), rc l1 l2 l3 h4 = some res → jG E M_M_readSquares 6 [(0, (2, ((24 : Nat) : Int))), (1, (0, l1)), (2, (0, l2)), (3, (0, l3))] [] h4 (some (0, res.1)) res.2) (hk : ∀ (l1 : Int) (l2 : Int) (l3 : Int) (h4 : jH) (res : Int × jH), k l1 l2 l3 h4 = some res → jG E M_M_readSquares 293 [(1, (0, l1))] [] h4 (some (0, res.1)) res.2) {l52 : Int} {l53 : Int} {l54 : Int} {l55 : Int} {res : Int × jH} (hv : f_M_readSquares_j236_6 rc k h4 h56 l52 l53 l54 l55 = some res) : jG E M_M_readSquares 236 [(0, (2, ((24 : Nat) : Int))), (1, (0, l52)), (3, (0, l53)), (5, (0, l54)), (6, (0, l55))] [] h56 (some (0, res.1)) res.2 := by
  unfold f_M_readSquares_j236_6 at hv
  refine jG.blk (st_M_readSquares) 1 (pc1 := 237) (L1 := [(0, (2, ((24 : Nat) : Int))), (1, (0, l52)), (3, (0, l53)), (5, (0, l54)), (6, (0, l55))]) (st1 := [(0, l53)]) (h1 := h56) rfl ?_
  refine jT.if1 (st_M_readSquares) rfl (tgt := 256) (by decide) (fun hc => ?_) (fun hc => ?_)
  · have hc : l53 = 0 := hc
    try rw [if_pos hc] at hv
    refine jG.blk (st_M_readSquares) 1 (pc1 := 257) (L1 := [(0, (2, ((24 : Nat) : Int))), (1, (0, l52)), (3, (0, l53)), (5, (0, l54)), (6, (0, l55))]) (st1 := [(0, l52)]) (h1 := h56) rfl ?_
    refine jG.subp [0, 2, 3] (L1 := [(0, (2, ((24 : Nat) : Int))), (3, (0, l53)), (5, (0, l54))]) rfl ?_
    exact f_M_readSquares_j257_6_ok E hrc hk hv
  · have hc : ¬ (l53 = 0) := hc
    try rw [if_neg hc] at hv
    refine jG.blk (st_M_readSquares) 2 (pc1 := 243) (L1 := [(0, (2, ((24 : Nat) : Int))), (1, (0, l52)), (3, (0, l53)), (5, (0, l54)), (6, (0, l55))]) (st1 := [(0, l55), (0, l52)]) (h1 := h56) rfl ?_
    refine jT.if1 (st_M_readSquares) rfl (tgt := 250) (by decide) (fun hc => ?_) (fun hc => ?_)
    · have hc : l55 ≤ 0 := hc
      try rw [if_pos hc] at hv
      refine jG.blk (st_M_readSquares) 1 (pc1 := 252) (L1 := [(0, (2, ((24 : Nat) : Int))), (1, (0, l52)), (3, (0, l53)), (5, (0, l54)), (6, (0, l55))]) (st1 := [(0, l54), (0, l52)]) (h1 := h56) rfl ?_
      refine jG.subp [0, 2, 3] (L1 := [(0, (2, ((24 : Nat) : Int))), (3, (0, l53)), (5, (0, l54))]) rfl ?_
      exact f_M_readSquares_j252_6_ok E hrc hk hv
    · have hc : ¬ (l55 ≤ 0) := hc
      try rw [if_neg hc] at hv
      refine jG.blk (st_M_readSquares) 1 (pc1 := 247) (L1 := [(0, (2, ((24 : Nat) : Int))), (1, (0, l52)), (3, (0, l53)), (5, (0, l54)), (6, (0, l55))]) (st1 := [(0, 1), (0, l52)]) (h1 := h56) rfl ?_
      refine jT.goto (st_M_readSquares) rfl (tgt := 252) (by decide) ?_
      refine jG.subp [0, 2, 3] (L1 := [(0, (2, ((24 : Nat) : Int))), (3, (0, l53)), (5, (0, l54))]) rfl ?_
      exact f_M_readSquares_j252_6_ok E hrc hk hv
set_option maxRecDepth 100000 in
set_option maxHeartbeats 4000000 in
theorem f_M_readSquares_j204_6_ok (E : jE) {rc : Int → Int → Int → jH → Option (Int × jH)} {k : Int → Int → Int → jH → Option (Int × jH)} {h4 : jH} {h51 : jH} (hrc : ∀ (l1 : Int) (l2 : Int) (l3 : Int) (h4 : jH) (res : Int × jH), rc l1 l2 l3 h4 = some res → jG E M_M_readSquares 6 [(0, (2, ((24 : Nat) : Int))), (1, (0, l1)), (2, (0, l2)), (3, (0, l3))] [] h4 (some (0, res.1)) res.2) (hk : ∀ (l1 : Int) (l2 : Int) (l3 : Int) (h4 : jH) (res : Int × jH), k l1 l2 l3 h4 = some res → jG E M_M_readSquares 293 [(1, (0, l1))] [] h4 (some (0, res.1)) res.2) {l47 : Int} {l48 : Int} {l49 : Int} {l50 : Int} {res : Int × jH} (hv : f_M_readSquares_j204_6 rc k h4 h51 l47 l48 l49 l50 = some res) : jG E M_M_readSquares 204 [(0, (2, ((24 : Nat) : Int))), (1, (0, l47)), (3, (0, l48)), (5, (0, l49)), (6, (0, l50))] [] h51 (some (0, res.1)) res.2 := by
  unfold f_M_readSquares_j204_6 at hv
  refine jG.blk (st_M_readSquares) 1 (pc1 := 206) (L1 := [(0, (2, ((24 : Nat) : Int))), (1, (0, l47)), (3, (0, l48)), (5, (0, l49)), (6, (0, l50))]) (st1 := [(0, l50)]) (h1 := h51) rfl ?_
  refine jT.if1 (st_M_readSquares) rfl (tgt := 236) (by decide) (fun hc => ?_) (fun hc => ?_)
  · have hc : l50 ≤ 0 := hc
    try rw [if_pos hc] at hv
    exact f_M_readSquares_j236_6_ok E hrc hk hv
  · have hc : ¬ (l50 ≤ 0) := hc
    try rw [if_neg hc] at hv
    refine jG.blk (st_M_readSquares) 17 (pc1 := 235) (L1 := [(0, (2, ((24 : Nat) : Int))), (1, (0, l47)), (3, (0, l48)), (5, (0, l49)), (6, (0, l50))]) (st1 := [(0, ji2b l50), (0, jadd (jadd 19392 (jmul 8 (jsub 7 (jdiv l47 8)))) (jrem l47 8)), (2, ((25 : Nat) : Int))]) (h1 := h51) rfl ?_
    obtain ⟨hg, hv⟩ := jgd_some hv
    refine jT.bast (a := 25) (st_M_readSquares) rfl rfl (by decide) hg.1 hg.2.1 hg.2.2.1 hg.2.2.2 ?_
    exact f_M_readSquares_j236_6_ok E hrc hk hv
set_option maxRecDepth 100000 in
set_option maxHeartbeats 4000000 in
theorem f_M_readSquares_j155_6_ok (E : jE) {rc : Int → Int → Int → jH → Option (Int × jH)} {k : Int → Int → Int → jH → Option (Int × jH)} {h4 : jH} {h38 : jH} (hrc : ∀ (l1 : Int) (l2 : Int) (l3 : Int) (h4 : jH) (res : Int × jH), rc l1 l2 l3 h4 = some res → jG E M_M_readSquares 6 [(0, (2, ((24 : Nat) : Int))), (1, (0, l1)), (2, (0, l2)), (3, (0, l3))] [] h4 (some (0, res.1)) res.2) (hk : ∀ (l1 : Int) (l2 : Int) (l3 : Int) (h4 : jH) (res : Int × jH), k l1 l2 l3 h4 = some res → jG E M_M_readSquares 293 [(1, (0, l1))] [] h4 (some (0, res.1)) res.2) {l34 : Int} {l35 : Int} {l36 : Int} {s37 : Int} {res : Int × jH} (hv : f_M_readSquares_j155_6 rc k h4 h38 l34 l35 l36 s37 = some res) : jG E M_M_readSquares 155 [(0, (2, ((24 : Nat) : Int))), (1, (0, l34)), (5, (0, l35)), (6, (0, l36))] [(0, s37)] h38 (some (0, res.1)) res.2 := by
  unfold f_M_readSquares_j155_6 at hv
  refine jG.blk (st_M_readSquares) 3 (pc1 := 159) (L1 := [(7, (0, 0)), (3, (0, s37)), (0, (2, ((24 : Nat) : Int))), (1, (0, l34)), (5, (0, l35)), (6, (0, l36))]) (st1 := []) (h1 := h38) rfl ?_
  refine jG.subp [2, 3, 1, 4, 5, 0] (L1 := [(0, (2, ((24 : Nat) : Int))), (1, (0, l34)), (3, (0, s37)), (5, (0, l35)), (6, (0, l36)), (7, (0, 0))]) rfl ?_
  refine f_M_readSquares_lp159_ok E (fun l45 h46 res hv => ?_) 1000 _ _ _ hv
  · exact f_M_readSquares_j204_6_ok E hrc hk hv
set_option maxRecDepth 100000 in
set_option maxHeartbeats 4000000 in
theorem f_M_readSquares_j150_6_ok (E : jE) {rc : Int → Int → Int → jH → Option (Int × jH)} {k : Int → Int → Int → jH → Option (Int × jH)} {h4 : jH} {h74 : jH} (hrc : ∀ (l1 : Int) (l2 : Int) (l3 : Int) (h4 : jH) (res : Int × jH), rc l1 l2 l3 h4 = some res → jG E M_M_readSquares 6 [(0, (2, ((24 : Nat) : Int))), (1, (0, l1)), (2, (0, l2)), (3, (0, l3))] [] h4 (some (0, res.1)) res.2) (hk : ∀ (l1 : Int) (l2 : Int) (l3 : Int) (h4 : jH) (res : Int × jH), k l1 l2 l3 h4 = some res → jG E M_M_readSquares 293 [(1, (0, l1))] [] h4 (some (0, res.1)) res.2) {l71 : Int} {l72 : Int} {l73 : Int} {res : Int × jH} (hv : f_M_readSquares_j150_6 rc k h4 h74 l71 l72 l73 = some res) : jG E M_M_readSquares 150 [(0, (2, ((24 : Nat) : Int))), (1, (0, l71)), (5, (0, l72)), (6, (0, l73))] [] h74 (some (0, res.1)) res.2 := by
  unfold f_M_readSquares_j150_6 at hv
  refine jG.blk (st_M_readSquares) 1 (pc1 := 151) (L1 := [(0, (2, ((24 : Nat) : Int))), (1, (0, l71)), (5, (0, l72)), (6, (0, l73))]) (st1 := [(0, 1)]) (h1 := h74) rfl ?_
  refine jT.goto (st_M_readSquares) rfl (tgt := 155) (by decide) ?_
  exact f_M_readSquares_j155_6_ok E hrc hk hv
set_option maxRecDepth 100000 in
set_option maxHeartbeats 4000000 in
theorem f_M_readSquares_j145_6_ok (E : jE) {rc : Int → Int → Int → jH → Option (Int × jH)} {k : Int → Int → Int → jH → Option (Int × jH)} {h4 : jH} {h33 : jH} (hrc : ∀ (l1 : Int) (l2 : Int) (l3 : Int) (h4 : jH) (res : Int × jH), rc l1 l2 l3 h4 = some res → jG E M_M_readSquares 6 [(0, (2, ((24 : Nat) : Int))), (1, (0, l1)), (2, (0, l2)), (3, (0, l3))] [] h4 (some (0, res.1)) res.2) (hk : ∀ (l1 : Int) (l2 : Int) (l3 : Int) (h4 : jH) (res : Int × jH), k l1 l2 l3 h4 = some res → jG E M_M_readSquares 293 [(1, (0, l1))] [] h4 (some (0, res.1)) res.2) {l30 : Int} {l31 : Int} {l32 : Int} {res : Int × jH} (hv : f_M_readSquares_j145_6 rc k h4 h33 l30 l31 l32 = some res) : jG E M_M_readSquares 145 [(0, (2, ((24 : Nat) : Int))), (1, (0, l30)), (5, (0, l31)), (6, (0, l32))] [] h33 (some (0, res.1)) res.2 := by
  unfold f_M_readSquares_j145_6 at hv
  refine jG.blk (st_M_readSquares) 1 (pc1 := 147) (L1 := [(0, (2, ((24 : Nat) : Int))), (1, (0, l30)), (5, (0, l31)), (6, (0, l32))]) (st1 := [(0, l32)]) (h1 := h33) rfl ?_
  refine jT.if1 (st_M_readSquares) rfl (tgt := 154) (by decide) (fun hc => ?_) (fun hc => ?_)
  · have hc : l32 ≤ 0 := hc
    try rw [if_pos hc] at hv
    refine jG.blk (st_M_readSquares) 1 (pc1 := 155) (L1 := [(0, (2, ((24 : Nat) : Int))), (1, (0, l30)), (5, (0, l31)), (6, (0, l32))]) (st1 := [(0, 0)]) (h1 := h33) rfl ?_
    exact f_M_readSquares_j155_6_ok E hrc hk hv
  · have hc : ¬ (l32 ≤ 0) := hc
    try rw [if_neg hc] at hv
    exact f_M_readSquares_j150_6_ok E hrc hk hv
set_option maxRecDepth 100000 in
set_option maxHeartbeats 4000000 in
theorem f_M_readSquares_j88_6_ok (E : jE) {rc : Int → Int → Int → jH → Option (Int × jH)} {k : Int → Int → Int → jH → Option (Int × jH)} {h4 : jH} {h20 : jH} (hrc : ∀ (l1 : Int) (l2 : Int) (l3 : Int) (h4 : jH) (res : Int × jH), rc l1 l2 l3 h4 = some res → jG E M_M_readSquares 6 [(0, (2, ((24 : Nat) : Int))), (1, (0, l1)), (2, (0, l2)), (3, (0, l3))] [] h4 (some (0, res.1)) res.2) (hk : ∀ (l1 : Int) (l2 : Int) (l3 : Int) (h4 : jH) (res : Int × jH), k l1 l2 l3 h4 = some res → jG E M_M_readSquares 293 [(1, (0, l1))] [] h4 (some (0, res.1)) res.2) {l17 : Int} {l18 : Int} {s19 : Int} {res : Int × jH} (hv : f_M_readSquares_j88_6 rc k h4 h20 l17 l18 s19 = some res) : jG E M_M_readSquares 88 [(0, (2, ((24 : Nat) : Int))), (1, (0, l17)), (4, (0, l18))] [(0, s19)] h20 (some (0, res.1)) res.2 := by
  unfold f_M_readSquares_j88_6 at hv
  refine jG.blk (st_M_readSquares) 5 (pc1 := 96) (L1 := [(7, (0, 1)), (6, (0, 0)), (5, (0, s19)), (0, (2, ((24 : Nat) : Int))), (1, (0, l17)), (4, (0, l18))]) (st1 := []) (h1 := h20) rfl ?_
  refine jG.subp [3, 4, 5, 2, 1, 0] (L1 := [(0, (2, ((24 : Nat) : Int))), (1, (0, l17)), (4, (0, l18)), (5, (0, s19)), (6, (0, 0)), (7, (0, 1))]) rfl ?_
  refine f_M_readSquares_lp96_ok E (fun l28 l29 res hv => ?_) 1000 _ _ _ hv
  · refine jG.blk (st_M_readSquares) 1 (pc1 := 130) (L1 := [(0, (2, ((24 : Nat) : Int))), (1, (0, l17)), (5, (0, s19)), (6, (0, l28))]) (st1 := [(0, s19)]) (h1 := h20) rfl ?_
    refine jT.if1 (st_M_readSquares) rfl (tgt := 145) (by decide) (fun hc => ?_) (fun hc => ?_)
    · have hc : s19 ≤ 0 := hc
      try rw [if_pos hc] at hv
      exact f_M_readSquares_j145_6_ok E hrc hk hv
    · have hc : ¬ (s19 ≤ 0) := hc
      try rw [if_neg hc] at hv
      refine jG.blk (st_M_readSquares) 6 (pc1 := 142) (L1 := [(0, (2, ((24 : Nat) : Int))), (1, (0, l17)), (5, (0, s19)), (6, (0, l28))]) (st1 := [(0, 8), (0, jadd (jrem l17 8) s19)]) (h1 := h20) rfl ?_
      refine jT.if2 (st_M_readSquares) rfl (tgt := 150) (by decide) (fun hc => ?_) (fun hc => ?_)
      · have hc : jadd (jrem l17 8) s19 ≤ 8 := hc
        try rw [if_pos hc] at hv
        exact f_M_readSquares_j150_6_ok E hrc hk hv
      · have hc : ¬ (jadd (jrem l17 8) s19 ≤ 8) := hc
        try rw [if_neg hc] at hv
        exact f_M_readSquares_j145_6_ok E hrc hk hv
set_option maxRecDepth 100000 in
set_option maxHeartbeats 4000000 in
theorem f_M_readSquares_j87_6_ok (E : jE) {rc : Int → Int → Int → jH → Option (Int × jH)} {k : Int → Int → Int → jH → Option (Int × jH)} {h4 : jH} {h16 : jH} (hrc : ∀ (l1 : Int) (l2 : Int) (l3 : Int) (h4 : jH) (res : Int × jH), rc l1 l2 l3 h4 = some res → jG E M_M_readSquares 6 [(0, (2, ((24 : Nat) : Int))), (1, (0, l1)), (2, (0, l2)), (3, (0, l3))] [] h4 (some (0, res.1)) res.2) (hk : ∀ (l1 : Int) (l2 : Int) (l3 : Int) (h4 : jH) (res : Int × jH), k l1 l2 l3 h4 = some res → jG E M_M_readSquares 293 [(1, (0, l1))] [] h4 (some (0, res.1)) res.2) {l14 : Int} {l15 : Int} {res : Int × jH} (hv : f_M_readSquares_j87_6 rc k h4 h16 l14 l15 = some res) : jG E M_M_readSquares 87 [(0, (2, ((24 : Nat) : Int))), (1, (0, l14)), (4, (0, l15))] [] h16 (some (0, res.1)) res.2 := by
  unfold f_M_readSquares_j87_6 at hv
  refine jG.blk (st_M_readSquares) 1 (pc1 := 88) (L1 := [(0, (2, ((24 : Nat) : Int))), (1, (0, l14)), (4, (0, l15))]) (st1 := [(0, 0)]) (h1 := h16) rfl ?_
  exact f_M_readSquares_j88_6_ok E hrc hk hv
set_option maxRecDepth 100000 in
set_option maxHeartbeats 4000000 in
theorem f_M_readSquares_j54_6_ok (E : jE) {rc : Int → Int → Int → jH → Option (Int × jH)} {k : Int → Int → Int → jH → Option (Int × jH)} {h4 : jH} {h12 : jH} (hrc : ∀ (l1 : Int) (l2 : Int) (l3 : Int) (h4 : jH) (res : Int × jH), rc l1 l2 l3 h4 = some res → jG E M_M_readSquares 6 [(0, (2, ((24 : Nat) : Int))), (1, (0, l1)), (2, (0, l2)), (3, (0, l3))] [] h4 (some (0, res.1)) res.2) (hk : ∀ (l1 : Int) (l2 : Int) (l3 : Int) (h4 : jH) (res : Int × jH), k l1 l2 l3 h4 = some res → jG E M_M_readSquares 293 [(1, (0, l1))] [] h4 (some (0, res.1)) res.2) {l10 : Int} {s11 : Int} {res : Int × jH} (hv : f_M_readSquares_j54_6 rc k h4 h12 l10 s11 = some res) : jG E M_M_readSquares 54 [(0, (2, ((24 : Nat) : Int))), (1, (0, l10))] [(0, s11)] h12 (some (0, res.1)) res.2 := by
  unfold f_M_readSquares_j54_6 at hv
  refine jG.blk (st_M_readSquares) 2 (pc1 := 56) (L1 := [(2, (0, s11)), (0, (2, ((24 : Nat) : Int))), (1, (0, l10))]) (st1 := [(2, ((24 : Nat) : Int))]) (h1 := h12) rfl ?_
  obtain ⟨v13, hq, hv⟩ := Option.bind_eq_some_iff.mp hv
  refine jT.cV (M1 := M_M_next) (2, ((24 : Nat) : Int)) [] [] (st_M_readSquares) rfl rfl ok_M_next rfl (Or.inl ⟨rfl, _, _, _, rfl, rfl⟩) (Nat.le_of_ble_eq_true rfl) (Nat.le_of_ble_eq_true rfl) rfl (Nat.le_of_ble_eq_true rfl) (C_M_next hq) ?_
  show jG E _ 59 [(2, (0, s11)), (0, (2, ((24 : Nat) : Int))), (1, (0, l10))] [(0, v13)] h12 _ _
  refine jG.blk (st_M_readSquares) 3 (pc1 := 65) (L1 := [(4, (0, v13)), (2, (0, s11)), (0, (2, ((24 : Nat) : Int))), (1, (0, l10))]) (st1 := [(0, 49), (0, v13)]) (h1 := h12) rfl ?_
  refine jT.if2 (st_M_readSquares) rfl (tgt := 87) (by decide) (fun hc => ?_) (fun hc => ?_)
  · have hc : v13 < 49 := hc
    try rw [if_pos hc] at hv
    refine jG.subp [2, 3, 0] (L1 := [(0, (2, ((24 : Nat) : Int))), (1, (0, l10)), (4, (0, v13))]) rfl ?_
    exact f_M_readSquares_j87_6_ok E hrc hk hv
  · have hc : ¬ (v13 < 49) := hc
    try rw [if_neg hc] at hv
    refine jG.blk (st_M_readSquares) 2 (pc1 := 72) (L1 := [(4, (0, v13)), (2, (0, s11)), (0, (2, ((24 : Nat) : Int))), (1, (0, l10))]) (st1 := [(0, 56), (0, v13)]) (h1 := h12) rfl ?_
    refine jT.if2 (st_M_readSquares) rfl (tgt := 87) (by decide) (fun hc => ?_) (fun hc => ?_)
    · have hc : 56 < v13 := hc
      try rw [if_pos hc] at hv
      refine jG.subp [2, 3, 0] (L1 := [(0, (2, ((24 : Nat) : Int))), (1, (0, l10)), (4, (0, v13))]) rfl ?_
      exact f_M_readSquares_j87_6_ok E hrc hk hv
    · have hc : ¬ (56 < v13) := hc
      try rw [if_neg hc] at hv
      refine jG.blk (st_M_readSquares) 1 (pc1 := 76) (L1 := [(4, (0, v13)), (2, (0, s11)), (0, (2, ((24 : Nat) : Int))), (1, (0, l10))]) (st1 := [(0, s11)]) (h1 := h12) rfl ?_
      refine jT.if1 (st_M_readSquares) rfl (tgt := 87) (by decide) (fun hc => ?_) (fun hc => ?_)
      · have hc : ¬ (s11 = 0) := hc
        try rw [if_neg hc] at hv
        refine jG.subp [2, 3, 0] (L1 := [(0, (2, ((24 : Nat) : Int))), (1, (0, l10)), (4, (0, v13))]) rfl ?_
        exact f_M_readSquares_j87_6_ok E hrc hk hv
      · have hc : s11 = 0 := Decidable.not_not.mp hc
        try rw [if_pos hc] at hv
        refine jG.blk (st_M_readSquares) 3 (pc1 := 84) (L1 := [(4, (0, v13)), (2, (0, s11)), (0, (2, ((24 : Nat) : Int))), (1, (0, l10))]) (st1 := [(0, jsub v13 48)]) (h1 := h12) rfl ?_
        refine jT.goto (st_M_readSquares) rfl (tgt := 88) (by decide) ?_
        refine jG.subp [2, 3, 0] (L1 := [(0, (2, ((24 : Nat) : Int))), (1, (0, l10)), (4, (0, v13))]) rfl ?_
        exact f_M_readSquares_j88_6_ok E hrc hk hv
set_option maxRecDepth 100000 in
set_option maxHeartbeats 4000000 in
theorem f_M_readSquares_j53_6_ok (E : jE) {rc : Int → Int → Int → jH → Option (Int × jH)} {k : Int → Int → Int → jH → Option (Int × jH)} {h4 : jH} {h9 : jH} (hrc : ∀ (l1 : Int) (l2 : Int) (l3 : Int) (h4 : jH) (res : Int × jH), rc l1 l2 l3 h4 = some res → jG E M_M_readSquares 6 [(0, (2, ((24 : Nat) : Int))), (1, (0, l1)), (2, (0, l2)), (3, (0, l3))] [] h4 (some (0, res.1)) res.2) (hk : ∀ (l1 : Int) (l2 : Int) (l3 : Int) (h4 : jH) (res : Int × jH), k l1 l2 l3 h4 = some res → jG E M_M_readSquares 293 [(1, (0, l1))] [] h4 (some (0, res.1)) res.2) {l8 : Int} {res : Int × jH} (hv : f_M_readSquares_j53_6 rc k h4 h9 l8 = some res) : jG E M_M_readSquares 53 [(0, (2, ((24 : Nat) : Int))), (1, (0, l8))] [] h9 (some (0, res.1)) res.2 := by
  unfold f_M_readSquares_j53_6 at hv
  refine jG.blk (st_M_readSquares) 1 (pc1 := 54) (L1 := [(0, (2, ((24 : Nat) : Int))), (1, (0, l8))]) (st1 := [(0, 0)]) (h1 := h9) rfl ?_
  exact f_M_readSquares_j54_6_ok E hrc hk hv
set_option maxRecDepth 100000 in
set_option maxHeartbeats 4000000 in
theorem f_M_readSquares_j38_6_ok (E : jE) {rc : Int → Int → Int → jH → Option (Int × jH)} {k : Int → Int → Int → jH → Option (Int × jH)} {h4 : jH} {h7 : jH} (hrc : ∀ (l1 : Int) (l2 : Int) (l3 : Int) (h4 : jH) (res : Int × jH), rc l1 l2 l3 h4 = some res → jG E M_M_readSquares 6 [(0, (2, ((24 : Nat) : Int))), (1, (0, l1)), (2, (0, l2)), (3, (0, l3))] [] h4 (some (0, res.1)) res.2) (hk : ∀ (l1 : Int) (l2 : Int) (l3 : Int) (h4 : jH) (res : Int × jH), k l1 l2 l3 h4 = some res → jG E M_M_readSquares 293 [(1, (0, l1))] [] h4 (some (0, res.1)) res.2) {l5 : Int} {l6 : Int} {res : Int × jH} (hv : f_M_readSquares_j38_6 rc k h4 h7 l5 l6 = some res) : jG E M_M_readSquares 38 [(0, (2, ((24 : Nat) : Int))), (1, (0, l5)), (2, (0, l6))] [] h7 (some (0, res.1)) res.2 := by
  unfold f_M_readSquares_j38_6 at hv
  refine jG.blk (st_M_readSquares) 1 (pc1 := 39) (L1 := [(0, (2, ((24 : Nat) : Int))), (1, (0, l5)), (2, (0, l6))]) (st1 := [(0, l6)]) (h1 := h7) rfl ?_
  refine jT.if1 (st_M_readSquares) rfl (tgt := 53) (by decide) (fun hc => ?_) (fun hc => ?_)
  · have hc : l6 = 0 := hc
    try rw [if_pos hc] at hv
    refine jG.subp [0, 1] (L1 := [(0, (2, ((24 : Nat) : Int))), (1, (0, l5))]) rfl ?_
    exact f_M_readSquares_j53_6_ok E hrc hk hv
  · have hc : ¬ (l6 = 0) := hc
    try rw [if_neg hc] at hv
    refine jG.blk (st_M_readSquares) 3 (pc1 := 46) (L1 := [(0, (2, ((24 : Nat) : Int))), (1, (0, l5)), (2, (0, l6))]) (st1 := [(0, jrem l5 8)]) (h1 := h7) rfl ?_
    refine jT.if1 (st_M_readSquares) rfl (tgt := 53) (by decide) (fun hc => ?_) (fun hc => ?_)
    · have hc : jrem l5 8 ≤ 0 := hc
      try rw [if_pos hc] at hv
      refine jG.subp [0, 1] (L1 := [(0, (2, ((24 : Nat) : Int))), (1, (0, l5))]) rfl ?_
      exact f_M_readSquares_j53_6_ok E hrc hk hv
    · have hc : ¬ (jrem l5 8 ≤ 0) := hc
      try rw [if_neg hc] at hv
      refine jG.blk (st_M_readSquares) 1 (pc1 := 50) (L1 := [(0, (2, ((24 : Nat) : Int))), (1, (0, l5)), (2, (0, l6))]) (st1 := [(0, 1)]) (h1 := h7) rfl ?_
      refine jT.goto (st_M_readSquares) rfl (tgt := 54) (by decide) ?_
      refine jG.subp [0, 1] (L1 := [(0, (2, ((24 : Nat) : Int))), (1, (0, l5))]) rfl ?_
      exact f_M_readSquares_j54_6_ok E hrc hk hv
set_option maxRecDepth 100000 in
set_option maxHeartbeats 4000000 in
theorem f_M_readSquares_lp6_ok (E : jE) {k : Int → Int → Int → jH → Option (Int × jH)} (hk : ∀ (l1 : Int) (l2 : Int) (l3 : Int) (h4 : jH) (res : Int × jH), k l1 l2 l3 h4 = some res → jG E M_M_readSquares 293 [(1, (0, l1))] [] h4 (some (0, res.1)) res.2) : ∀ (n : Nat) (l1 : Int) (l2 : Int) (l3 : Int) (h4 : jH) (res : Int × jH), f_M_readSquares_lp6 k n l1 l2 l3 h4 = some res → jG E M_M_readSquares 6 [(0, (2, ((24 : Nat) : Int))), (1, (0, l1)), (2, (0, l2)), (3, (0, l3))] [] h4 (some (0, res.1)) res.2 := by
  intro n
  induction n with
  | zero => intro l1 l2 l3 h4 res hv; cases hv
  | succ n ih =>
    intro l1 l2 l3 h4 res hv
    rw [f_M_readSquares_lp6] at hv
    refine jG.blk (st_M_readSquares) 1 (pc1 := 7) (L1 := [(0, (2, ((24 : Nat) : Int))), (1, (0, l1)), (2, (0, l2)), (3, (0, l3))]) (st1 := [(0, l3)]) (h1 := h4) rfl ?_
    refine jT.if1 (st_M_readSquares) rfl (tgt := 293) (by decide) (fun hc => ?_) (fun hc => ?_)
    · have hc : l3 = 0 := hc
      try rw [if_pos hc] at hv
      refine jG.subp [1] (L1 := [(1, (0, l1))]) rfl ?_
      exact hk _ _ _ _ _ hv
    · have hc : ¬ (l3 = 0) := hc
      try rw [if_neg hc] at hv
      refine jG.blk (st_M_readSquares) 2 (pc1 := 13) (L1 := [(0, (2, ((24 : Nat) : Int))), (1, (0, l1)), (2, (0, l2)), (3, (0, l3))]) (st1 := [(0, 64), (0, l1)]) (h1 := h4) rfl ?_
      refine jT.if2 (st_M_readSquares) rfl (tgt := 293) (by decide) (fun hc => ?_) (fun hc => ?_)
      · have hc : 64 ≤ l1 := hc
        try rw [if_pos hc] at hv
        refine jG.subp [1] (L1 := [(1, (0, l1))]) rfl ?_
        exact hk _ _ _ _ _ hv
      · have hc : ¬ (64 ≤ l1) := hc
        try rw [if_neg hc] at hv
        refine jG.blk (st_M_readSquares) 1 (pc1 := 17) (L1 := [(0, (2, ((24 : Nat) : Int))), (1, (0, l1)), (2, (0, l2)), (3, (0, l3))]) (st1 := [(0, l1)]) (h1 := h4) rfl ?_
        refine jT.if1 (st_M_readSquares) rfl (tgt := 38) (by decide) (fun hc => ?_) (fun hc => ?_)
        · have hc : l1 ≤ 0 := hc
          try rw [if_pos hc] at hv
          refine jG.subp [0, 1, 2] (L1 := [(0, (2, ((24 : Nat) : Int))), (1, (0, l1)), (2, (0, l2))]) rfl ?_
          exact f_M_readSquares_j38_6_ok E ih hk hv
        · have hc : ¬ (l1 ≤ 0) := hc
          try rw [if_neg hc] at hv
          refine jG.blk (st_M_readSquares) 3 (pc1 := 24) (L1 := [(0, (2, ((24 : Nat) : Int))), (1, (0, l1)), (2, (0, l2)), (3, (0, l3))]) (st1 := [(0, jrem l1 8)]) (h1 := h4) rfl ?_
          refine jT.if1 (st_M_readSquares) rfl (tgt := 38) (by decide) (fun hc => ?_) (fun hc => ?_)
          · have hc : ¬ (jrem l1 8 = 0) := hc
            try rw [if_neg hc] at hv
            refine jG.subp [0, 1, 2] (L1 := [(0, (2, ((24 : Nat) : Int))), (1, (0, l1)), (2, (0, l2))]) rfl ?_
            exact f_M_readSquares_j38_6_ok E ih hk hv
          · have hc : jrem l1 8 = 0 := Decidable.not_not.mp hc
            try rw [if_pos hc] at hv
            refine jG.blk (st_M_readSquares) 2 (pc1 := 30) (L1 := [(0, (2, ((24 : Nat) : Int))), (1, (0, l1)), (2, (0, l2)), (3, (0, l3))]) (st1 := [(0, 47), (2, ((24 : Nat) : Int))]) (h1 := h4) rfl ?_
            obtain ⟨v75, hq, hv⟩ := Option.bind_eq_some_iff.mp hv
            refine jT.cV (M1 := M_M_is) (2, ((24 : Nat) : Int)) [(0, 47)] [] (st_M_readSquares) rfl rfl ok_M_is rfl (Or.inl ⟨rfl, _, _, _, rfl, rfl⟩) (Nat.le_of_ble_eq_true rfl) (Nat.le_of_ble_eq_true rfl) rfl (Nat.le_of_ble_eq_true rfl) (C_M_is hq) ?_
            show jG E _ 33 [(0, (2, ((24 : Nat) : Int))), (1, (0, l1)), (2, (0, l2)), (3, (0, l3))] [(0, v75.1)] v75.2 _ _
            refine jT.if1 (st_M_readSquares) rfl (tgt := 38) (by decide) (fun hc => ?_) (fun hc => ?_)
            · have hc : ¬ (v75.1 = 0) := hc
              try rw [if_neg hc] at hv
              refine jG.subp [0, 1, 2] (L1 := [(0, (2, ((24 : Nat) : Int))), (1, (0, l1)), (2, (0, l2))]) rfl ?_
              exact f_M_readSquares_j38_6_ok E ih hk hv
            · have hc : v75.1 = 0 := Decidable.not_not.mp hc
              try rw [if_pos hc] at hv
              refine jG.blk (st_M_readSquares) 1 (pc1 := 37) (L1 := [(0, (2, ((24 : Nat) : Int))), (1, (0, l1)), (2, (0, l2)), (3, (0, l3))]) (st1 := [(0, l1)]) (h1 := v75.2) rfl ?_
              cases hv
              exact jT.iret (st_M_readSquares) rfl trivial
set_option maxRecDepth 100000 in
set_option maxHeartbeats 4000000 in
theorem C_M_readSquares {E : jE} {h : jH} {res : Int × jH} (hv : f_M_readSquares h = some res) : jC E M_M_readSquares [(2, ((24 : Nat) : Int))] h (some (0, res.1)) res.2 := by
  refine jC.of ok_M_readSquares.1 (by rw [jlg]; exact Nat.le_of_ble_eq_true rfl) ?_
  show jG E _ 0 [(0, (2, ((24 : Nat) : Int)))] [] h _ _
  unfold f_M_readSquares at hv
  refine jG.blk (st_M_readSquares) 6 (pc1 := 6) (L1 := [(3, (0, 1)), (2, (0, 0)), (1, (0, 0)), (0, (2, ((24 : Nat) : Int)))]) (st1 := []) (h1 := h) rfl ?_
  refine jG.subp [3, 2, 1, 0] (L1 := [(0, (2, ((24 : Nat) : Int))), (1, (0, 0)), (2, (0, 0)), (3, (0, 1))]) rfl ?_
  refine f_M_readSquares_lp6_ok E (fun l76 l77 l78 h79 res hv => ?_) 1000 _ _ _ _ _ hv
  · refine jG.blk (st_M_readSquares) 1 (pc1 := 294) (L1 := [(1, (0, l76))]) (st1 := [(0, l76)]) (h1 := h79) rfl ?_
    cases hv
    exact jT.iret (st_M_readSquares) rfl trivial
def f_M_readRights_j88 (h13 : jH) (s12 : Int) : Option (Int × jH) := jgd (0 ≤ (303 : Int) ∧ (303 : Int) < 304) (some (if s12 ≤ 0 then (0, jup h13 27 303 s12) else (1, jup h13 27 303 s12)))
def f_M_readRights_j70 (h10 : jH) (s9 : Int) : Option (Int × jH) := (f_M_is h10 113).bind fun v11 => f_M_readRights_j88 v11.2 (if v11.1 = 0 then s9 else jadd s9 8)
def f_M_readRights_j53 (h7 : jH) (s6 : Int) : Option (Int × jH) := (f_M_is h7 107).bind fun v8 => f_M_readRights_j70 v8.2 (if v8.1 = 0 then s6 else jadd s6 4)
def f_M_readRights_j36 (h4 : jH) (s3 : Int) : Option (Int × jH) := (f_M_is h4 81).bind fun v5 => f_M_readRights_j53 v5.2 (if v5.1 = 0 then s3 else jadd s3 2)
def f_M_readRights (h : jH) : Option (Int × jH) := jgd (0 ≤ (303 : Int) ∧ (303 : Int) < 304) ((f_M_is (jup h 27 303 0) 45).bind fun v1 => if v1.1 = 0 then (f_M_is v1.2 75).bind fun v2 => f_M_readRights_j36 v2.2 (if v2.1 = 0 then 0 else 1) else some (1, v1.2))
set_option maxRecDepth 100000 in
set_option maxHeartbeats 4000000 in
theorem f_M_readRights_j88_ok (E : jE) {h13 : jH} {s12 : Int} {res : Int × jH} (hv : f_M_readRights_j88 h13 s12 = some res) : jG E M_M_readRights 88 [(0, (2, ((24 : Nat) : Int)))] [(0, s12)] h13 (some (0, res.1)) res.2 := by
  unfold f_M_readRights_j88 at hv
  refine jG.blk (st_M_readRights) 5 (pc1 := 97) (L1 := [(1, (0, s12)), (0, (2, ((24 : Nat) : Int)))]) (st1 := [(0, s12), (0, 303), (2, ((27 : Nat) : Int))]) (h1 := h13) rfl ?_
  obtain ⟨hg, hv⟩ := jgd_some hv
  refine jT.iast (a := 27) (st_M_readRights) rfl rfl (by decide) hg.1 hg.2 ?_
  refine jG.blk (st_M_readRights) 1 (pc1 := 99) (L1 := [(1, (0, s12)), (0, (2, ((24 : Nat) : Int)))]) (st1 := [(0, s12)]) (h1 := jup h13 27 303 s12) rfl ?_
  refine jT.if1 (st_M_readRights) rfl (tgt := 106) (by decide) (fun hc => ?_) (fun hc => ?_)
  · have hc : s12 ≤ 0 := hc
    try rw [if_pos hc] at hv
    refine jG.blk (st_M_readRights) 1 (pc1 := 107) (L1 := [(1, (0, s12)), (0, (2, ((24 : Nat) : Int)))]) (st1 := [(0, 0)]) (h1 := jup h13 27 303 s12) rfl ?_
    cases hv
    exact jT.iret (st_M_readRights) rfl (Or.inl rfl)
  · have hc : ¬ (s12 ≤ 0) := hc
    try rw [if_neg hc] at hv
    refine jG.blk (st_M_readRights) 1 (pc1 := 103) (L1 := [(1, (0, s12)), (0, (2, ((24 : Nat) : Int)))]) (st1 := [(0, 1)]) (h1 := jup h13 27 303 s12) rfl ?_
    refine jT.goto (st_M_readRights) rfl (tgt := 107) (by decide) ?_
    cases hv
    exact jT.iret (st_M_readRights) rfl (Or.inr rfl)
set_option maxRecDepth 100000 in
set_option maxHeartbeats 4000000 in
theorem f_M_readRights_j70_ok (E : jE) {h10 : jH} {s9 : Int} {res : Int × jH} (hv : f_M_readRights_j70 h10 s9 = some res) : jG E M_M_readRights 70 [(0, (2, ((24 : Nat) : Int)))] [(0, s9)] h10 (some (0, res.1)) res.2 := by
  unfold f_M_readRights_j70 at hv
  refine jG.blk (st_M_readRights) 3 (pc1 := 74) (L1 := [(1, (0, s9)), (0, (2, ((24 : Nat) : Int)))]) (st1 := [(0, 113), (2, ((24 : Nat) : Int))]) (h1 := h10) rfl ?_
  obtain ⟨v11, hq, hv⟩ := Option.bind_eq_some_iff.mp hv
  refine jT.cV (M1 := M_M_is) (2, ((24 : Nat) : Int)) [(0, 113)] [] (st_M_readRights) rfl rfl ok_M_is rfl (Or.inl ⟨rfl, _, _, _, rfl, rfl⟩) (Nat.le_of_ble_eq_true rfl) (Nat.le_of_ble_eq_true rfl) rfl (Nat.le_of_ble_eq_true rfl) (C_M_is hq) ?_
  show jG E _ 77 [(1, (0, s9)), (0, (2, ((24 : Nat) : Int)))] [(0, v11.1)] v11.2 _ _
  refine jT.if1 (st_M_readRights) rfl (tgt := 87) (by decide) (fun hc => ?_) (fun hc => ?_)
  · have hc : v11.1 = 0 := hc
    try rw [if_pos hc] at hv
    refine jG.blk (st_M_readRights) 1 (pc1 := 88) (L1 := [(1, (0, s9)), (0, (2, ((24 : Nat) : Int)))]) (st1 := [(0, s9)]) (h1 := v11.2) rfl ?_
    refine jG.subp [1] (L1 := [(0, (2, ((24 : Nat) : Int)))]) rfl ?_
    exact f_M_readRights_j88_ok E hv
  · have hc : ¬ (v11.1 = 0) := hc
    try rw [if_neg hc] at hv
    refine jG.blk (st_M_readRights) 3 (pc1 := 84) (L1 := [(1, (0, s9)), (0, (2, ((24 : Nat) : Int)))]) (st1 := [(0, jadd s9 8)]) (h1 := v11.2) rfl ?_
    refine jT.goto (st_M_readRights) rfl (tgt := 88) (by decide) ?_
    refine jG.subp [1] (L1 := [(0, (2, ((24 : Nat) : Int)))]) rfl ?_
    exact f_M_readRights_j88_ok E hv
set_option maxRecDepth 100000 in
set_option maxHeartbeats 4000000 in
theorem f_M_readRights_j53_ok (E : jE) {h7 : jH} {s6 : Int} {res : Int × jH} (hv : f_M_readRights_j53 h7 s6 = some res) : jG E M_M_readRights 53 [(0, (2, ((24 : Nat) : Int)))] [(0, s6)] h7 (some (0, res.1)) res.2 := by
  unfold f_M_readRights_j53 at hv
  refine jG.blk (st_M_readRights) 3 (pc1 := 57) (L1 := [(1, (0, s6)), (0, (2, ((24 : Nat) : Int)))]) (st1 := [(0, 107), (2, ((24 : Nat) : Int))]) (h1 := h7) rfl ?_
  obtain ⟨v8, hq, hv⟩ := Option.bind_eq_some_iff.mp hv
  refine jT.cV (M1 := M_M_is) (2, ((24 : Nat) : Int)) [(0, 107)] [] (st_M_readRights) rfl rfl ok_M_is rfl (Or.inl ⟨rfl, _, _, _, rfl, rfl⟩) (Nat.le_of_ble_eq_true rfl) (Nat.le_of_ble_eq_true rfl) rfl (Nat.le_of_ble_eq_true rfl) (C_M_is hq) ?_
  show jG E _ 60 [(1, (0, s6)), (0, (2, ((24 : Nat) : Int)))] [(0, v8.1)] v8.2 _ _
  refine jT.if1 (st_M_readRights) rfl (tgt := 69) (by decide) (fun hc => ?_) (fun hc => ?_)
  · have hc : v8.1 = 0 := hc
    try rw [if_pos hc] at hv
    refine jG.blk (st_M_readRights) 1 (pc1 := 70) (L1 := [(1, (0, s6)), (0, (2, ((24 : Nat) : Int)))]) (st1 := [(0, s6)]) (h1 := v8.2) rfl ?_
    refine jG.subp [1] (L1 := [(0, (2, ((24 : Nat) : Int)))]) rfl ?_
    exact f_M_readRights_j70_ok E hv
  · have hc : ¬ (v8.1 = 0) := hc
    try rw [if_neg hc] at hv
    refine jG.blk (st_M_readRights) 3 (pc1 := 66) (L1 := [(1, (0, s6)), (0, (2, ((24 : Nat) : Int)))]) (st1 := [(0, jadd s6 4)]) (h1 := v8.2) rfl ?_
    refine jT.goto (st_M_readRights) rfl (tgt := 70) (by decide) ?_
    refine jG.subp [1] (L1 := [(0, (2, ((24 : Nat) : Int)))]) rfl ?_
    exact f_M_readRights_j70_ok E hv
set_option maxRecDepth 100000 in
set_option maxHeartbeats 4000000 in
theorem f_M_readRights_j36_ok (E : jE) {h4 : jH} {s3 : Int} {res : Int × jH} (hv : f_M_readRights_j36 h4 s3 = some res) : jG E M_M_readRights 36 [(0, (2, ((24 : Nat) : Int)))] [(0, s3)] h4 (some (0, res.1)) res.2 := by
  unfold f_M_readRights_j36 at hv
  refine jG.blk (st_M_readRights) 3 (pc1 := 40) (L1 := [(1, (0, s3)), (0, (2, ((24 : Nat) : Int)))]) (st1 := [(0, 81), (2, ((24 : Nat) : Int))]) (h1 := h4) rfl ?_
  obtain ⟨v5, hq, hv⟩ := Option.bind_eq_some_iff.mp hv
  refine jT.cV (M1 := M_M_is) (2, ((24 : Nat) : Int)) [(0, 81)] [] (st_M_readRights) rfl rfl ok_M_is rfl (Or.inl ⟨rfl, _, _, _, rfl, rfl⟩) (Nat.le_of_ble_eq_true rfl) (Nat.le_of_ble_eq_true rfl) rfl (Nat.le_of_ble_eq_true rfl) (C_M_is hq) ?_
  show jG E _ 43 [(1, (0, s3)), (0, (2, ((24 : Nat) : Int)))] [(0, v5.1)] v5.2 _ _
  refine jT.if1 (st_M_readRights) rfl (tgt := 52) (by decide) (fun hc => ?_) (fun hc => ?_)
  · have hc : v5.1 = 0 := hc
    try rw [if_pos hc] at hv
    refine jG.blk (st_M_readRights) 1 (pc1 := 53) (L1 := [(1, (0, s3)), (0, (2, ((24 : Nat) : Int)))]) (st1 := [(0, s3)]) (h1 := v5.2) rfl ?_
    refine jG.subp [1] (L1 := [(0, (2, ((24 : Nat) : Int)))]) rfl ?_
    exact f_M_readRights_j53_ok E hv
  · have hc : ¬ (v5.1 = 0) := hc
    try rw [if_neg hc] at hv
    refine jG.blk (st_M_readRights) 3 (pc1 := 49) (L1 := [(1, (0, s3)), (0, (2, ((24 : Nat) : Int)))]) (st1 := [(0, jadd s3 2)]) (h1 := v5.2) rfl ?_
    refine jT.goto (st_M_readRights) rfl (tgt := 53) (by decide) ?_
    refine jG.subp [1] (L1 := [(0, (2, ((24 : Nat) : Int)))]) rfl ?_
    exact f_M_readRights_j53_ok E hv
set_option maxRecDepth 100000 in
set_option maxHeartbeats 4000000 in
theorem C_M_readRights {E : jE} {h : jH} {res : Int × jH} (hv : f_M_readRights h = some res) : jC E M_M_readRights [(2, ((24 : Nat) : Int))] h (some (0, res.1)) res.2 := by
  refine jC.of ok_M_readRights.1 (by rw [jlg]; exact Nat.le_of_ble_eq_true rfl) ?_
  show jG E _ 0 [(0, (2, ((24 : Nat) : Int)))] [] h _ _
  unfold f_M_readRights at hv
  refine jG.blk (st_M_readRights) 4 (pc1 := 8) (L1 := [(0, (2, ((24 : Nat) : Int)))]) (st1 := [(0, 0), (0, 303), (2, ((27 : Nat) : Int))]) (h1 := h) rfl ?_
  obtain ⟨hg, hv⟩ := jgd_some hv
  refine jT.iast (a := 27) (st_M_readRights) rfl rfl (by decide) hg.1 hg.2 ?_
  refine jG.blk (st_M_readRights) 2 (pc1 := 12) (L1 := [(0, (2, ((24 : Nat) : Int)))]) (st1 := [(0, 45), (2, ((24 : Nat) : Int))]) (h1 := jup h 27 303 0) rfl ?_
  obtain ⟨v1, hq, hv⟩ := Option.bind_eq_some_iff.mp hv
  refine jT.cV (M1 := M_M_is) (2, ((24 : Nat) : Int)) [(0, 45)] [] (st_M_readRights) rfl rfl ok_M_is rfl (Or.inl ⟨rfl, _, _, _, rfl, rfl⟩) (Nat.le_of_ble_eq_true rfl) (Nat.le_of_ble_eq_true rfl) rfl (Nat.le_of_ble_eq_true rfl) (C_M_is hq) ?_
  show jG E _ 15 [(0, (2, ((24 : Nat) : Int)))] [(0, v1.1)] v1.2 _ _
  refine jT.if1 (st_M_readRights) rfl (tgt := 20) (by decide) (fun hc => ?_) (fun hc => ?_)
  · have hc : v1.1 = 0 := hc
    try rw [if_pos hc] at hv
    refine jG.blk (st_M_readRights) 4 (pc1 := 25) (L1 := [(1, (0, 0)), (0, (2, ((24 : Nat) : Int)))]) (st1 := [(0, 75), (2, ((24 : Nat) : Int))]) (h1 := v1.2) rfl ?_
    obtain ⟨v2, hq, hv⟩ := Option.bind_eq_some_iff.mp hv
    refine jT.cV (M1 := M_M_is) (2, ((24 : Nat) : Int)) [(0, 75)] [] (st_M_readRights) rfl rfl ok_M_is rfl (Or.inl ⟨rfl, _, _, _, rfl, rfl⟩) (Nat.le_of_ble_eq_true rfl) (Nat.le_of_ble_eq_true rfl) rfl (Nat.le_of_ble_eq_true rfl) (C_M_is hq) ?_
    show jG E _ 28 [(1, (0, 0)), (0, (2, ((24 : Nat) : Int)))] [(0, v2.1)] v2.2 _ _
    refine jT.if1 (st_M_readRights) rfl (tgt := 35) (by decide) (fun hc => ?_) (fun hc => ?_)
    · have hc : v2.1 = 0 := hc
      try rw [if_pos hc] at hv
      refine jG.blk (st_M_readRights) 1 (pc1 := 36) (L1 := [(1, (0, 0)), (0, (2, ((24 : Nat) : Int)))]) (st1 := [(0, 0)]) (h1 := v2.2) rfl ?_
      refine jG.subp [1] (L1 := [(0, (2, ((24 : Nat) : Int)))]) rfl ?_
      exact f_M_readRights_j36_ok E hv
    · have hc : ¬ (v2.1 = 0) := hc
      try rw [if_neg hc] at hv
      refine jG.blk (st_M_readRights) 1 (pc1 := 32) (L1 := [(1, (0, 0)), (0, (2, ((24 : Nat) : Int)))]) (st1 := [(0, 1)]) (h1 := v2.2) rfl ?_
      refine jT.goto (st_M_readRights) rfl (tgt := 36) (by decide) ?_
      refine jG.subp [1] (L1 := [(0, (2, ((24 : Nat) : Int)))]) rfl ?_
      exact f_M_readRights_j36_ok E hv
  · have hc : ¬ (v1.1 = 0) := hc
    try rw [if_neg hc] at hv
    refine jG.blk (st_M_readRights) 1 (pc1 := 19) (L1 := [(0, (2, ((24 : Nat) : Int)))]) (st1 := [(0, 1)]) (h1 := v1.2) rfl ?_
    cases hv
    exact jT.iret (st_M_readRights) rfl (Or.inr rfl)
def f_M_readFile (h : jH) : Option (Int × jH) := jgd (0 ≤ (303 : Int) ∧ (303 : Int) < 304) ((f_M_is (jup (jup h 28 303 (-1)) 24 12 0) 45).bind fun v1 => if v1.1 = 0 then (f_M_next v1.2).bind fun v2 => if v2 < 97 then some (0, v1.2) else if v2 ≤ 104 then jgd (0 ≤ (303 : Int) ∧ (303 : Int) < 304) ((f_M_next (jup (jup v1.2 28 303 (jsub v2 97)) 24 11 (jadd ((jup v1.2 28 303 (jsub v2 97)) 24 11) 1))).bind fun v3 => (f_M_is (jup (jup (jup v1.2 28 303 (jsub v2 97)) 24 11 (jadd ((jup v1.2 28 303 (jsub v2 97)) 24 11) 1)) 24 12 v3) 51).bind fun v4 => if v4.1 = 0 then (f_M_is v4.2 54).bind fun v5 => some (if v5.1 = 0 then (0, v5.2) else (1, v5.2)) else some (1, v4.2)) else some (0, v1.2) else some (1, v1.2))
set_option maxRecDepth 100000 in
set_option maxHeartbeats 4000000 in
theorem C_M_readFile {E : jE} {h : jH} {res : Int × jH} (hv : f_M_readFile h = some res) : jC E M_M_readFile [(2, ((24 : Nat) : Int))] h (some (0, res.1)) res.2 := by
  refine jC.of ok_M_readFile.1 (by rw [jlg]; exact Nat.le_of_ble_eq_true rfl) ?_
  show jG E _ 0 [(0, (2, ((24 : Nat) : Int)))] [] h _ _
  unfold f_M_readFile at hv
  refine jG.blk (st_M_readFile) 4 (pc1 := 8) (L1 := [(0, (2, ((24 : Nat) : Int)))]) (st1 := [(0, (-1)), (0, 303), (2, ((28 : Nat) : Int))]) (h1 := h) rfl ?_
  obtain ⟨hg, hv⟩ := jgd_some hv
  refine jT.iast (a := 28) (st_M_readFile) rfl rfl (by decide) hg.1 hg.2 ?_
  refine jG.blk (st_M_readFile) 5 (pc1 := 17) (L1 := [(0, (2, ((24 : Nat) : Int)))]) (st1 := [(0, 45), (2, ((24 : Nat) : Int))]) (h1 := jup (jup h 28 303 (-1)) 24 12 0) rfl ?_
  obtain ⟨v1, hq, hv⟩ := Option.bind_eq_some_iff.mp hv
  refine jT.cV (M1 := M_M_is) (2, ((24 : Nat) : Int)) [(0, 45)] [] (st_M_readFile) rfl rfl ok_M_is rfl (Or.inl ⟨rfl, _, _, _, rfl, rfl⟩) (Nat.le_of_ble_eq_true rfl) (Nat.le_of_ble_eq_true rfl) rfl (Nat.le_of_ble_eq_true rfl) (C_M_is hq) ?_
  show jG E _ 20 [(0, (2, ((24 : Nat) : Int)))] [(0, v1.1)] v1.2 _ _
  refine jT.if1 (st_M_readFile) rfl (tgt := 25) (by decide) (fun hc => ?_) (fun hc => ?_)
  · have hc : v1.1 = 0 := hc
    try rw [if_pos hc] at hv
    refine jG.blk (st_M_readFile) 1 (pc1 := 26) (L1 := [(0, (2, ((24 : Nat) : Int)))]) (st1 := [(2, ((24 : Nat) : Int))]) (h1 := v1.2) rfl ?_
    obtain ⟨v2, hq, hv⟩ := Option.bind_eq_some_iff.mp hv
    refine jT.cV (M1 := M_M_next) (2, ((24 : Nat) : Int)) [] [] (st_M_readFile) rfl rfl ok_M_next rfl (Or.inl ⟨rfl, _, _, _, rfl, rfl⟩) (Nat.le_of_ble_eq_true rfl) (Nat.le_of_ble_eq_true rfl) rfl (Nat.le_of_ble_eq_true rfl) (C_M_next hq) ?_
    show jG E _ 29 [(0, (2, ((24 : Nat) : Int)))] [(0, v2)] v1.2 _ _
    refine jG.blk (st_M_readFile) 3 (pc1 := 33) (L1 := [(1, (0, v2)), (0, (2, ((24 : Nat) : Int)))]) (st1 := [(0, 97), (0, v2)]) (h1 := v1.2) rfl ?_
    refine jT.if2 (st_M_readFile) rfl (tgt := 42) (by decide) (fun hc => ?_) (fun hc => ?_)
    · have hc : v2 < 97 := hc
      try rw [if_pos hc] at hv
      refine jG.blk (st_M_readFile) 1 (pc1 := 43) (L1 := [(1, (0, v2)), (0, (2, ((24 : Nat) : Int)))]) (st1 := [(0, 0)]) (h1 := v1.2) rfl ?_
      cases hv
      exact jT.iret (st_M_readFile) rfl (Or.inl rfl)
    · have hc : ¬ (v2 < 97) := hc
      try rw [if_neg hc] at hv
      refine jG.blk (st_M_readFile) 2 (pc1 := 39) (L1 := [(1, (0, v2)), (0, (2, ((24 : Nat) : Int)))]) (st1 := [(0, 104), (0, v2)]) (h1 := v1.2) rfl ?_
      refine jT.if2 (st_M_readFile) rfl (tgt := 44) (by decide) (fun hc => ?_) (fun hc => ?_)
      · have hc : v2 ≤ 104 := hc
        try rw [if_pos hc] at hv
        refine jG.blk (st_M_readFile) 6 (pc1 := 55) (L1 := [(1, (0, v2)), (0, (2, ((24 : Nat) : Int)))]) (st1 := [(0, jsub v2 97), (0, 303), (2, ((28 : Nat) : Int))]) (h1 := v1.2) rfl ?_
        obtain ⟨hg, hv⟩ := jgd_some hv
        refine jT.iast (a := 28) (st_M_readFile) rfl rfl (by decide) hg.1 hg.2 ?_
        refine jG.blk (st_M_readFile) 8 (pc1 := 68) (L1 := [(1, (0, v2)), (0, (2, ((24 : Nat) : Int)))]) (st1 := [(2, ((24 : Nat) : Int)), (2, ((24 : Nat) : Int))]) (h1 := jup (jup v1.2 28 303 (jsub v2 97)) 24 11 (jadd ((jup v1.2 28 303 (jsub v2 97)) 24 11) 1)) rfl ?_
        obtain ⟨v3, hq, hv⟩ := Option.bind_eq_some_iff.mp hv
        refine jT.cV (M1 := M_M_next) (2, ((24 : Nat) : Int)) [] [(2, ((24 : Nat) : Int))] (st_M_readFile) rfl rfl ok_M_next rfl (Or.inl ⟨rfl, _, _, _, rfl, rfl⟩) (Nat.le_of_ble_eq_true rfl) (Nat.le_of_ble_eq_true rfl) rfl (Nat.le_of_ble_eq_true rfl) (C_M_next hq) ?_
        show jG E _ 71 [(1, (0, v2)), (0, (2, ((24 : Nat) : Int)))] [(0, v3), (2, ((24 : Nat) : Int))] (jup (jup v1.2 28 303 (jsub v2 97)) 24 11 (jadd ((jup v1.2 28 303 (jsub v2 97)) 24 11) 1)) _ _
        refine jG.blk (st_M_readFile) 3 (pc1 := 77) (L1 := [(1, (0, v2)), (0, (2, ((24 : Nat) : Int)))]) (st1 := [(0, 51), (2, ((24 : Nat) : Int))]) (h1 := jup (jup (jup v1.2 28 303 (jsub v2 97)) 24 11 (jadd ((jup v1.2 28 303 (jsub v2 97)) 24 11) 1)) 24 12 v3) rfl ?_
        obtain ⟨v4, hq, hv⟩ := Option.bind_eq_some_iff.mp hv
        refine jT.cV (M1 := M_M_is) (2, ((24 : Nat) : Int)) [(0, 51)] [] (st_M_readFile) rfl rfl ok_M_is rfl (Or.inl ⟨rfl, _, _, _, rfl, rfl⟩) (Nat.le_of_ble_eq_true rfl) (Nat.le_of_ble_eq_true rfl) rfl (Nat.le_of_ble_eq_true rfl) (C_M_is hq) ?_
        show jG E _ 80 [(1, (0, v2)), (0, (2, ((24 : Nat) : Int)))] [(0, v4.1)] v4.2 _ _
        refine jT.if1 (st_M_readFile) rfl (tgt := 92) (by decide) (fun hc => ?_) (fun hc => ?_)
        · have hc : ¬ (v4.1 = 0) := hc
          try rw [if_neg hc] at hv
          refine jG.blk (st_M_readFile) 1 (pc1 := 93) (L1 := [(1, (0, v2)), (0, (2, ((24 : Nat) : Int)))]) (st1 := [(0, 1)]) (h1 := v4.2) rfl ?_
          refine jT.goto (st_M_readFile) rfl (tgt := 97) (by decide) ?_
          cases hv
          exact jT.iret (st_M_readFile) rfl (Or.inr rfl)
        · have hc : v4.1 = 0 := Decidable.not_not.mp hc
          try rw [if_pos hc] at hv
          refine jG.blk (st_M_readFile) 2 (pc1 := 86) (L1 := [(1, (0, v2)), (0, (2, ((24 : Nat) : Int)))]) (st1 := [(0, 54), (2, ((24 : Nat) : Int))]) (h1 := v4.2) rfl ?_
          obtain ⟨v5, hq, hv⟩ := Option.bind_eq_some_iff.mp hv
          refine jT.cV (M1 := M_M_is) (2, ((24 : Nat) : Int)) [(0, 54)] [] (st_M_readFile) rfl rfl ok_M_is rfl (Or.inl ⟨rfl, _, _, _, rfl, rfl⟩) (Nat.le_of_ble_eq_true rfl) (Nat.le_of_ble_eq_true rfl) rfl (Nat.le_of_ble_eq_true rfl) (C_M_is hq) ?_
          show jG E _ 89 [(1, (0, v2)), (0, (2, ((24 : Nat) : Int)))] [(0, v5.1)] v5.2 _ _
          refine jT.if1 (st_M_readFile) rfl (tgt := 96) (by decide) (fun hc => ?_) (fun hc => ?_)
          · have hc : v5.1 = 0 := hc
            try rw [if_pos hc] at hv
            refine jG.blk (st_M_readFile) 1 (pc1 := 97) (L1 := [(1, (0, v2)), (0, (2, ((24 : Nat) : Int)))]) (st1 := [(0, 0)]) (h1 := v5.2) rfl ?_
            cases hv
            exact jT.iret (st_M_readFile) rfl (Or.inl rfl)
          · have hc : ¬ (v5.1 = 0) := hc
            try rw [if_neg hc] at hv
            refine jG.blk (st_M_readFile) 1 (pc1 := 93) (L1 := [(1, (0, v2)), (0, (2, ((24 : Nat) : Int)))]) (st1 := [(0, 1)]) (h1 := v5.2) rfl ?_
            refine jT.goto (st_M_readFile) rfl (tgt := 97) (by decide) ?_
            cases hv
            exact jT.iret (st_M_readFile) rfl (Or.inr rfl)
      · have hc : ¬ (v2 ≤ 104) := hc
        try rw [if_neg hc] at hv
        refine jG.blk (st_M_readFile) 1 (pc1 := 43) (L1 := [(1, (0, v2)), (0, (2, ((24 : Nat) : Int)))]) (st1 := [(0, 0)]) (h1 := v1.2) rfl ?_
        cases hv
        exact jT.iret (st_M_readFile) rfl (Or.inl rfl)
  · have hc : ¬ (v1.1 = 0) := hc
    try rw [if_neg hc] at hv
    refine jG.blk (st_M_readFile) 1 (pc1 := 24) (L1 := [(0, (2, ((24 : Nat) : Int)))]) (st1 := [(0, 1)]) (h1 := v1.2) rfl ?_
    cases hv
    exact jT.iret (st_M_readFile) rfl (Or.inr rfl)
def f_M_readCount_j35_4 (rc : Int → Int → jH → Option (Int × jH)) (k : Int → Int → jH → Option (Int × jH)) (h3 : jH) (h8 : jH) (l6 : Int) (l7 : Int) : Option (Int × jH) := (f_M_next h8).bind fun v9 => rc (jadd l6 1) (jsub (jadd (jmul 10 l7) v9) 48) (jup h8 24 11 (jadd (h8 24 11) 1))
def f_M_readCount_lp4 (k : Int → Int → jH → Option (Int × jH)) : Nat → Int → Int → jH → Option (Int × jH)
  | 0, _, _, _ => none
  | n + 1, l1, l2, h3 => if 3 ≤ l1 then k l1 l2 h3 else (f_M_next h3).bind fun v4 => if v4 < 48 then k l1 l2 h3 else (f_M_next h3).bind fun v5 => if 57 < v5 then k l1 l2 h3 else if l1 = 0 then f_M_readCount_j35_4 (f_M_readCount_lp4 k n) k h3 h3 l1 l2 else if l2 ≤ 0 then k l1 l2 h3 else f_M_readCount_j35_4 (f_M_readCount_lp4 k n) k h3 h3 l1 l2
def f_M_readCount_j64 (h15 : jH) (l13 : Int) (l14 : Int) : Option (Int × jH) := jgd (0 ≤ (303 : Int) ∧ (303 : Int) < 304) (some (if l13 ≤ 0 then (0, jup h15 29 303 l14) else (1, jup h15 29 303 l14)))
def f_M_readCount (h : jH) : Option (Int × jH) := f_M_readCount_lp4 (fun l10 l11 h12 => f_M_readCount_j64 h12 l10 l11) 1000 0 0 h
set_option maxRecDepth 100000 in
set_option maxHeartbeats 4000000 in
theorem f_M_readCount_j35_4_ok (E : jE) {rc : Int → Int → jH → Option (Int × jH)} {k : Int → Int → jH → Option (Int × jH)} {h3 : jH} {h8 : jH} (hrc : ∀ (l1 : Int) (l2 : Int) (h3 : jH) (res : Int × jH), rc l1 l2 h3 = some res → jG E M_M_readCount 4 [(0, (2, ((24 : Nat) : Int))), (1, (0, l1)), (2, (0, l2))] [] h3 (some (0, res.1)) res.2) (hk : ∀ (l1 : Int) (l2 : Int) (h3 : jH) (res : Int × jH), k l1 l2 h3 = some res → jG E M_M_readCount 64 [(0, (2, ((24 : Nat) : Int))), (1, (0, l1)), (2, (0, l2))] [] h3 (some (0, res.1)) res.2) {l6 : Int} {l7 : Int} {res : Int × jH} (hv : f_M_readCount_j35_4 rc k h3 h8 l6 l7 = some res) : jG E M_M_readCount 35 [(0, (2, ((24 : Nat) : Int))), (1, (0, l6)), (2, (0, l7))] [] h8 (some (0, res.1)) res.2 := by
  unfold f_M_readCount_j35_4 at hv
  refine jG.blk (st_M_readCount) 4 (pc1 := 40) (L1 := [(0, (2, ((24 : Nat) : Int))), (1, (0, l6)), (2, (0, l7))]) (st1 := [(2, ((24 : Nat) : Int)), (0, jmul 10 l7)]) (h1 := h8) rfl ?_
  obtain ⟨v9, hq, hv⟩ := Option.bind_eq_some_iff.mp hv
  refine jT.cV (M1 := M_M_next) (2, ((24 : Nat) : Int)) [] [(0, jmul 10 l7)] (st_M_readCount) rfl rfl ok_M_next rfl (Or.inl ⟨rfl, _, _, _, rfl, rfl⟩) (Nat.le_of_ble_eq_true rfl) (Nat.le_of_ble_eq_true rfl) rfl (Nat.le_of_ble_eq_true rfl) (C_M_next hq) ?_
  show jG E _ 43 [(0, (2, ((24 : Nat) : Int))), (1, (0, l6)), (2, (0, l7))] [(0, v9), (0, jmul 10 l7)] h8 _ _
  refine jG.blk (st_M_readCount) 11 (pc1 := 61) (L1 := [(1, (0, jadd l6 1)), (2, (0, jsub (jadd (jmul 10 l7) v9) 48)), (0, (2, ((24 : Nat) : Int)))]) (st1 := []) (h1 := jup h8 24 11 (jadd (h8 24 11) 1)) rfl ?_
  refine jT.goto (st_M_readCount) rfl (tgt := 4) (by decide) ?_
  refine jG.subp [2, 0, 1] (L1 := [(0, (2, ((24 : Nat) : Int))), (1, (0, jadd l6 1)), (2, (0, jsub (jadd (jmul 10 l7) v9) 48))]) rfl ?_
  exact hrc _ _ _ _ hv
set_option maxRecDepth 100000 in
set_option maxHeartbeats 4000000 in
theorem f_M_readCount_lp4_ok (E : jE) {k : Int → Int → jH → Option (Int × jH)} (hk : ∀ (l1 : Int) (l2 : Int) (h3 : jH) (res : Int × jH), k l1 l2 h3 = some res → jG E M_M_readCount 64 [(0, (2, ((24 : Nat) : Int))), (1, (0, l1)), (2, (0, l2))] [] h3 (some (0, res.1)) res.2) : ∀ (n : Nat) (l1 : Int) (l2 : Int) (h3 : jH) (res : Int × jH), f_M_readCount_lp4 k n l1 l2 h3 = some res → jG E M_M_readCount 4 [(0, (2, ((24 : Nat) : Int))), (1, (0, l1)), (2, (0, l2))] [] h3 (some (0, res.1)) res.2 := by
  intro n
  induction n with
  | zero => intro l1 l2 h3 res hv; cases hv
  | succ n ih =>
    intro l1 l2 h3 res hv
    rw [f_M_readCount_lp4] at hv
    refine jG.blk (st_M_readCount) 2 (pc1 := 6) (L1 := [(0, (2, ((24 : Nat) : Int))), (1, (0, l1)), (2, (0, l2))]) (st1 := [(0, 3), (0, l1)]) (h1 := h3) rfl ?_
    refine jT.if2 (st_M_readCount) rfl (tgt := 64) (by decide) (fun hc => ?_) (fun hc => ?_)
    · have hc : 3 ≤ l1 := hc
      try rw [if_pos hc] at hv
      exact hk _ _ _ _ hv
    · have hc : ¬ (3 ≤ l1) := hc
      try rw [if_neg hc] at hv
      refine jG.blk (st_M_readCount) 1 (pc1 := 10) (L1 := [(0, (2, ((24 : Nat) : Int))), (1, (0, l1)), (2, (0, l2))]) (st1 := [(2, ((24 : Nat) : Int))]) (h1 := h3) rfl ?_
      obtain ⟨v4, hq, hv⟩ := Option.bind_eq_some_iff.mp hv
      refine jT.cV (M1 := M_M_next) (2, ((24 : Nat) : Int)) [] [] (st_M_readCount) rfl rfl ok_M_next rfl (Or.inl ⟨rfl, _, _, _, rfl, rfl⟩) (Nat.le_of_ble_eq_true rfl) (Nat.le_of_ble_eq_true rfl) rfl (Nat.le_of_ble_eq_true rfl) (C_M_next hq) ?_
      show jG E _ 13 [(0, (2, ((24 : Nat) : Int))), (1, (0, l1)), (2, (0, l2))] [(0, v4)] h3 _ _
      refine jG.blk (st_M_readCount) 1 (pc1 := 15) (L1 := [(0, (2, ((24 : Nat) : Int))), (1, (0, l1)), (2, (0, l2))]) (st1 := [(0, 48), (0, v4)]) (h1 := h3) rfl ?_
      refine jT.if2 (st_M_readCount) rfl (tgt := 64) (by decide) (fun hc => ?_) (fun hc => ?_)
      · have hc : v4 < 48 := hc
        try rw [if_pos hc] at hv
        exact hk _ _ _ _ hv
      · have hc : ¬ (v4 < 48) := hc
        try rw [if_neg hc] at hv
        refine jG.blk (st_M_readCount) 1 (pc1 := 19) (L1 := [(0, (2, ((24 : Nat) : Int))), (1, (0, l1)), (2, (0, l2))]) (st1 := [(2, ((24 : Nat) : Int))]) (h1 := h3) rfl ?_
        obtain ⟨v5, hq, hv⟩ := Option.bind_eq_some_iff.mp hv
        refine jT.cV (M1 := M_M_next) (2, ((24 : Nat) : Int)) [] [] (st_M_readCount) rfl rfl ok_M_next rfl (Or.inl ⟨rfl, _, _, _, rfl, rfl⟩) (Nat.le_of_ble_eq_true rfl) (Nat.le_of_ble_eq_true rfl) rfl (Nat.le_of_ble_eq_true rfl) (C_M_next hq) ?_
        show jG E _ 22 [(0, (2, ((24 : Nat) : Int))), (1, (0, l1)), (2, (0, l2))] [(0, v5)] h3 _ _
        refine jG.blk (st_M_readCount) 1 (pc1 := 24) (L1 := [(0, (2, ((24 : Nat) : Int))), (1, (0, l1)), (2, (0, l2))]) (st1 := [(0, 57), (0, v5)]) (h1 := h3) rfl ?_
        refine jT.if2 (st_M_readCount) rfl (tgt := 64) (by decide) (fun hc => ?_) (fun hc => ?_)
        · have hc : 57 < v5 := hc
          try rw [if_pos hc] at hv
          exact hk _ _ _ _ hv
        · have hc : ¬ (57 < v5) := hc
          try rw [if_neg hc] at hv
          refine jG.blk (st_M_readCount) 1 (pc1 := 28) (L1 := [(0, (2, ((24 : Nat) : Int))), (1, (0, l1)), (2, (0, l2))]) (st1 := [(0, l1)]) (h1 := h3) rfl ?_
          refine jT.if1 (st_M_readCount) rfl (tgt := 35) (by decide) (fun hc => ?_) (fun hc => ?_)
          · have hc : l1 = 0 := hc
            try rw [if_pos hc] at hv
            exact f_M_readCount_j35_4_ok E ih hk hv
          · have hc : ¬ (l1 = 0) := hc
            try rw [if_neg hc] at hv
            refine jG.blk (st_M_readCount) 1 (pc1 := 32) (L1 := [(0, (2, ((24 : Nat) : Int))), (1, (0, l1)), (2, (0, l2))]) (st1 := [(0, l2)]) (h1 := h3) rfl ?_
            refine jT.if1 (st_M_readCount) rfl (tgt := 64) (by decide) (fun hc => ?_) (fun hc => ?_)
            · have hc : l2 ≤ 0 := hc
              try rw [if_pos hc] at hv
              exact hk _ _ _ _ hv
            · have hc : ¬ (l2 ≤ 0) := hc
              try rw [if_neg hc] at hv
              exact f_M_readCount_j35_4_ok E ih hk hv
set_option maxRecDepth 100000 in
set_option maxHeartbeats 4000000 in
theorem f_M_readCount_j64_ok (E : jE) {h15 : jH} {l13 : Int} {l14 : Int} {res : Int × jH} (hv : f_M_readCount_j64 h15 l13 l14 = some res) : jG E M_M_readCount 64 [(0, (2, ((24 : Nat) : Int))), (1, (0, l13)), (2, (0, l14))] [] h15 (some (0, res.1)) res.2 := by
  unfold f_M_readCount_j64 at hv
  refine jG.blk (st_M_readCount) 4 (pc1 := 72) (L1 := [(0, (2, ((24 : Nat) : Int))), (1, (0, l13)), (2, (0, l14))]) (st1 := [(0, l14), (0, 303), (2, ((29 : Nat) : Int))]) (h1 := h15) rfl ?_
  obtain ⟨hg, hv⟩ := jgd_some hv
  refine jT.iast (a := 29) (st_M_readCount) rfl rfl (by decide) hg.1 hg.2 ?_
  refine jG.blk (st_M_readCount) 1 (pc1 := 74) (L1 := [(0, (2, ((24 : Nat) : Int))), (1, (0, l13)), (2, (0, l14))]) (st1 := [(0, l13)]) (h1 := jup h15 29 303 l14) rfl ?_
  refine jT.if1 (st_M_readCount) rfl (tgt := 81) (by decide) (fun hc => ?_) (fun hc => ?_)
  · have hc : l13 ≤ 0 := hc
    try rw [if_pos hc] at hv
    refine jG.blk (st_M_readCount) 1 (pc1 := 82) (L1 := [(0, (2, ((24 : Nat) : Int))), (1, (0, l13)), (2, (0, l14))]) (st1 := [(0, 0)]) (h1 := jup h15 29 303 l14) rfl ?_
    cases hv
    exact jT.iret (st_M_readCount) rfl (Or.inl rfl)
  · have hc : ¬ (l13 ≤ 0) := hc
    try rw [if_neg hc] at hv
    refine jG.blk (st_M_readCount) 1 (pc1 := 78) (L1 := [(0, (2, ((24 : Nat) : Int))), (1, (0, l13)), (2, (0, l14))]) (st1 := [(0, 1)]) (h1 := jup h15 29 303 l14) rfl ?_
    refine jT.goto (st_M_readCount) rfl (tgt := 82) (by decide) ?_
    cases hv
    exact jT.iret (st_M_readCount) rfl (Or.inr rfl)
set_option maxRecDepth 100000 in
set_option maxHeartbeats 4000000 in
theorem C_M_readCount {E : jE} {h : jH} {res : Int × jH} (hv : f_M_readCount h = some res) : jC E M_M_readCount [(2, ((24 : Nat) : Int))] h (some (0, res.1)) res.2 := by
  refine jC.of ok_M_readCount.1 (by rw [jlg]; exact Nat.le_of_ble_eq_true rfl) ?_
  show jG E _ 0 [(0, (2, ((24 : Nat) : Int)))] [] h _ _
  unfold f_M_readCount at hv
  refine jG.blk (st_M_readCount) 4 (pc1 := 4) (L1 := [(2, (0, 0)), (1, (0, 0)), (0, (2, ((24 : Nat) : Int)))]) (st1 := []) (h1 := h) rfl ?_
  refine jG.subp [2, 1, 0] (L1 := [(0, (2, ((24 : Nat) : Int))), (1, (0, 0)), (2, (0, 0))]) rfl ?_
  refine f_M_readCount_lp4_ok E (fun l10 l11 h12 res hv => ?_) 1000 _ _ _ _ hv
  · exact f_M_readCount_j64_ok E hv
def f_M_readAll_j70 (h10 : jH) (s9 : Int) : Option (Int × jH) := if s9 = 0 then some (0, h10) else (f_M_is h10 32).bind fun v11 => if v11.1 = 0 then some (0, v11.2) else (f_M_readRights v11.2).bind fun v12 => if v12.1 = 0 then some (0, v12.2) else (f_M_is v12.2 32).bind fun v13 => if v13.1 = 0 then some (0, v13.2) else (f_M_readFile v13.2).bind fun v14 => if v14.1 = 0 then some (0, v14.2) else (f_M_is v14.2 32).bind fun v15 => if v15.1 = 0 then some (0, v15.2) else (f_M_readCount v15.2).bind fun v16 => some (if v16.1 = 0 then (0, v16.2) else if v16.2 24 11 = v16.2 24 10 then (1, v16.2) else (0, v16.2))
def f_M_readAll_j65 (h8 : jH) : Option (Int × jH) := f_M_readAll_j70 h8 1
def f_M_readAll_j46 (h6 : jH) (s4 : Int) (s5 : Int) : Option (Int × jH) := jgd (0 ≤ s5 ∧ s5 < 304) ((f_M_is (jup h6 26 s5.toNat s4) 119).bind fun v7 => if v7.1 = 0 then (f_M_is v7.2 98).bind fun v17 => if v17.1 = 0 then f_M_readAll_j70 v17.2 0 else f_M_readAll_j65 v17.2 else f_M_readAll_j65 v7.2)
def f_M_readAll (h : jH) : Option (Int × jH) := (f_M_readSquares (jup h 24 11 0)).bind fun v1 => if v1.1 < 64 then some (0, v1.2) else (f_M_is v1.2 32).bind fun v2 => if v2.1 = 0 then some (0, v2.2) else (f_M_next v2.2).bind fun v3 => f_M_readAll_j46 v2.2 (if v3 = 98 then 1 else 0) 303
set_option maxRecDepth 100000 in
set_option maxHeartbeats 4000000 in
theorem f_M_readAll_j70_ok (E : jE) {h10 : jH} {s9 : Int} {res : Int × jH} (hv : f_M_readAll_j70 h10 s9 = some res) : jG E M_M_readAll 70 [(0, (2, ((24 : Nat) : Int)))] [(0, s9)] h10 (some (0, res.1)) res.2 := by
  unfold f_M_readAll_j70 at hv
  refine jG.blk (st_M_readAll) 2 (pc1 := 72) (L1 := [(1, (0, s9)), (0, (2, ((24 : Nat) : Int)))]) (st1 := [(0, s9)]) (h1 := h10) rfl ?_
  refine jT.if1 (st_M_readAll) rfl (tgt := 138) (by decide) (fun hc => ?_) (fun hc => ?_)
  · have hc : s9 = 0 := hc
    try rw [if_pos hc] at hv
    refine jG.blk (st_M_readAll) 1 (pc1 := 139) (L1 := [(1, (0, s9)), (0, (2, ((24 : Nat) : Int)))]) (st1 := [(0, 0)]) (h1 := h10) rfl ?_
    cases hv
    exact jT.iret (st_M_readAll) rfl (Or.inl rfl)
  · have hc : ¬ (s9 = 0) := hc
    try rw [if_neg hc] at hv
    refine jG.blk (st_M_readAll) 2 (pc1 := 78) (L1 := [(1, (0, s9)), (0, (2, ((24 : Nat) : Int)))]) (st1 := [(0, 32), (2, ((24 : Nat) : Int))]) (h1 := h10) rfl ?_
    obtain ⟨v11, hq, hv⟩ := Option.bind_eq_some_iff.mp hv
    refine jT.cV (M1 := M_M_is) (2, ((24 : Nat) : Int)) [(0, 32)] [] (st_M_readAll) rfl rfl ok_M_is rfl (Or.inl ⟨rfl, _, _, _, rfl, rfl⟩) (Nat.le_of_ble_eq_true rfl) (Nat.le_of_ble_eq_true rfl) rfl (Nat.le_of_ble_eq_true rfl) (C_M_is hq) ?_
    show jG E _ 81 [(1, (0, s9)), (0, (2, ((24 : Nat) : Int)))] [(0, v11.1)] v11.2 _ _
    refine jT.if1 (st_M_readAll) rfl (tgt := 138) (by decide) (fun hc => ?_) (fun hc => ?_)
    · have hc : v11.1 = 0 := hc
      try rw [if_pos hc] at hv
      refine jG.blk (st_M_readAll) 1 (pc1 := 139) (L1 := [(1, (0, s9)), (0, (2, ((24 : Nat) : Int)))]) (st1 := [(0, 0)]) (h1 := v11.2) rfl ?_
      cases hv
      exact jT.iret (st_M_readAll) rfl (Or.inl rfl)
    · have hc : ¬ (v11.1 = 0) := hc
      try rw [if_neg hc] at hv
      refine jG.blk (st_M_readAll) 1 (pc1 := 85) (L1 := [(1, (0, s9)), (0, (2, ((24 : Nat) : Int)))]) (st1 := [(2, ((24 : Nat) : Int))]) (h1 := v11.2) rfl ?_
      obtain ⟨v12, hq, hv⟩ := Option.bind_eq_some_iff.mp hv
      refine jT.cV (M1 := M_M_readRights) (2, ((24 : Nat) : Int)) [] [] (st_M_readAll) rfl rfl ok_M_readRights rfl (Or.inl ⟨rfl, _, _, _, rfl, rfl⟩) (Nat.le_of_ble_eq_true rfl) (Nat.le_of_ble_eq_true rfl) rfl (Nat.le_of_ble_eq_true rfl) (C_M_readRights hq) ?_
      show jG E _ 88 [(1, (0, s9)), (0, (2, ((24 : Nat) : Int)))] [(0, v12.1)] v12.2 _ _
      refine jT.if1 (st_M_readAll) rfl (tgt := 138) (by decide) (fun hc => ?_) (fun hc => ?_)
      · have hc : v12.1 = 0 := hc
        try rw [if_pos hc] at hv
        refine jG.blk (st_M_readAll) 1 (pc1 := 139) (L1 := [(1, (0, s9)), (0, (2, ((24 : Nat) : Int)))]) (st1 := [(0, 0)]) (h1 := v12.2) rfl ?_
        cases hv
        exact jT.iret (st_M_readAll) rfl (Or.inl rfl)
      · have hc : ¬ (v12.1 = 0) := hc
        try rw [if_neg hc] at hv
        refine jG.blk (st_M_readAll) 2 (pc1 := 94) (L1 := [(1, (0, s9)), (0, (2, ((24 : Nat) : Int)))]) (st1 := [(0, 32), (2, ((24 : Nat) : Int))]) (h1 := v12.2) rfl ?_
        obtain ⟨v13, hq, hv⟩ := Option.bind_eq_some_iff.mp hv
        refine jT.cV (M1 := M_M_is) (2, ((24 : Nat) : Int)) [(0, 32)] [] (st_M_readAll) rfl rfl ok_M_is rfl (Or.inl ⟨rfl, _, _, _, rfl, rfl⟩) (Nat.le_of_ble_eq_true rfl) (Nat.le_of_ble_eq_true rfl) rfl (Nat.le_of_ble_eq_true rfl) (C_M_is hq) ?_
        show jG E _ 97 [(1, (0, s9)), (0, (2, ((24 : Nat) : Int)))] [(0, v13.1)] v13.2 _ _
        refine jT.if1 (st_M_readAll) rfl (tgt := 138) (by decide) (fun hc => ?_) (fun hc => ?_)
        · have hc : v13.1 = 0 := hc
          try rw [if_pos hc] at hv
          refine jG.blk (st_M_readAll) 1 (pc1 := 139) (L1 := [(1, (0, s9)), (0, (2, ((24 : Nat) : Int)))]) (st1 := [(0, 0)]) (h1 := v13.2) rfl ?_
          cases hv
          exact jT.iret (st_M_readAll) rfl (Or.inl rfl)
        · have hc : ¬ (v13.1 = 0) := hc
          try rw [if_neg hc] at hv
          refine jG.blk (st_M_readAll) 1 (pc1 := 101) (L1 := [(1, (0, s9)), (0, (2, ((24 : Nat) : Int)))]) (st1 := [(2, ((24 : Nat) : Int))]) (h1 := v13.2) rfl ?_
          obtain ⟨v14, hq, hv⟩ := Option.bind_eq_some_iff.mp hv
          refine jT.cV (M1 := M_M_readFile) (2, ((24 : Nat) : Int)) [] [] (st_M_readAll) rfl rfl ok_M_readFile rfl (Or.inl ⟨rfl, _, _, _, rfl, rfl⟩) (Nat.le_of_ble_eq_true rfl) (Nat.le_of_ble_eq_true rfl) rfl (Nat.le_of_ble_eq_true rfl) (C_M_readFile hq) ?_
          show jG E _ 104 [(1, (0, s9)), (0, (2, ((24 : Nat) : Int)))] [(0, v14.1)] v14.2 _ _
          refine jT.if1 (st_M_readAll) rfl (tgt := 138) (by decide) (fun hc => ?_) (fun hc => ?_)
          · have hc : v14.1 = 0 := hc
            try rw [if_pos hc] at hv
            refine jG.blk (st_M_readAll) 1 (pc1 := 139) (L1 := [(1, (0, s9)), (0, (2, ((24 : Nat) : Int)))]) (st1 := [(0, 0)]) (h1 := v14.2) rfl ?_
            cases hv
            exact jT.iret (st_M_readAll) rfl (Or.inl rfl)
          · have hc : ¬ (v14.1 = 0) := hc
            try rw [if_neg hc] at hv
            refine jG.blk (st_M_readAll) 2 (pc1 := 110) (L1 := [(1, (0, s9)), (0, (2, ((24 : Nat) : Int)))]) (st1 := [(0, 32), (2, ((24 : Nat) : Int))]) (h1 := v14.2) rfl ?_
            obtain ⟨v15, hq, hv⟩ := Option.bind_eq_some_iff.mp hv
            refine jT.cV (M1 := M_M_is) (2, ((24 : Nat) : Int)) [(0, 32)] [] (st_M_readAll) rfl rfl ok_M_is rfl (Or.inl ⟨rfl, _, _, _, rfl, rfl⟩) (Nat.le_of_ble_eq_true rfl) (Nat.le_of_ble_eq_true rfl) rfl (Nat.le_of_ble_eq_true rfl) (C_M_is hq) ?_
            show jG E _ 113 [(1, (0, s9)), (0, (2, ((24 : Nat) : Int)))] [(0, v15.1)] v15.2 _ _
            refine jT.if1 (st_M_readAll) rfl (tgt := 138) (by decide) (fun hc => ?_) (fun hc => ?_)
            · have hc : v15.1 = 0 := hc
              try rw [if_pos hc] at hv
              refine jG.blk (st_M_readAll) 1 (pc1 := 139) (L1 := [(1, (0, s9)), (0, (2, ((24 : Nat) : Int)))]) (st1 := [(0, 0)]) (h1 := v15.2) rfl ?_
              cases hv
              exact jT.iret (st_M_readAll) rfl (Or.inl rfl)
            · have hc : ¬ (v15.1 = 0) := hc
              try rw [if_neg hc] at hv
              refine jG.blk (st_M_readAll) 1 (pc1 := 117) (L1 := [(1, (0, s9)), (0, (2, ((24 : Nat) : Int)))]) (st1 := [(2, ((24 : Nat) : Int))]) (h1 := v15.2) rfl ?_
              obtain ⟨v16, hq, hv⟩ := Option.bind_eq_some_iff.mp hv
              refine jT.cV (M1 := M_M_readCount) (2, ((24 : Nat) : Int)) [] [] (st_M_readAll) rfl rfl ok_M_readCount rfl (Or.inl ⟨rfl, _, _, _, rfl, rfl⟩) (Nat.le_of_ble_eq_true rfl) (Nat.le_of_ble_eq_true rfl) rfl (Nat.le_of_ble_eq_true rfl) (C_M_readCount hq) ?_
              show jG E _ 120 [(1, (0, s9)), (0, (2, ((24 : Nat) : Int)))] [(0, v16.1)] v16.2 _ _
              refine jT.if1 (st_M_readAll) rfl (tgt := 138) (by decide) (fun hc => ?_) (fun hc => ?_)
              · have hc : v16.1 = 0 := hc
                try rw [if_pos hc] at hv
                refine jG.blk (st_M_readAll) 1 (pc1 := 139) (L1 := [(1, (0, s9)), (0, (2, ((24 : Nat) : Int)))]) (st1 := [(0, 0)]) (h1 := v16.2) rfl ?_
                cases hv
                exact jT.iret (st_M_readAll) rfl (Or.inl rfl)
              · have hc : ¬ (v16.1 = 0) := hc
                try rw [if_neg hc] at hv
                refine jG.blk (st_M_readAll) 4 (pc1 := 131) (L1 := [(1, (0, s9)), (0, (2, ((24 : Nat) : Int)))]) (st1 := [(0, v16.2 24 10), (0, v16.2 24 11)]) (h1 := v16.2) rfl ?_
                refine jT.if2 (st_M_readAll) rfl (tgt := 138) (by decide) (fun hc => ?_) (fun hc => ?_)
                · have hc : ¬ (v16.2 24 11 = v16.2 24 10) := hc
                  try rw [if_neg hc] at hv
                  refine jG.blk (st_M_readAll) 1 (pc1 := 139) (L1 := [(1, (0, s9)), (0, (2, ((24 : Nat) : Int)))]) (st1 := [(0, 0)]) (h1 := v16.2) rfl ?_
                  cases hv
                  exact jT.iret (st_M_readAll) rfl (Or.inl rfl)
                · have hc : v16.2 24 11 = v16.2 24 10 := Decidable.not_not.mp hc
                  try rw [if_pos hc] at hv
                  refine jG.blk (st_M_readAll) 1 (pc1 := 135) (L1 := [(1, (0, s9)), (0, (2, ((24 : Nat) : Int)))]) (st1 := [(0, 1)]) (h1 := v16.2) rfl ?_
                  refine jT.goto (st_M_readAll) rfl (tgt := 139) (by decide) ?_
                  cases hv
                  exact jT.iret (st_M_readAll) rfl (Or.inr rfl)
set_option maxRecDepth 100000 in
set_option maxHeartbeats 4000000 in
theorem f_M_readAll_j65_ok (E : jE) {h8 : jH} {res : Int × jH} (hv : f_M_readAll_j65 h8 = some res) : jG E M_M_readAll 65 [(0, (2, ((24 : Nat) : Int)))] [] h8 (some (0, res.1)) res.2 := by
  unfold f_M_readAll_j65 at hv
  refine jG.blk (st_M_readAll) 1 (pc1 := 66) (L1 := [(0, (2, ((24 : Nat) : Int)))]) (st1 := [(0, 1)]) (h1 := h8) rfl ?_
  refine jT.goto (st_M_readAll) rfl (tgt := 70) (by decide) ?_
  exact f_M_readAll_j70_ok E hv
set_option maxRecDepth 100000 in
set_option maxHeartbeats 4000000 in
theorem f_M_readAll_j46_ok (E : jE) {h6 : jH} {s4 : Int} {s5 : Int} {res : Int × jH} (hv : f_M_readAll_j46 h6 s4 s5 = some res) : jG E M_M_readAll 46 [(0, (2, ((24 : Nat) : Int)))] [(0, s4), (0, s5), (2, ((26 : Nat) : Int))] h6 (some (0, res.1)) res.2 := by
  unfold f_M_readAll_j46 at hv
  obtain ⟨hg, hv⟩ := jgd_some hv
  refine jT.iast (a := 26) (st_M_readAll) rfl rfl (by decide) hg.1 hg.2 ?_
  refine jG.blk (st_M_readAll) 2 (pc1 := 50) (L1 := [(0, (2, ((24 : Nat) : Int)))]) (st1 := [(0, 119), (2, ((24 : Nat) : Int))]) (h1 := jup h6 26 s5.toNat s4) rfl ?_
  obtain ⟨v7, hq, hv⟩ := Option.bind_eq_some_iff.mp hv
  refine jT.cV (M1 := M_M_is) (2, ((24 : Nat) : Int)) [(0, 119)] [] (st_M_readAll) rfl rfl ok_M_is rfl (Or.inl ⟨rfl, _, _, _, rfl, rfl⟩) (Nat.le_of_ble_eq_true rfl) (Nat.le_of_ble_eq_true rfl) rfl (Nat.le_of_ble_eq_true rfl) (C_M_is hq) ?_
  show jG E _ 53 [(0, (2, ((24 : Nat) : Int)))] [(0, v7.1)] v7.2 _ _
  refine jT.if1 (st_M_readAll) rfl (tgt := 65) (by decide) (fun hc => ?_) (fun hc => ?_)
  · have hc : ¬ (v7.1 = 0) := hc
    try rw [if_neg hc] at hv
    exact f_M_readAll_j65_ok E hv
  · have hc : v7.1 = 0 := Decidable.not_not.mp hc
    try rw [if_pos hc] at hv
    refine jG.blk (st_M_readAll) 2 (pc1 := 59) (L1 := [(0, (2, ((24 : Nat) : Int)))]) (st1 := [(0, 98), (2, ((24 : Nat) : Int))]) (h1 := v7.2) rfl ?_
    obtain ⟨v17, hq, hv⟩ := Option.bind_eq_some_iff.mp hv
    refine jT.cV (M1 := M_M_is) (2, ((24 : Nat) : Int)) [(0, 98)] [] (st_M_readAll) rfl rfl ok_M_is rfl (Or.inl ⟨rfl, _, _, _, rfl, rfl⟩) (Nat.le_of_ble_eq_true rfl) (Nat.le_of_ble_eq_true rfl) rfl (Nat.le_of_ble_eq_true rfl) (C_M_is hq) ?_
    show jG E _ 62 [(0, (2, ((24 : Nat) : Int)))] [(0, v17.1)] v17.2 _ _
    refine jT.if1 (st_M_readAll) rfl (tgt := 69) (by decide) (fun hc => ?_) (fun hc => ?_)
    · have hc : v17.1 = 0 := hc
      try rw [if_pos hc] at hv
      refine jG.blk (st_M_readAll) 1 (pc1 := 70) (L1 := [(0, (2, ((24 : Nat) : Int)))]) (st1 := [(0, 0)]) (h1 := v17.2) rfl ?_
      exact f_M_readAll_j70_ok E hv
    · have hc : ¬ (v17.1 = 0) := hc
      try rw [if_neg hc] at hv
      exact f_M_readAll_j65_ok E hv
set_option maxRecDepth 100000 in
set_option maxHeartbeats 4000000 in
theorem C_M_readAll {E : jE} {h : jH} {res : Int × jH} (hv : f_M_readAll h = some res) : jC E M_M_readAll [(2, ((24 : Nat) : Int))] h (some (0, res.1)) res.2 := by
  refine jC.of ok_M_readAll.1 (by rw [jlg]; exact Nat.le_of_ble_eq_true rfl) ?_
  show jG E _ 0 [(0, (2, ((24 : Nat) : Int)))] [] h _ _
  unfold f_M_readAll at hv
  refine jG.blk (st_M_readAll) 4 (pc1 := 6) (L1 := [(0, (2, ((24 : Nat) : Int)))]) (st1 := [(2, ((24 : Nat) : Int))]) (h1 := jup h 24 11 0) rfl ?_
  obtain ⟨v1, hq, hv⟩ := Option.bind_eq_some_iff.mp hv
  refine jT.cV (M1 := M_M_readSquares) (2, ((24 : Nat) : Int)) [] [] (st_M_readAll) rfl rfl ok_M_readSquares rfl (Or.inl ⟨rfl, _, _, _, rfl, rfl⟩) (Nat.le_of_ble_eq_true rfl) (Nat.le_of_ble_eq_true rfl) rfl (Nat.le_of_ble_eq_true rfl) (C_M_readSquares hq) ?_
  show jG E _ 9 [(0, (2, ((24 : Nat) : Int)))] [(0, v1.1)] v1.2 _ _
  refine jG.blk (st_M_readAll) 1 (pc1 := 11) (L1 := [(0, (2, ((24 : Nat) : Int)))]) (st1 := [(0, 64), (0, v1.1)]) (h1 := v1.2) rfl ?_
  refine jT.if2 (st_M_readAll) rfl (tgt := 23) (by decide) (fun hc => ?_) (fun hc => ?_)
  · have hc : v1.1 < 64 := hc
    try rw [if_pos hc] at hv
    refine jG.blk (st_M_readAll) 1 (pc1 := 24) (L1 := [(0, (2, ((24 : Nat) : Int)))]) (st1 := [(0, 0)]) (h1 := v1.2) rfl ?_
    cases hv
    exact jT.iret (st_M_readAll) rfl (Or.inl rfl)
  · have hc : ¬ (v1.1 < 64) := hc
    try rw [if_neg hc] at hv
    refine jG.blk (st_M_readAll) 2 (pc1 := 17) (L1 := [(0, (2, ((24 : Nat) : Int)))]) (st1 := [(0, 32), (2, ((24 : Nat) : Int))]) (h1 := v1.2) rfl ?_
    obtain ⟨v2, hq, hv⟩ := Option.bind_eq_some_iff.mp hv
    refine jT.cV (M1 := M_M_is) (2, ((24 : Nat) : Int)) [(0, 32)] [] (st_M_readAll) rfl rfl ok_M_is rfl (Or.inl ⟨rfl, _, _, _, rfl, rfl⟩) (Nat.le_of_ble_eq_true rfl) (Nat.le_of_ble_eq_true rfl) rfl (Nat.le_of_ble_eq_true rfl) (C_M_is hq) ?_
    show jG E _ 20 [(0, (2, ((24 : Nat) : Int)))] [(0, v2.1)] v2.2 _ _
    refine jT.if1 (st_M_readAll) rfl (tgt := 25) (by decide) (fun hc => ?_) (fun hc => ?_)
    · have hc : ¬ (v2.1 = 0) := hc
      try rw [if_neg hc] at hv
      refine jG.blk (st_M_readAll) 4 (pc1 := 33) (L1 := [(0, (2, ((24 : Nat) : Int)))]) (st1 := [(2, ((24 : Nat) : Int)), (0, 303), (2, ((26 : Nat) : Int))]) (h1 := v2.2) rfl ?_
      obtain ⟨v3, hq, hv⟩ := Option.bind_eq_some_iff.mp hv
      refine jT.cV (M1 := M_M_next) (2, ((24 : Nat) : Int)) [] [(0, 303), (2, ((26 : Nat) : Int))] (st_M_readAll) rfl rfl ok_M_next rfl (Or.inl ⟨rfl, _, _, _, rfl, rfl⟩) (Nat.le_of_ble_eq_true rfl) (Nat.le_of_ble_eq_true rfl) rfl (Nat.le_of_ble_eq_true rfl) (C_M_next hq) ?_
      show jG E _ 36 [(0, (2, ((24 : Nat) : Int)))] [(0, v3), (0, 303), (2, ((26 : Nat) : Int))] v2.2 _ _
      refine jG.blk (st_M_readAll) 1 (pc1 := 38) (L1 := [(0, (2, ((24 : Nat) : Int)))]) (st1 := [(0, 98), (0, v3), (0, 303), (2, ((26 : Nat) : Int))]) (h1 := v2.2) rfl ?_
      refine jT.if2 (st_M_readAll) rfl (tgt := 45) (by decide) (fun hc => ?_) (fun hc => ?_)
      · have hc : ¬ (v3 = 98) := hc
        try rw [if_neg hc] at hv
        refine jG.blk (st_M_readAll) 1 (pc1 := 46) (L1 := [(0, (2, ((24 : Nat) : Int)))]) (st1 := [(0, 0), (0, 303), (2, ((26 : Nat) : Int))]) (h1 := v2.2) rfl ?_
        exact f_M_readAll_j46_ok E hv
      · have hc : v3 = 98 := Decidable.not_not.mp hc
        try rw [if_pos hc] at hv
        refine jG.blk (st_M_readAll) 1 (pc1 := 42) (L1 := [(0, (2, ((24 : Nat) : Int)))]) (st1 := [(0, 1), (0, 303), (2, ((26 : Nat) : Int))]) (h1 := v2.2) rfl ?_
        refine jT.goto (st_M_readAll) rfl (tgt := 46) (by decide) ?_
        exact f_M_readAll_j46_ok E hv
    · have hc : v2.1 = 0 := Decidable.not_not.mp hc
      try rw [if_pos hc] at hv
      refine jG.blk (st_M_readAll) 1 (pc1 := 24) (L1 := [(0, (2, ((24 : Nat) : Int)))]) (st1 := [(0, 0)]) (h1 := v2.2) rfl ?_
      cases hv
      exact jT.iret (st_M_readAll) rfl (Or.inl rfl)
def f_M_read_j87 (h4 : jH) (s3 : Int) : Option (Int × jH) := if s3 = 0 then some ((-2), h4) else (f_M_begin h4).bind fun v5 => some (0, v5)
def f_M_read_j86 (h2 : jH) : Option (Int × jH) := f_M_read_j87 h2 0
def f_M_read_j72 (h6 : jH) : Option (Int × jH) := (f_M_isGood h6 303).bind fun v7 => if v7 = 0 then f_M_read_j86 h6 else f_M_read_j87 h6 1
def f_M_read_j69 (h10 : jH) (s8 : Int) (s9 : Int) : Option (Int × jH) := if s9 = s8 then f_M_read_j72 h10 else f_M_read_j86 h10
def f_M_read (h : jH) : Option (Int × jH) := (f_M_readAll (jup h 24 0 0)).bind fun v1 => if v1.1 = 0 then some (jadd ((jup v1.2 24 10 0) 24 11) 1, jup v1.2 24 10 0) else jgd (0 ≤ (303 : Int) ∧ (303 : Int) < 304) (if 150 < (jup v1.2 24 10 0) 29 303 then f_M_read_j86 (jup v1.2 24 10 0) else if (jup v1.2 24 10 0) 24 12 = 0 then f_M_read_j72 (jup v1.2 24 10 0) else jgd (0 ≤ (303 : Int) ∧ (303 : Int) < 304) (f_M_read_j69 (jup v1.2 24 10 0) (if (jup v1.2 24 10 0) 26 303 = 0 then 54 else 51) ((jup v1.2 24 10 0) 24 12)))
set_option maxRecDepth 100000 in
set_option maxHeartbeats 4000000 in
theorem f_M_read_j87_ok (E : jE) {h4 : jH} {s3 : Int} {res : Int × jH} (hv : f_M_read_j87 h4 s3 = some res) : jG E M_M_read 87 [(0, (2, ((24 : Nat) : Int)))] [(0, s3)] h4 (some (0, res.1)) res.2 := by
  unfold f_M_read_j87 at hv
  refine jG.blk (st_M_read) 2 (pc1 := 89) (L1 := [(2, (0, s3)), (0, (2, ((24 : Nat) : Int)))]) (st1 := [(0, s3)]) (h1 := h4) rfl ?_
  refine jT.if1 (st_M_read) rfl (tgt := 95) (by decide) (fun hc => ?_) (fun hc => ?_)
  · have hc : ¬ (s3 = 0) := hc
    try rw [if_neg hc] at hv
    refine jG.blk (st_M_read) 1 (pc1 := 96) (L1 := [(2, (0, s3)), (0, (2, ((24 : Nat) : Int)))]) (st1 := [(2, ((24 : Nat) : Int))]) (h1 := h4) rfl ?_
    obtain ⟨v5, hq, hv⟩ := Option.bind_eq_some_iff.mp hv
    refine jT.cV (M1 := M_M_begin) (2, ((24 : Nat) : Int)) [] [] (st_M_read) rfl rfl ok_M_begin rfl (Or.inl ⟨rfl, _, _, _, rfl, rfl⟩) (Nat.le_of_ble_eq_true rfl) (Nat.le_of_ble_eq_true rfl) rfl (Nat.le_of_ble_eq_true rfl) (C_M_begin hq) ?_
    show jG E _ 99 [(2, (0, s3)), (0, (2, ((24 : Nat) : Int)))] [] v5 _ _
    refine jG.blk (st_M_read) 1 (pc1 := 100) (L1 := [(2, (0, s3)), (0, (2, ((24 : Nat) : Int)))]) (st1 := [(0, 0)]) (h1 := v5) rfl ?_
    cases hv
    exact jT.iret (st_M_read) rfl trivial
  · have hc : s3 = 0 := Decidable.not_not.mp hc
    try rw [if_pos hc] at hv
    refine jG.blk (st_M_read) 1 (pc1 := 94) (L1 := [(2, (0, s3)), (0, (2, ((24 : Nat) : Int)))]) (st1 := [(0, (-2))]) (h1 := h4) rfl ?_
    cases hv
    exact jT.iret (st_M_read) rfl trivial
set_option maxRecDepth 100000 in
set_option maxHeartbeats 4000000 in
theorem f_M_read_j86_ok (E : jE) {h2 : jH} {res : Int × jH} (hv : f_M_read_j86 h2 = some res) : jG E M_M_read 86 [(0, (2, ((24 : Nat) : Int)))] [] h2 (some (0, res.1)) res.2 := by
  unfold f_M_read_j86 at hv
  refine jG.blk (st_M_read) 1 (pc1 := 87) (L1 := [(0, (2, ((24 : Nat) : Int)))]) (st1 := [(0, 0)]) (h1 := h2) rfl ?_
  exact f_M_read_j87_ok E hv
set_option maxRecDepth 100000 in
set_option maxHeartbeats 4000000 in
theorem f_M_read_j72_ok (E : jE) {h6 : jH} {res : Int × jH} (hv : f_M_read_j72 h6 = some res) : jG E M_M_read 72 [(0, (2, ((24 : Nat) : Int)))] [] h6 (some (0, res.1)) res.2 := by
  unfold f_M_read_j72 at hv
  refine jG.blk (st_M_read) 2 (pc1 := 76) (L1 := [(0, (2, ((24 : Nat) : Int)))]) (st1 := [(0, 303), (2, ((24 : Nat) : Int))]) (h1 := h6) rfl ?_
  obtain ⟨v7, hq, hv⟩ := Option.bind_eq_some_iff.mp hv
  refine jT.cV (M1 := M_M_isGood) (2, ((24 : Nat) : Int)) [(0, 303)] [] (st_M_read) rfl rfl ok_M_isGood rfl (Or.inl ⟨rfl, _, _, _, rfl, rfl⟩) (Nat.le_of_ble_eq_true rfl) (Nat.le_of_ble_eq_true rfl) rfl (Nat.le_of_ble_eq_true rfl) (C_M_isGood hq) ?_
  show jG E _ 79 [(0, (2, ((24 : Nat) : Int)))] [(0, v7)] h6 _ _
  refine jT.if1 (st_M_read) rfl (tgt := 86) (by decide) (fun hc => ?_) (fun hc => ?_)
  · have hc : v7 = 0 := hc
    try rw [if_pos hc] at hv
    exact f_M_read_j86_ok E hv
  · have hc : ¬ (v7 = 0) := hc
    try rw [if_neg hc] at hv
    refine jG.blk (st_M_read) 1 (pc1 := 83) (L1 := [(0, (2, ((24 : Nat) : Int)))]) (st1 := [(0, 1)]) (h1 := h6) rfl ?_
    refine jT.goto (st_M_read) rfl (tgt := 87) (by decide) ?_
    exact f_M_read_j87_ok E hv
set_option maxRecDepth 100000 in
set_option maxHeartbeats 4000000 in
theorem f_M_read_j69_ok (E : jE) {h10 : jH} {s8 : Int} {s9 : Int} {res : Int × jH} (hv : f_M_read_j69 h10 s8 s9 = some res) : jG E M_M_read 69 [(0, (2, ((24 : Nat) : Int)))] [(0, s8), (0, s9)] h10 (some (0, res.1)) res.2 := by
  unfold f_M_read_j69 at hv
  refine jT.if2 (st_M_read) rfl (tgt := 86) (by decide) (fun hc => ?_) (fun hc => ?_)
  · have hc : ¬ (s9 = s8) := hc
    try rw [if_neg hc] at hv
    exact f_M_read_j86_ok E hv
  · have hc : s9 = s8 := Decidable.not_not.mp hc
    try rw [if_pos hc] at hv
    exact f_M_read_j72_ok E hv
set_option maxRecDepth 100000 in
set_option maxHeartbeats 4000000 in
theorem C_M_read {E : jE} {h : jH} {res : Int × jH} (hv : f_M_read h = some res) : jC E M_M_read [(2, ((24 : Nat) : Int))] h (some (0, res.1)) res.2 := by
  refine jC.of ok_M_read.1 (by rw [jlg]; exact Nat.le_of_ble_eq_true rfl) ?_
  show jG E _ 0 [(0, (2, ((24 : Nat) : Int)))] [] h _ _
  unfold f_M_read at hv
  refine jG.blk (st_M_read) 4 (pc1 := 6) (L1 := [(0, (2, ((24 : Nat) : Int)))]) (st1 := [(2, ((24 : Nat) : Int))]) (h1 := jup h 24 0 0) rfl ?_
  obtain ⟨v1, hq, hv⟩ := Option.bind_eq_some_iff.mp hv
  refine jT.cV (M1 := M_M_readAll) (2, ((24 : Nat) : Int)) [] [] (st_M_read) rfl rfl ok_M_readAll rfl (Or.inl ⟨rfl, _, _, _, rfl, rfl⟩) (Nat.le_of_ble_eq_true rfl) (Nat.le_of_ble_eq_true rfl) rfl (Nat.le_of_ble_eq_true rfl) (C_M_readAll hq) ?_
  show jG E _ 9 [(0, (2, ((24 : Nat) : Int)))] [(0, v1.1)] v1.2 _ _
  refine jG.blk (st_M_read) 5 (pc1 := 16) (L1 := [(1, (0, v1.1)), (0, (2, ((24 : Nat) : Int)))]) (st1 := [(0, v1.1)]) (h1 := jup v1.2 24 10 0) rfl ?_
  refine jT.if1 (st_M_read) rfl (tgt := 26) (by decide) (fun hc => ?_) (fun hc => ?_)
  · have hc : ¬ (v1.1 = 0) := hc
    try rw [if_neg hc] at hv
    refine jG.blk (st_M_read) 3 (pc1 := 33) (L1 := [(1, (0, v1.1)), (0, (2, ((24 : Nat) : Int)))]) (st1 := [(0, 303), (2, ((29 : Nat) : Int))]) (h1 := jup v1.2 24 10 0) rfl ?_
    obtain ⟨hg, hv⟩ := jgd_some hv
    refine jT.iald (a := 29) (st_M_read) rfl rfl (by decide) hg.1 hg.2 ?_
    refine jG.blk (st_M_read) 1 (pc1 := 37) (L1 := [(1, (0, v1.1)), (0, (2, ((24 : Nat) : Int)))]) (st1 := [(0, 150), (0, (jup v1.2 24 10 0) 29 303)]) (h1 := jup v1.2 24 10 0) rfl ?_
    refine jT.if2 (st_M_read) rfl (tgt := 86) (by decide) (fun hc => ?_) (fun hc => ?_)
    · have hc : 150 < (jup v1.2 24 10 0) 29 303 := hc
      try rw [if_pos hc] at hv
      refine jG.subp [1] (L1 := [(0, (2, ((24 : Nat) : Int)))]) rfl ?_
      exact f_M_read_j86_ok E hv
    · have hc : ¬ (150 < (jup v1.2 24 10 0) 29 303) := hc
      try rw [if_neg hc] at hv
      refine jG.blk (st_M_read) 2 (pc1 := 44) (L1 := [(1, (0, v1.1)), (0, (2, ((24 : Nat) : Int)))]) (st1 := [(0, (jup v1.2 24 10 0) 24 12)]) (h1 := jup v1.2 24 10 0) rfl ?_
      refine jT.if1 (st_M_read) rfl (tgt := 72) (by decide) (fun hc => ?_) (fun hc => ?_)
      · have hc : (jup v1.2 24 10 0) 24 12 = 0 := hc
        try rw [if_pos hc] at hv
        refine jG.subp [1] (L1 := [(0, (2, ((24 : Nat) : Int)))]) rfl ?_
        exact f_M_read_j72_ok E hv
      · have hc : ¬ ((jup v1.2 24 10 0) 24 12 = 0) := hc
        try rw [if_neg hc] at hv
        refine jG.blk (st_M_read) 5 (pc1 := 58) (L1 := [(1, (0, v1.1)), (0, (2, ((24 : Nat) : Int)))]) (st1 := [(0, 303), (2, ((26 : Nat) : Int)), (0, (jup v1.2 24 10 0) 24 12)]) (h1 := jup v1.2 24 10 0) rfl ?_
        obtain ⟨hg, hv⟩ := jgd_some hv
        refine jT.iald (a := 26) (st_M_read) rfl rfl (by decide) hg.1 hg.2 ?_
        refine jT.if1 (st_M_read) rfl (tgt := 67) (by decide) (fun hc => ?_) (fun hc => ?_)
        · have hc : ¬ ((jup v1.2 24 10 0) 26 303 = 0) := hc
          try rw [if_neg hc] at hv
          refine jG.blk (st_M_read) 1 (pc1 := 69) (L1 := [(1, (0, v1.1)), (0, (2, ((24 : Nat) : Int)))]) (st1 := [(0, 51), (0, (jup v1.2 24 10 0) 24 12)]) (h1 := jup v1.2 24 10 0) rfl ?_
          refine jG.subp [1] (L1 := [(0, (2, ((24 : Nat) : Int)))]) rfl ?_
          exact f_M_read_j69_ok E hv
        · have hc : (jup v1.2 24 10 0) 26 303 = 0 := Decidable.not_not.mp hc
          try rw [if_pos hc] at hv
          refine jG.blk (st_M_read) 1 (pc1 := 64) (L1 := [(1, (0, v1.1)), (0, (2, ((24 : Nat) : Int)))]) (st1 := [(0, 54), (0, (jup v1.2 24 10 0) 24 12)]) (h1 := jup v1.2 24 10 0) rfl ?_
          refine jT.goto (st_M_read) rfl (tgt := 69) (by decide) ?_
          refine jG.subp [1] (L1 := [(0, (2, ((24 : Nat) : Int)))]) rfl ?_
          exact f_M_read_j69_ok E hv
  · have hc : v1.1 = 0 := Decidable.not_not.mp hc
    try rw [if_pos hc] at hv
    refine jG.blk (st_M_read) 4 (pc1 := 25) (L1 := [(1, (0, v1.1)), (0, (2, ((24 : Nat) : Int)))]) (st1 := [(0, jadd ((jup v1.2 24 10 0) 24 11) 1)]) (h1 := jup v1.2 24 10 0) rfl ?_
    cases hv
    exact jT.iret (st_M_read) rfl trivial
def f_M_say (h : jH) (a1 : Int) : Option (jH) := jgd (0 ≤ h 24 14 ∧ h 24 14 < 100) (some (jup (jup h 32 (h 24 14).toNat a1) 24 14 (jadd ((jup h 32 (h 24 14).toNat a1) 24 14) 1)))
set_option maxRecDepth 100000 in
set_option maxHeartbeats 4000000 in
theorem C_M_say {E : jE} {h : jH} {a1 : Int} {res : jH} (hv : f_M_say h a1 = some res) : jC E M_M_say [(2, ((24 : Nat) : Int)), (0, a1)] h none res := by
  refine jC.of ok_M_say.1 (by rw [jlg]; exact Nat.le_of_ble_eq_true rfl) ?_
  show jG E _ 0 [(0, (2, ((24 : Nat) : Int))), (1, (0, a1))] [] h _ _
  unfold f_M_say at hv
  refine jG.blk (st_M_say) 5 (pc1 := 9) (L1 := [(0, (2, ((24 : Nat) : Int))), (1, (0, a1))]) (st1 := [(0, a1), (0, h 24 14), (2, ((32 : Nat) : Int))]) (h1 := h) rfl ?_
  obtain ⟨hg, hv⟩ := jgd_some hv
  refine jT.iast (a := 32) (st_M_say) rfl rfl (by decide) hg.1 hg.2 ?_
  refine jG.blk (st_M_say) 6 (pc1 := 20) (L1 := [(0, (2, ((24 : Nat) : Int))), (1, (0, a1))]) (st1 := []) (h1 := jup (jup h 32 (h 24 14).toNat a1) 24 14 (jadd ((jup h 32 (h 24 14).toNat a1) 24 14) 1)) rfl ?_
  cases hv
  exact jT.vret (st_M_say) rfl trivial
def f_M_print_j148_23 (rc : Int → Int → jH → Option (Int × jH)) (k : Int → Int → jH → Option (Int × jH)) (h3 : jH) (h34 : jH) (l31 : Int) (l32 : Int) (s33 : Int) : Option (Int × jH) := (f_M_say h34 s33).bind fun v35 => rc l31 (jadd l32 1) v35
def f_M_print_j125_23 (rc : Int → Int → jH → Option (Int × jH)) (k : Int → Int → jH → Option (Int × jH)) (h3 : jH) (h30 : jH) (l28 : Int) (l29 : Int) : Option (Int × jH) := if jrem l29 8 = 7 then f_M_print_j148_23 rc k h3 h30 l28 l29 (if 63 ≤ l29 then 32 else 47) else rc l28 (jadd l29 1) h30
def f_M_print_j112_23 (rc : Int → Int → jH → Option (Int × jH)) (k : Int → Int → jH → Option (Int × jH)) (h3 : jH) (h27 : jH) (l24 : Int) (l25 : Int) (s26 : Int) : Option (Int × jH) := if l25 ≤ 0 then f_M_print_j125_23 rc k h3 h27 s26 l24 else (f_M_letterOf h27 l25).bind fun v36 => (f_M_say h27 v36).bind fun v37 => f_M_print_j125_23 rc k h3 v37 s26 l24
def f_M_print_j102_23 (rc : Int → Int → jH → Option (Int × jH)) (k : Int → Int → jH → Option (Int × jH)) (h3 : jH) (h23 : jH) (l19 : Int) (l20 : Int) (l21 : Int) (l22 : Int) : Option (Int × jH) := f_M_print_j112_23 rc k h3 h23 l20 l21 (if l22 = 0 then l19 else 0)
def f_M_print_j84_23 (rc : Int → Int → jH → Option (Int × jH)) (k : Int → Int → jH → Option (Int × jH)) (h3 : jH) (h18 : jH) (l14 : Int) (l15 : Int) (l16 : Int) (s17 : Int) : Option (Int × jH) := if l16 = 0 then f_M_print_j102_23 rc k h3 h18 s17 l14 l15 l16 else if s17 ≤ 0 then f_M_print_j102_23 rc k h3 h18 s17 l14 l15 l16 else (f_M_say h18 (jadd 48 s17)).bind fun v38 => f_M_print_j102_23 rc k h3 v38 s17 l14 l15 l16
def f_M_print_j71_23 (rc : Int → Int → jH → Option (Int × jH)) (k : Int → Int → jH → Option (Int × jH)) (h3 : jH) (h13 : jH) (l9 : Int) (l10 : Int) (l11 : Int) (s12 : Int) : Option (Int × jH) := f_M_print_j84_23 rc k h3 h13 l10 l11 s12 (if l11 ≤ 0 then jadd l9 1 else l9)
def f_M_print_j66_23 (rc : Int → Int → jH → Option (Int × jH)) (k : Int → Int → jH → Option (Int × jH)) (h3 : jH) (h8 : jH) (l5 : Int) (l6 : Int) (l7 : Int) : Option (Int × jH) := f_M_print_j71_23 rc k h3 h8 l5 l6 l7 1
def f_M_print_lp23 (k : Int → Int → jH → Option (Int × jH)) : Nat → Int → Int → jH → Option (Int × jH)
  | 0, _, _, _ => none
  | n + 1, l1, l2, h3 => if 64 ≤ l2 then k l1 l2 h3 else (f_M_piece h3 (h3 24 7) (jadd (jmul 8 (jsub 7 (jdiv l2 8))) (jrem l2 8))).bind fun v4 => if 0 < v4 then f_M_print_j66_23 (f_M_print_lp23 k n) k h3 h3 l1 l2 v4 else if jrem l2 8 = 7 then f_M_print_j66_23 (f_M_print_lp23 k n) k h3 h3 l1 l2 v4 else f_M_print_j71_23 (f_M_print_lp23 k n) k h3 h3 l1 l2 v4 0
def f_M_print_j242_188 (rc : Int → jH → Option (Int × jH)) (k : Int → jH → Option (Int × jH)) (h47 : jH) (h50 : jH) (l48 : Int) (s49 : Int) : Option (Int × jH) := (f_M_say h50 s49).bind fun v51 => rc (jadd l48 1) v51
def f_M_print_lp188 (k : Int → jH → Option (Int × jH)) : Nat → Int → jH → Option (Int × jH)
  | 0, _, _ => none
  | n + 1, l46, h47 => if 4 ≤ l46 then k l46 h47 else jgd (0 ≤ h47 24 7 ∧ h47 24 7 < 304) (if jand (jshr (h47 27 (h47 24 7).toNat) l46) 1 = 1 then f_M_print_j242_188 (f_M_print_lp188 k n) k h47 h47 l46 (if l46 = 0 then 75 else if l46 = 1 then 81 else if l46 = 2 then 107 else 113) else f_M_print_lp188 k n (jadd l46 1) h47)
def f_M_print_j388 (h65 : jH) (l64 : Int) : Option (Int × jH) := (f_M_say h65 (jadd 48 (jrem l64 10))).bind fun v66 => some (v66 24 14, v66)
def f_M_print_j368 (h63 : jH) (l62 : Int) : Option (Int × jH) := if l62 ≤ 9 then f_M_print_j388 h63 l62 else (f_M_say h63 (jadd 48 (jrem (jdiv l62 10) 10))).bind fun v67 => f_M_print_j388 v67 l62
def f_M_print_j335 (h60 : jH) : Option (Int × jH) := (f_M_say h60 32).bind fun v61 => jgd (0 ≤ v61 24 7 ∧ v61 24 7 < 304) (if v61 29 (v61 24 7).toNat ≤ 99 then f_M_print_j368 v61 (v61 29 (v61 24 7).toNat) else (f_M_say v61 (jadd 48 (jdiv (v61 29 (v61 24 7).toNat) 100))).bind fun v68 => f_M_print_j368 v68 (v61 29 (v61 24 7).toNat))
def f_M_print_j332 (h58 : jH) (s57 : Int) : Option (Int × jH) := (f_M_say h58 s57).bind fun v59 => f_M_print_j335 v59
def f_M_print_j269 (h54 : jH) : Option (Int × jH) := (f_M_say h54 32).bind fun v55 => jgd (0 ≤ v55 24 7 ∧ v55 24 7 < 304) (if 0 ≤ v55 28 (v55 24 7).toNat then jgd (0 ≤ v55 24 7 ∧ v55 24 7 < 304) ((f_M_say v55 (jadd 97 (v55 28 (v55 24 7).toNat))).bind fun v56 => jgd (0 ≤ v56 24 7 ∧ v56 24 7 < 304) (f_M_print_j332 v56 (if v56 26 (v56 24 7).toNat = 0 then 54 else 51))) else (f_M_say v55 45).bind fun v69 => f_M_print_j335 v69)
def f_M_print_j177 (h43 : jH) (s42 : Int) : Option (Int × jH) := (f_M_say h43 s42).bind fun v44 => (f_M_say v44 32).bind fun v45 => f_M_print_lp188 (fun l52 h53 => jgd (0 ≤ h53 24 7 ∧ h53 24 7 < 304) (if h53 27 (h53 24 7).toNat = 0 then (f_M_say h53 45).bind fun v70 => f_M_print_j269 v70 else f_M_print_j269 h53)) 1000 0 v45
def f_M_print (h : jH) : Option (Int × jH) := if (jup h 24 0 0) 24 8 = 0 then some ((-1), jup h 24 0 0) else f_M_print_lp23 (fun l39 l40 h41 => jgd (0 ≤ h41 24 7 ∧ h41 24 7 < 304) (f_M_print_j177 h41 (if h41 26 (h41 24 7).toNat = 0 then 119 else 98))) 1000 0 0 (jup (jup h 24 0 0) 24 14 0)
set_option maxRecDepth 100000 in
set_option maxHeartbeats 4000000 in
theorem f_M_print_j148_23_ok (E : jE) {rc : Int → Int → jH → Option (Int × jH)} {k : Int → Int → jH → Option (Int × jH)} {h3 : jH} {h34 : jH} (hrc : ∀ (l1 : Int) (l2 : Int) (h3 : jH) (res : Int × jH), rc l1 l2 h3 = some res → jG E M_M_print 23 [(0, (2, ((24 : Nat) : Int))), (1, (0, l1)), (2, (0, l2))] [] h3 (some (0, res.1)) res.2) (hk : ∀ (l1 : Int) (l2 : Int) (h3 : jH) (res : Int × jH), k l1 l2 h3 = some res → jG E M_M_print 157 [(0, (2, ((24 : Nat) : Int)))] [] h3 (some (0, res.1)) res.2) {l31 : Int} {l32 : Int} {s33 : Int} {res : Int × jH} (hv : f_M_print_j148_23 rc k h3 h34 l31 l32 s33 = some res) : jG E M_M_print 148 [(0, (2, ((24 : Nat) : Int))), (1, (0, l31)), (2, (0, l32))] [(0, s33), (2, ((24 : Nat) : Int))] h34 (some (0, res.1)) res.2 := by
  unfold f_M_print_j148_23 at hv
  obtain ⟨v35, hq, hv⟩ := Option.bind_eq_some_iff.mp hv
  refine jT.cV (M1 := M_M_say) (2, ((24 : Nat) : Int)) [(0, s33)] [] (st_M_print) rfl rfl ok_M_say rfl (Or.inl ⟨rfl, _, _, _, rfl, rfl⟩) (Nat.le_of_ble_eq_true rfl) (Nat.le_of_ble_eq_true rfl) rfl (Nat.le_of_ble_eq_true rfl) (C_M_say hq) ?_
  show jG E _ 151 [(0, (2, ((24 : Nat) : Int))), (1, (0, l31)), (2, (0, l32))] [] v35 _ _
  refine jG.blk (st_M_print) 1 (pc1 := 154) (L1 := [(2, (0, jadd l32 1)), (0, (2, ((24 : Nat) : Int))), (1, (0, l31))]) (st1 := []) (h1 := v35) rfl ?_
  refine jT.goto (st_M_print) rfl (tgt := 23) (by decide) ?_
  refine jG.subp [1, 2, 0] (L1 := [(0, (2, ((24 : Nat) : Int))), (1, (0, l31)), (2, (0, jadd l32 1))]) rfl ?_
  exact hrc _ _ _ _ hv
set_option maxRecDepth 100000 in
set_option maxHeartbeats 4000000 in
theorem f_M_print_j125_23_ok (E : jE) {rc : Int → Int → jH → Option (Int × jH)} {k : Int → Int → jH → Option (Int × jH)} {h3 : jH} {h30 : jH} (hrc : ∀ (l1 : Int) (l2 : Int) (h3 : jH) (res : Int × jH), rc l1 l2 h3 = some res → jG E M_M_print 23 [(0, (2, ((24 : Nat) : Int))), (1, (0, l1)), (2, (0, l2))] [] h3 (some (0, res.1)) res.2) (hk : ∀ (l1 : Int) (l2 : Int) (h3 : jH) (res : Int × jH), k l1 l2 h3 = some res → jG E M_M_print 157 [(0, (2, ((24 : Nat) : Int)))] [] h3 (some (0, res.1)) res.2) {l28 : Int} {l29 : Int} {res : Int × jH} (hv : f_M_print_j125_23 rc k h3 h30 l28 l29 = some res) : jG E M_M_print 125 [(0, (2, ((24 : Nat) : Int))), (1, (0, l28)), (2, (0, l29))] [] h30 (some (0, res.1)) res.2 := by
  unfold f_M_print_j125_23 at hv
  refine jG.blk (st_M_print) 4 (pc1 := 131) (L1 := [(0, (2, ((24 : Nat) : Int))), (1, (0, l28)), (2, (0, l29))]) (st1 := [(0, 7), (0, jrem l29 8)]) (h1 := h30) rfl ?_
  refine jT.if2 (st_M_print) rfl (tgt := 151) (by decide) (fun hc => ?_) (fun hc => ?_)
  · have hc : ¬ (jrem l29 8 = 7) := hc
    try rw [if_neg hc] at hv
    refine jG.blk (st_M_print) 1 (pc1 := 154) (L1 := [(2, (0, jadd l29 1)), (0, (2, ((24 : Nat) : Int))), (1, (0, l28))]) (st1 := []) (h1 := h30) rfl ?_
    refine jT.goto (st_M_print) rfl (tgt := 23) (by decide) ?_
    refine jG.subp [1, 2, 0] (L1 := [(0, (2, ((24 : Nat) : Int))), (1, (0, l28)), (2, (0, jadd l29 1))]) rfl ?_
    exact hrc _ _ _ _ hv
  · have hc : jrem l29 8 = 7 := Decidable.not_not.mp hc
    try rw [if_pos hc] at hv
    refine jG.blk (st_M_print) 3 (pc1 := 138) (L1 := [(0, (2, ((24 : Nat) : Int))), (1, (0, l28)), (2, (0, l29))]) (st1 := [(0, 63), (0, l29), (2, ((24 : Nat) : Int))]) (h1 := h30) rfl ?_
    refine jT.if2 (st_M_print) rfl (tgt := 146) (by decide) (fun hc => ?_) (fun hc => ?_)
    · have hc : 63 ≤ l29 := hc
      try rw [if_pos hc] at hv
      refine jG.blk (st_M_print) 1 (pc1 := 148) (L1 := [(0, (2, ((24 : Nat) : Int))), (1, (0, l28)), (2, (0, l29))]) (st1 := [(0, 32), (2, ((24 : Nat) : Int))]) (h1 := h30) rfl ?_
      exact f_M_print_j148_23_ok E hrc hk hv
    · have hc : ¬ (63 ≤ l29) := hc
      try rw [if_neg hc] at hv
      refine jG.blk (st_M_print) 1 (pc1 := 143) (L1 := [(0, (2, ((24 : Nat) : Int))), (1, (0, l28)), (2, (0, l29))]) (st1 := [(0, 47), (2, ((24 : Nat) : Int))]) (h1 := h30) rfl ?_
      refine jT.goto (st_M_print) rfl (tgt := 148) (by decide) ?_
      exact f_M_print_j148_23_ok E hrc hk hv
set_option maxRecDepth 100000 in
set_option maxHeartbeats 4000000 in
theorem f_M_print_j112_23_ok (E : jE) {rc : Int → Int → jH → Option (Int × jH)} {k : Int → Int → jH → Option (Int × jH)} {h3 : jH} {h27 : jH} (hrc : ∀ (l1 : Int) (l2 : Int) (h3 : jH) (res : Int × jH), rc l1 l2 h3 = some res → jG E M_M_print 23 [(0, (2, ((24 : Nat) : Int))), (1, (0, l1)), (2, (0, l2))] [] h3 (some (0, res.1)) res.2) (hk : ∀ (l1 : Int) (l2 : Int) (h3 : jH) (res : Int × jH), k l1 l2 h3 = some res → jG E M_M_print 157 [(0, (2, ((24 : Nat) : Int)))] [] h3 (some (0, res.1)) res.2) {l24 : Int} {l25 : Int} {s26 : Int} {res : Int × jH} (hv : f_M_print_j112_23 rc k h3 h27 l24 l25 s26 = some res) : jG E M_M_print 112 [(0, (2, ((24 : Nat) : Int))), (2, (0, l24)), (3, (0, l25))] [(0, s26)] h27 (some (0, res.1)) res.2 := by
  unfold f_M_print_j112_23 at hv
  refine jG.blk (st_M_print) 2 (pc1 := 114) (L1 := [(1, (0, s26)), (0, (2, ((24 : Nat) : Int))), (2, (0, l24)), (3, (0, l25))]) (st1 := [(0, l25)]) (h1 := h27) rfl ?_
  refine jT.if1 (st_M_print) rfl (tgt := 125) (by decide) (fun hc => ?_) (fun hc => ?_)
  · have hc : l25 ≤ 0 := hc
    try rw [if_pos hc] at hv
    refine jG.subp [1, 0, 2] (L1 := [(0, (2, ((24 : Nat) : Int))), (1, (0, s26)), (2, (0, l24))]) rfl ?_
    exact f_M_print_j125_23_ok E hrc hk hv
  · have hc : ¬ (l25 ≤ 0) := hc
    try rw [if_neg hc] at hv
    refine jG.blk (st_M_print) 2 (pc1 := 119) (L1 := [(1, (0, s26)), (0, (2, ((24 : Nat) : Int))), (2, (0, l24)), (3, (0, l25))]) (st1 := [(0, l25), (2, ((24 : Nat) : Int))]) (h1 := h27) rfl ?_
    obtain ⟨v36, hq, hv⟩ := Option.bind_eq_some_iff.mp hv
    refine jT.cS (M1 := M_M_letterOf) [(0, l25)] [(2, ((24 : Nat) : Int))] (st_M_print) rfl rfl ok_M_letterOf rfl (Nat.le_of_ble_eq_true rfl) (Nat.le_of_ble_eq_true rfl) rfl (Nat.le_of_ble_eq_true rfl) (C_M_letterOf hq) ?_
    show jG E _ 122 [(1, (0, s26)), (0, (2, ((24 : Nat) : Int))), (2, (0, l24)), (3, (0, l25))] [(0, v36), (2, ((24 : Nat) : Int))] h27 _ _
    obtain ⟨v37, hq, hv⟩ := Option.bind_eq_some_iff.mp hv
    refine jT.cV (M1 := M_M_say) (2, ((24 : Nat) : Int)) [(0, v36)] [] (st_M_print) rfl rfl ok_M_say rfl (Or.inl ⟨rfl, _, _, _, rfl, rfl⟩) (Nat.le_of_ble_eq_true rfl) (Nat.le_of_ble_eq_true rfl) rfl (Nat.le_of_ble_eq_true rfl) (C_M_say hq) ?_
    show jG E _ 125 [(1, (0, s26)), (0, (2, ((24 : Nat) : Int))), (2, (0, l24)), (3, (0, l25))] [] v37 _ _
    refine jG.subp [1, 0, 2] (L1 := [(0, (2, ((24 : Nat) : Int))), (1, (0, s26)), (2, (0, l24))]) rfl ?_
    exact f_M_print_j125_23_ok E hrc hk hv
set_option maxRecDepth 100000 in
set_option maxHeartbeats 4000000 in
theorem f_M_print_j102_23_ok (E : jE) {rc : Int → Int → jH → Option (Int × jH)} {k : Int → Int → jH → Option (Int × jH)} {h3 : jH} {h23 : jH} (hrc : ∀ (l1 : Int) (l2 : Int) (h3 : jH) (res : Int × jH), rc l1 l2 h3 = some res → jG E M_M_print 23 [(0, (2, ((24 : Nat) : Int))), (1, (0, l1)), (2, (0, l2))] [] h3 (some (0, res.1)) res.2) (hk : ∀ (l1 : Int) (l2 : Int) (h3 : jH) (res : Int × jH), k l1 l2 h3 = some res → jG E M_M_print 157 [(0, (2, ((24 : Nat) : Int)))] [] h3 (some (0, res.1)) res.2) {l19 : Int} {l20 : Int} {l21 : Int} {l22 : Int} {res : Int × jH} (hv : f_M_print_j102_23 rc k h3 h23 l19 l20 l21 l22 = some res) : jG E M_M_print 102 [(0, (2, ((24 : Nat) : Int))), (1, (0, l19)), (2, (0, l20)), (3, (0, l21)), (4, (0, l22))] [] h23 (some (0, res.1)) res.2 := by
  unfold f_M_print_j102_23 at hv
  refine jG.blk (st_M_print) 1 (pc1 := 104) (L1 := [(0, (2, ((24 : Nat) : Int))), (1, (0, l19)), (2, (0, l20)), (3, (0, l21)), (4, (0, l22))]) (st1 := [(0, l22)]) (h1 := h23) rfl ?_
  refine jT.if1 (st_M_print) rfl (tgt := 111) (by decide) (fun hc => ?_) (fun hc => ?_)
  · have hc : l22 = 0 := hc
    try rw [if_pos hc] at hv
    refine jG.blk (st_M_print) 1 (pc1 := 112) (L1 := [(0, (2, ((24 : Nat) : Int))), (1, (0, l19)), (2, (0, l20)), (3, (0, l21)), (4, (0, l22))]) (st1 := [(0, l19)]) (h1 := h23) rfl ?_
    refine jG.subp [0, 2, 3] (L1 := [(0, (2, ((24 : Nat) : Int))), (2, (0, l20)), (3, (0, l21))]) rfl ?_
    exact f_M_print_j112_23_ok E hrc hk hv
  · have hc : ¬ (l22 = 0) := hc
    try rw [if_neg hc] at hv
    refine jG.blk (st_M_print) 1 (pc1 := 108) (L1 := [(0, (2, ((24 : Nat) : Int))), (1, (0, l19)), (2, (0, l20)), (3, (0, l21)), (4, (0, l22))]) (st1 := [(0, 0)]) (h1 := h23) rfl ?_
    refine jT.goto (st_M_print) rfl (tgt := 112) (by decide) ?_
    refine jG.subp [0, 2, 3] (L1 := [(0, (2, ((24 : Nat) : Int))), (2, (0, l20)), (3, (0, l21))]) rfl ?_
    exact f_M_print_j112_23_ok E hrc hk hv
set_option maxRecDepth 100000 in
set_option maxHeartbeats 4000000 in
theorem f_M_print_j84_23_ok (E : jE) {rc : Int → Int → jH → Option (Int × jH)} {k : Int → Int → jH → Option (Int × jH)} {h3 : jH} {h18 : jH} (hrc : ∀ (l1 : Int) (l2 : Int) (h3 : jH) (res : Int × jH), rc l1 l2 h3 = some res → jG E M_M_print 23 [(0, (2, ((24 : Nat) : Int))), (1, (0, l1)), (2, (0, l2))] [] h3 (some (0, res.1)) res.2) (hk : ∀ (l1 : Int) (l2 : Int) (h3 : jH) (res : Int × jH), k l1 l2 h3 = some res → jG E M_M_print 157 [(0, (2, ((24 : Nat) : Int)))] [] h3 (some (0, res.1)) res.2) {l14 : Int} {l15 : Int} {l16 : Int} {s17 : Int} {res : Int × jH} (hv : f_M_print_j84_23 rc k h3 h18 l14 l15 l16 s17 = some res) : jG E M_M_print 84 [(0, (2, ((24 : Nat) : Int))), (2, (0, l14)), (3, (0, l15)), (4, (0, l16))] [(0, s17)] h18 (some (0, res.1)) res.2 := by
  unfold f_M_print_j84_23 at hv
  refine jG.blk (st_M_print) 2 (pc1 := 87) (L1 := [(1, (0, s17)), (0, (2, ((24 : Nat) : Int))), (2, (0, l14)), (3, (0, l15)), (4, (0, l16))]) (st1 := [(0, l16)]) (h1 := h18) rfl ?_
  refine jT.if1 (st_M_print) rfl (tgt := 102) (by decide) (fun hc => ?_) (fun hc => ?_)
  · have hc : l16 = 0 := hc
    try rw [if_pos hc] at hv
    refine jG.subp [1, 0, 2, 3, 4] (L1 := [(0, (2, ((24 : Nat) : Int))), (1, (0, s17)), (2, (0, l14)), (3, (0, l15)), (4, (0, l16))]) rfl ?_
    exact f_M_print_j102_23_ok E hrc hk hv
  · have hc : ¬ (l16 = 0) := hc
    try rw [if_neg hc] at hv
    refine jG.blk (st_M_print) 1 (pc1 := 91) (L1 := [(1, (0, s17)), (0, (2, ((24 : Nat) : Int))), (2, (0, l14)), (3, (0, l15)), (4, (0, l16))]) (st1 := [(0, s17)]) (h1 := h18) rfl ?_
    refine jT.if1 (st_M_print) rfl (tgt := 102) (by decide) (fun hc => ?_) (fun hc => ?_)
    · have hc : s17 ≤ 0 := hc
      try rw [if_pos hc] at hv
      refine jG.subp [1, 0, 2, 3, 4] (L1 := [(0, (2, ((24 : Nat) : Int))), (1, (0, s17)), (2, (0, l14)), (3, (0, l15)), (4, (0, l16))]) rfl ?_
      exact f_M_print_j102_23_ok E hrc hk hv
    · have hc : ¬ (s17 ≤ 0) := hc
      try rw [if_neg hc] at hv
      refine jG.blk (st_M_print) 4 (pc1 := 99) (L1 := [(1, (0, s17)), (0, (2, ((24 : Nat) : Int))), (2, (0, l14)), (3, (0, l15)), (4, (0, l16))]) (st1 := [(0, jadd 48 s17), (2, ((24 : Nat) : Int))]) (h1 := h18) rfl ?_
      obtain ⟨v38, hq, hv⟩ := Option.bind_eq_some_iff.mp hv
      refine jT.cV (M1 := M_M_say) (2, ((24 : Nat) : Int)) [(0, jadd 48 s17)] [] (st_M_print) rfl rfl ok_M_say rfl (Or.inl ⟨rfl, _, _, _, rfl, rfl⟩) (Nat.le_of_ble_eq_true rfl) (Nat.le_of_ble_eq_true rfl) rfl (Nat.le_of_ble_eq_true rfl) (C_M_say hq) ?_
      show jG E _ 102 [(1, (0, s17)), (0, (2, ((24 : Nat) : Int))), (2, (0, l14)), (3, (0, l15)), (4, (0, l16))] [] v38 _ _
      refine jG.subp [1, 0, 2, 3, 4] (L1 := [(0, (2, ((24 : Nat) : Int))), (1, (0, s17)), (2, (0, l14)), (3, (0, l15)), (4, (0, l16))]) rfl ?_
      exact f_M_print_j102_23_ok E hrc hk hv
set_option maxRecDepth 100000 in
set_option maxHeartbeats 4000000 in
theorem f_M_print_j71_23_ok (E : jE) {rc : Int → Int → jH → Option (Int × jH)} {k : Int → Int → jH → Option (Int × jH)} {h3 : jH} {h13 : jH} (hrc : ∀ (l1 : Int) (l2 : Int) (h3 : jH) (res : Int × jH), rc l1 l2 h3 = some res → jG E M_M_print 23 [(0, (2, ((24 : Nat) : Int))), (1, (0, l1)), (2, (0, l2))] [] h3 (some (0, res.1)) res.2) (hk : ∀ (l1 : Int) (l2 : Int) (h3 : jH) (res : Int × jH), k l1 l2 h3 = some res → jG E M_M_print 157 [(0, (2, ((24 : Nat) : Int)))] [] h3 (some (0, res.1)) res.2) {l9 : Int} {l10 : Int} {l11 : Int} {s12 : Int} {res : Int × jH} (hv : f_M_print_j71_23 rc k h3 h13 l9 l10 l11 s12 = some res) : jG E M_M_print 71 [(0, (2, ((24 : Nat) : Int))), (1, (0, l9)), (2, (0, l10)), (3, (0, l11))] [(0, s12)] h13 (some (0, res.1)) res.2 := by
  unfold f_M_print_j71_23 at hv
  refine jG.blk (st_M_print) 2 (pc1 := 74) (L1 := [(4, (0, s12)), (0, (2, ((24 : Nat) : Int))), (1, (0, l9)), (2, (0, l10)), (3, (0, l11))]) (st1 := [(0, l11)]) (h1 := h13) rfl ?_
  refine jT.if1 (st_M_print) rfl (tgt := 81) (by decide) (fun hc => ?_) (fun hc => ?_)
  · have hc : l11 ≤ 0 := hc
    try rw [if_pos hc] at hv
    refine jG.blk (st_M_print) 3 (pc1 := 84) (L1 := [(4, (0, s12)), (0, (2, ((24 : Nat) : Int))), (1, (0, l9)), (2, (0, l10)), (3, (0, l11))]) (st1 := [(0, jadd l9 1)]) (h1 := h13) rfl ?_
    refine jG.subp [1, 3, 4, 0] (L1 := [(0, (2, ((24 : Nat) : Int))), (2, (0, l10)), (3, (0, l11)), (4, (0, s12))]) rfl ?_
    exact f_M_print_j84_23_ok E hrc hk hv
  · have hc : ¬ (l11 ≤ 0) := hc
    try rw [if_neg hc] at hv
    refine jG.blk (st_M_print) 1 (pc1 := 78) (L1 := [(4, (0, s12)), (0, (2, ((24 : Nat) : Int))), (1, (0, l9)), (2, (0, l10)), (3, (0, l11))]) (st1 := [(0, l9)]) (h1 := h13) rfl ?_
    refine jT.goto (st_M_print) rfl (tgt := 84) (by decide) ?_
    refine jG.subp [1, 3, 4, 0] (L1 := [(0, (2, ((24 : Nat) : Int))), (2, (0, l10)), (3, (0, l11)), (4, (0, s12))]) rfl ?_
    exact f_M_print_j84_23_ok E hrc hk hv
set_option maxRecDepth 100000 in
set_option maxHeartbeats 4000000 in
theorem f_M_print_j66_23_ok (E : jE) {rc : Int → Int → jH → Option (Int × jH)} {k : Int → Int → jH → Option (Int × jH)} {h3 : jH} {h8 : jH} (hrc : ∀ (l1 : Int) (l2 : Int) (h3 : jH) (res : Int × jH), rc l1 l2 h3 = some res → jG E M_M_print 23 [(0, (2, ((24 : Nat) : Int))), (1, (0, l1)), (2, (0, l2))] [] h3 (some (0, res.1)) res.2) (hk : ∀ (l1 : Int) (l2 : Int) (h3 : jH) (res : Int × jH), k l1 l2 h3 = some res → jG E M_M_print 157 [(0, (2, ((24 : Nat) : Int)))] [] h3 (some (0, res.1)) res.2) {l5 : Int} {l6 : Int} {l7 : Int} {res : Int × jH} (hv : f_M_print_j66_23 rc k h3 h8 l5 l6 l7 = some res) : jG E M_M_print 66 [(0, (2, ((24 : Nat) : Int))), (1, (0, l5)), (2, (0, l6)), (3, (0, l7))] [] h8 (some (0, res.1)) res.2 := by
  unfold f_M_print_j66_23 at hv
  refine jG.blk (st_M_print) 1 (pc1 := 67) (L1 := [(0, (2, ((24 : Nat) : Int))), (1, (0, l5)), (2, (0, l6)), (3, (0, l7))]) (st1 := [(0, 1)]) (h1 := h8) rfl ?_
  refine jT.goto (st_M_print) rfl (tgt := 71) (by decide) ?_
  exact f_M_print_j71_23_ok E hrc hk hv
set_option maxRecDepth 100000 in
set_option maxHeartbeats 4000000 in
theorem f_M_print_lp23_ok (E : jE) {k : Int → Int → jH → Option (Int × jH)} (hk : ∀ (l1 : Int) (l2 : Int) (h3 : jH) (res : Int × jH), k l1 l2 h3 = some res → jG E M_M_print 157 [(0, (2, ((24 : Nat) : Int)))] [] h3 (some (0, res.1)) res.2) : ∀ (n : Nat) (l1 : Int) (l2 : Int) (h3 : jH) (res : Int × jH), f_M_print_lp23 k n l1 l2 h3 = some res → jG E M_M_print 23 [(0, (2, ((24 : Nat) : Int))), (1, (0, l1)), (2, (0, l2))] [] h3 (some (0, res.1)) res.2 := by
  intro n
  induction n with
  | zero => intro l1 l2 h3 res hv; cases hv
  | succ n ih =>
    intro l1 l2 h3 res hv
    rw [f_M_print_lp23] at hv
    refine jG.blk (st_M_print) 2 (pc1 := 26) (L1 := [(0, (2, ((24 : Nat) : Int))), (1, (0, l1)), (2, (0, l2))]) (st1 := [(0, 64), (0, l2)]) (h1 := h3) rfl ?_
    refine jT.if2 (st_M_print) rfl (tgt := 157) (by decide) (fun hc => ?_) (fun hc => ?_)
    · have hc : 64 ≤ l2 := hc
      try rw [if_pos hc] at hv
      refine jG.subp [0] (L1 := [(0, (2, ((24 : Nat) : Int)))]) rfl ?_
      exact hk _ _ _ _ hv
    · have hc : ¬ (64 ≤ l2) := hc
      try rw [if_neg hc] at hv
      refine jG.blk (st_M_print) 14 (pc1 := 49) (L1 := [(0, (2, ((24 : Nat) : Int))), (1, (0, l1)), (2, (0, l2))]) (st1 := [(0, jadd (jmul 8 (jsub 7 (jdiv l2 8))) (jrem l2 8)), (0, h3 24 7), (2, ((24 : Nat) : Int))]) (h1 := h3) rfl ?_
      obtain ⟨v4, hq, hv⟩ := Option.bind_eq_some_iff.mp hv
      refine jT.cV (M1 := M_M_piece) (2, ((24 : Nat) : Int)) [(0, h3 24 7), (0, jadd (jmul 8 (jsub 7 (jdiv l2 8))) (jrem l2 8))] [] (st_M_print) rfl rfl ok_M_piece rfl (Or.inl ⟨rfl, _, _, _, rfl, rfl⟩) (Nat.le_of_ble_eq_true rfl) (Nat.le_of_ble_eq_true rfl) rfl (Nat.le_of_ble_eq_true rfl) (C_M_piece hq) ?_
      show jG E _ 52 [(0, (2, ((24 : Nat) : Int))), (1, (0, l1)), (2, (0, l2))] [(0, v4)] h3 _ _
      refine jG.blk (st_M_print) 2 (pc1 := 54) (L1 := [(3, (0, v4)), (0, (2, ((24 : Nat) : Int))), (1, (0, l1)), (2, (0, l2))]) (st1 := [(0, v4)]) (h1 := h3) rfl ?_
      refine jT.if1 (st_M_print) rfl (tgt := 66) (by decide) (fun hc => ?_) (fun hc => ?_)
      · have hc : 0 < v4 := hc
        try rw [if_pos hc] at hv
        refine jG.subp [1, 2, 3, 0] (L1 := [(0, (2, ((24 : Nat) : Int))), (1, (0, l1)), (2, (0, l2)), (3, (0, v4))]) rfl ?_
        exact f_M_print_j66_23_ok E ih hk hv
      · have hc : ¬ (0 < v4) := hc
        try rw [if_neg hc] at hv
        refine jG.blk (st_M_print) 4 (pc1 := 63) (L1 := [(3, (0, v4)), (0, (2, ((24 : Nat) : Int))), (1, (0, l1)), (2, (0, l2))]) (st1 := [(0, 7), (0, jrem l2 8)]) (h1 := h3) rfl ?_
        refine jT.if2 (st_M_print) rfl (tgt := 70) (by decide) (fun hc => ?_) (fun hc => ?_)
        · have hc : ¬ (jrem l2 8 = 7) := hc
          try rw [if_neg hc] at hv
          refine jG.blk (st_M_print) 1 (pc1 := 71) (L1 := [(3, (0, v4)), (0, (2, ((24 : Nat) : Int))), (1, (0, l1)), (2, (0, l2))]) (st1 := [(0, 0)]) (h1 := h3) rfl ?_
          refine jG.subp [1, 2, 3, 0] (L1 := [(0, (2, ((24 : Nat) : Int))), (1, (0, l1)), (2, (0, l2)), (3, (0, v4))]) rfl ?_
          exact f_M_print_j71_23_ok E ih hk hv
        · have hc : jrem l2 8 = 7 := Decidable.not_not.mp hc
          try rw [if_pos hc] at hv
          refine jG.subp [1, 2, 3, 0] (L1 := [(0, (2, ((24 : Nat) : Int))), (1, (0, l1)), (2, (0, l2)), (3, (0, v4))]) rfl ?_
          exact f_M_print_j66_23_ok E ih hk hv
set_option maxRecDepth 100000 in
set_option maxHeartbeats 4000000 in
theorem f_M_print_j242_188_ok (E : jE) {rc : Int → jH → Option (Int × jH)} {k : Int → jH → Option (Int × jH)} {h47 : jH} {h50 : jH} (hrc : ∀ (l46 : Int) (h47 : jH) (res : Int × jH), rc l46 h47 = some res → jG E M_M_print 188 [(0, (2, ((24 : Nat) : Int))), (2, (0, l46))] [] h47 (some (0, res.1)) res.2) (hk : ∀ (l46 : Int) (h47 : jH) (res : Int × jH), k l46 h47 = some res → jG E M_M_print 251 [(0, (2, ((24 : Nat) : Int)))] [] h47 (some (0, res.1)) res.2) {l48 : Int} {s49 : Int} {res : Int × jH} (hv : f_M_print_j242_188 rc k h47 h50 l48 s49 = some res) : jG E M_M_print 242 [(0, (2, ((24 : Nat) : Int))), (2, (0, l48))] [(0, s49), (2, ((24 : Nat) : Int))] h50 (some (0, res.1)) res.2 := by
  unfold f_M_print_j242_188 at hv
  obtain ⟨v51, hq, hv⟩ := Option.bind_eq_some_iff.mp hv
  refine jT.cV (M1 := M_M_say) (2, ((24 : Nat) : Int)) [(0, s49)] [] (st_M_print) rfl rfl ok_M_say rfl (Or.inl ⟨rfl, _, _, _, rfl, rfl⟩) (Nat.le_of_ble_eq_true rfl) (Nat.le_of_ble_eq_true rfl) rfl (Nat.le_of_ble_eq_true rfl) (C_M_say hq) ?_
  show jG E _ 245 [(0, (2, ((24 : Nat) : Int))), (2, (0, l48))] [] v51 _ _
  refine jG.blk (st_M_print) 1 (pc1 := 248) (L1 := [(2, (0, jadd l48 1)), (0, (2, ((24 : Nat) : Int)))]) (st1 := []) (h1 := v51) rfl ?_
  refine jT.goto (st_M_print) rfl (tgt := 188) (by decide) ?_
  refine jG.subp [1, 0] (L1 := [(0, (2, ((24 : Nat) : Int))), (2, (0, jadd l48 1))]) rfl ?_
  exact hrc _ _ _ hv
set_option maxRecDepth 100000 in
set_option maxHeartbeats 4000000 in
theorem f_M_print_lp188_ok (E : jE) {k : Int → jH → Option (Int × jH)} (hk : ∀ (l46 : Int) (h47 : jH) (res : Int × jH), k l46 h47 = some res → jG E M_M_print 251 [(0, (2, ((24 : Nat) : Int)))] [] h47 (some (0, res.1)) res.2) : ∀ (n : Nat) (l46 : Int) (h47 : jH) (res : Int × jH), f_M_print_lp188 k n l46 h47 = some res → jG E M_M_print 188 [(0, (2, ((24 : Nat) : Int))), (2, (0, l46))] [] h47 (some (0, res.1)) res.2 := by
  intro n
  induction n with
  | zero => intro l46 h47 res hv; cases hv
  | succ n ih =>
    intro l46 h47 res hv
    rw [f_M_print_lp188] at hv
    refine jG.blk (st_M_print) 2 (pc1 := 190) (L1 := [(0, (2, ((24 : Nat) : Int))), (2, (0, l46))]) (st1 := [(0, 4), (0, l46)]) (h1 := h47) rfl ?_
    refine jT.if2 (st_M_print) rfl (tgt := 251) (by decide) (fun hc => ?_) (fun hc => ?_)
    · have hc : 4 ≤ l46 := hc
      try rw [if_pos hc] at hv
      refine jG.subp [0] (L1 := [(0, (2, ((24 : Nat) : Int)))]) rfl ?_
      exact hk _ _ _ hv
    · have hc : ¬ (4 ≤ l46) := hc
      try rw [if_neg hc] at hv
      refine jG.blk (st_M_print) 4 (pc1 := 201) (L1 := [(0, (2, ((24 : Nat) : Int))), (2, (0, l46))]) (st1 := [(0, h47 24 7), (2, ((27 : Nat) : Int))]) (h1 := h47) rfl ?_
      obtain ⟨hg, hv⟩ := jgd_some hv
      refine jT.iald (a := 27) (st_M_print) rfl rfl (by decide) hg.1 hg.2 ?_
      refine jG.blk (st_M_print) 5 (pc1 := 207) (L1 := [(0, (2, ((24 : Nat) : Int))), (2, (0, l46))]) (st1 := [(0, 1), (0, jand (jshr (h47 27 (h47 24 7).toNat) l46) 1)]) (h1 := h47) rfl ?_
      refine jT.if2 (st_M_print) rfl (tgt := 245) (by decide) (fun hc => ?_) (fun hc => ?_)
      · have hc : ¬ (jand (jshr (h47 27 (h47 24 7).toNat) l46) 1 = 1) := hc
        try rw [if_neg hc] at hv
        refine jG.blk (st_M_print) 1 (pc1 := 248) (L1 := [(2, (0, jadd l46 1)), (0, (2, ((24 : Nat) : Int)))]) (st1 := []) (h1 := h47) rfl ?_
        refine jT.goto (st_M_print) rfl (tgt := 188) (by decide) ?_
        refine jG.subp [1, 0] (L1 := [(0, (2, ((24 : Nat) : Int))), (2, (0, jadd l46 1))]) rfl ?_
        exact ih _ _ _ hv
      · have hc : jand (jshr (h47 27 (h47 24 7).toNat) l46) 1 = 1 := Decidable.not_not.mp hc
        try rw [if_pos hc] at hv
        refine jG.blk (st_M_print) 2 (pc1 := 212) (L1 := [(0, (2, ((24 : Nat) : Int))), (2, (0, l46))]) (st1 := [(0, l46), (2, ((24 : Nat) : Int))]) (h1 := h47) rfl ?_
        refine jT.if1 (st_M_print) rfl (tgt := 220) (by decide) (fun hc => ?_) (fun hc => ?_)
        · have hc : ¬ (l46 = 0) := hc
          try rw [if_neg hc] at hv
          refine jG.blk (st_M_print) 2 (pc1 := 222) (L1 := [(0, (2, ((24 : Nat) : Int))), (2, (0, l46))]) (st1 := [(0, 1), (0, l46), (2, ((24 : Nat) : Int))]) (h1 := h47) rfl ?_
          refine jT.if2 (st_M_print) rfl (tgt := 230) (by decide) (fun hc => ?_) (fun hc => ?_)
          · have hc : ¬ (l46 = 1) := hc
            try rw [if_neg hc] at hv
            refine jG.blk (st_M_print) 2 (pc1 := 232) (L1 := [(0, (2, ((24 : Nat) : Int))), (2, (0, l46))]) (st1 := [(0, 2), (0, l46), (2, ((24 : Nat) : Int))]) (h1 := h47) rfl ?_
            refine jT.if2 (st_M_print) rfl (tgt := 240) (by decide) (fun hc => ?_) (fun hc => ?_)
            · have hc : ¬ (l46 = 2) := hc
              try rw [if_neg hc] at hv
              refine jG.blk (st_M_print) 1 (pc1 := 242) (L1 := [(0, (2, ((24 : Nat) : Int))), (2, (0, l46))]) (st1 := [(0, 113), (2, ((24 : Nat) : Int))]) (h1 := h47) rfl ?_
              exact f_M_print_j242_188_ok E ih hk hv
            · have hc : l46 = 2 := Decidable.not_not.mp hc
              try rw [if_pos hc] at hv
              refine jG.blk (st_M_print) 1 (pc1 := 237) (L1 := [(0, (2, ((24 : Nat) : Int))), (2, (0, l46))]) (st1 := [(0, 107), (2, ((24 : Nat) : Int))]) (h1 := h47) rfl ?_
              refine jT.goto (st_M_print) rfl (tgt := 242) (by decide) ?_
              exact f_M_print_j242_188_ok E ih hk hv
          · have hc : l46 = 1 := Decidable.not_not.mp hc
            try rw [if_pos hc] at hv
            refine jG.blk (st_M_print) 1 (pc1 := 227) (L1 := [(0, (2, ((24 : Nat) : Int))), (2, (0, l46))]) (st1 := [(0, 81), (2, ((24 : Nat) : Int))]) (h1 := h47) rfl ?_
            refine jT.goto (st_M_print) rfl (tgt := 242) (by decide) ?_
            exact f_M_print_j242_188_ok E ih hk hv
        · have hc : l46 = 0 := Decidable.not_not.mp hc
          try rw [if_pos hc] at hv
          refine jG.blk (st_M_print) 1 (pc1 := 217) (L1 := [(0, (2, ((24 : Nat) : Int))), (2, (0, l46))]) (st1 := [(0, 75), (2, ((24 : Nat) : Int))]) (h1 := h47) rfl ?_
          refine jT.goto (st_M_print) rfl (tgt := 242) (by decide) ?_
          exact f_M_print_j242_188_ok E ih hk hv
set_option maxRecDepth 100000 in
set_option maxHeartbeats 4000000 in
theorem f_M_print_j388_ok (E : jE) {h65 : jH} {l64 : Int} {res : Int × jH} (hv : f_M_print_j388 h65 l64 = some res) : jG E M_M_print 388 [(0, (2, ((24 : Nat) : Int))), (2, (0, l64))] [] h65 (some (0, res.1)) res.2 := by
  unfold f_M_print_j388 at hv
  refine jG.blk (st_M_print) 6 (pc1 := 396) (L1 := [(0, (2, ((24 : Nat) : Int))), (2, (0, l64))]) (st1 := [(0, jadd 48 (jrem l64 10)), (2, ((24 : Nat) : Int))]) (h1 := h65) rfl ?_
  obtain ⟨v66, hq, hv⟩ := Option.bind_eq_some_iff.mp hv
  refine jT.cV (M1 := M_M_say) (2, ((24 : Nat) : Int)) [(0, jadd 48 (jrem l64 10))] [] (st_M_print) rfl rfl ok_M_say rfl (Or.inl ⟨rfl, _, _, _, rfl, rfl⟩) (Nat.le_of_ble_eq_true rfl) (Nat.le_of_ble_eq_true rfl) rfl (Nat.le_of_ble_eq_true rfl) (C_M_say hq) ?_
  show jG E _ 399 [(0, (2, ((24 : Nat) : Int))), (2, (0, l64))] [] v66 _ _
  refine jG.blk (st_M_print) 2 (pc1 := 403) (L1 := [(0, (2, ((24 : Nat) : Int))), (2, (0, l64))]) (st1 := [(0, v66 24 14)]) (h1 := v66) rfl ?_
  cases hv
  exact jT.iret (st_M_print) rfl trivial
set_option maxRecDepth 100000 in
set_option maxHeartbeats 4000000 in
theorem f_M_print_j368_ok (E : jE) {h63 : jH} {l62 : Int} {res : Int × jH} (hv : f_M_print_j368 h63 l62 = some res) : jG E M_M_print 368 [(0, (2, ((24 : Nat) : Int))), (2, (0, l62))] [] h63 (some (0, res.1)) res.2 := by
  unfold f_M_print_j368 at hv
  refine jG.blk (st_M_print) 2 (pc1 := 371) (L1 := [(0, (2, ((24 : Nat) : Int))), (2, (0, l62))]) (st1 := [(0, 9), (0, l62)]) (h1 := h63) rfl ?_
  refine jT.if2 (st_M_print) rfl (tgt := 388) (by decide) (fun hc => ?_) (fun hc => ?_)
  · have hc : l62 ≤ 9 := hc
    try rw [if_pos hc] at hv
    exact f_M_print_j388_ok E hv
  · have hc : ¬ (l62 ≤ 9) := hc
    try rw [if_neg hc] at hv
    refine jG.blk (st_M_print) 8 (pc1 := 385) (L1 := [(0, (2, ((24 : Nat) : Int))), (2, (0, l62))]) (st1 := [(0, jadd 48 (jrem (jdiv l62 10) 10)), (2, ((24 : Nat) : Int))]) (h1 := h63) rfl ?_
    obtain ⟨v67, hq, hv⟩ := Option.bind_eq_some_iff.mp hv
    refine jT.cV (M1 := M_M_say) (2, ((24 : Nat) : Int)) [(0, jadd 48 (jrem (jdiv l62 10) 10))] [] (st_M_print) rfl rfl ok_M_say rfl (Or.inl ⟨rfl, _, _, _, rfl, rfl⟩) (Nat.le_of_ble_eq_true rfl) (Nat.le_of_ble_eq_true rfl) rfl (Nat.le_of_ble_eq_true rfl) (C_M_say hq) ?_
    show jG E _ 388 [(0, (2, ((24 : Nat) : Int))), (2, (0, l62))] [] v67 _ _
    exact f_M_print_j388_ok E hv
set_option maxRecDepth 100000 in
set_option maxHeartbeats 4000000 in
theorem f_M_print_j335_ok (E : jE) {h60 : jH} {res : Int × jH} (hv : f_M_print_j335 h60 = some res) : jG E M_M_print 335 [(0, (2, ((24 : Nat) : Int)))] [] h60 (some (0, res.1)) res.2 := by
  unfold f_M_print_j335 at hv
  refine jG.blk (st_M_print) 2 (pc1 := 338) (L1 := [(0, (2, ((24 : Nat) : Int)))]) (st1 := [(0, 32), (2, ((24 : Nat) : Int))]) (h1 := h60) rfl ?_
  obtain ⟨v61, hq, hv⟩ := Option.bind_eq_some_iff.mp hv
  refine jT.cV (M1 := M_M_say) (2, ((24 : Nat) : Int)) [(0, 32)] [] (st_M_print) rfl rfl ok_M_say rfl (Or.inl ⟨rfl, _, _, _, rfl, rfl⟩) (Nat.le_of_ble_eq_true rfl) (Nat.le_of_ble_eq_true rfl) rfl (Nat.le_of_ble_eq_true rfl) (C_M_say hq) ?_
  show jG E _ 341 [(0, (2, ((24 : Nat) : Int)))] [] v61 _ _
  refine jG.blk (st_M_print) 4 (pc1 := 349) (L1 := [(0, (2, ((24 : Nat) : Int)))]) (st1 := [(0, v61 24 7), (2, ((29 : Nat) : Int))]) (h1 := v61) rfl ?_
  obtain ⟨hg, hv⟩ := jgd_some hv
  refine jT.iald (a := 29) (st_M_print) rfl rfl (by decide) hg.1 hg.2 ?_
  refine jG.blk (st_M_print) 3 (pc1 := 354) (L1 := [(2, (0, v61 29 (v61 24 7).toNat)), (0, (2, ((24 : Nat) : Int)))]) (st1 := [(0, 99), (0, v61 29 (v61 24 7).toNat)]) (h1 := v61) rfl ?_
  refine jT.if2 (st_M_print) rfl (tgt := 368) (by decide) (fun hc => ?_) (fun hc => ?_)
  · have hc : v61 29 (v61 24 7).toNat ≤ 99 := hc
    try rw [if_pos hc] at hv
    refine jG.subp [1, 0] (L1 := [(0, (2, ((24 : Nat) : Int))), (2, (0, v61 29 (v61 24 7).toNat))]) rfl ?_
    exact f_M_print_j368_ok E hv
  · have hc : ¬ (v61 29 (v61 24 7).toNat ≤ 99) := hc
    try rw [if_neg hc] at hv
    refine jG.blk (st_M_print) 6 (pc1 := 365) (L1 := [(2, (0, v61 29 (v61 24 7).toNat)), (0, (2, ((24 : Nat) : Int)))]) (st1 := [(0, jadd 48 (jdiv (v61 29 (v61 24 7).toNat) 100)), (2, ((24 : Nat) : Int))]) (h1 := v61) rfl ?_
    obtain ⟨v68, hq, hv⟩ := Option.bind_eq_some_iff.mp hv
    refine jT.cV (M1 := M_M_say) (2, ((24 : Nat) : Int)) [(0, jadd 48 (jdiv (v61 29 (v61 24 7).toNat) 100))] [] (st_M_print) rfl rfl ok_M_say rfl (Or.inl ⟨rfl, _, _, _, rfl, rfl⟩) (Nat.le_of_ble_eq_true rfl) (Nat.le_of_ble_eq_true rfl) rfl (Nat.le_of_ble_eq_true rfl) (C_M_say hq) ?_
    show jG E _ 368 [(2, (0, v61 29 (v61 24 7).toNat)), (0, (2, ((24 : Nat) : Int)))] [] v68 _ _
    refine jG.subp [1, 0] (L1 := [(0, (2, ((24 : Nat) : Int))), (2, (0, v61 29 (v61 24 7).toNat))]) rfl ?_
    exact f_M_print_j368_ok E hv
set_option maxRecDepth 100000 in
set_option maxHeartbeats 4000000 in
theorem f_M_print_j332_ok (E : jE) {h58 : jH} {s57 : Int} {res : Int × jH} (hv : f_M_print_j332 h58 s57 = some res) : jG E M_M_print 332 [(0, (2, ((24 : Nat) : Int)))] [(0, s57), (2, ((24 : Nat) : Int))] h58 (some (0, res.1)) res.2 := by
  unfold f_M_print_j332 at hv
  obtain ⟨v59, hq, hv⟩ := Option.bind_eq_some_iff.mp hv
  refine jT.cV (M1 := M_M_say) (2, ((24 : Nat) : Int)) [(0, s57)] [] (st_M_print) rfl rfl ok_M_say rfl (Or.inl ⟨rfl, _, _, _, rfl, rfl⟩) (Nat.le_of_ble_eq_true rfl) (Nat.le_of_ble_eq_true rfl) rfl (Nat.le_of_ble_eq_true rfl) (C_M_say hq) ?_
  show jG E _ 335 [(0, (2, ((24 : Nat) : Int)))] [] v59 _ _
  exact f_M_print_j335_ok E hv
set_option maxRecDepth 100000 in
set_option maxHeartbeats 4000000 in
theorem f_M_print_j269_ok (E : jE) {h54 : jH} {res : Int × jH} (hv : f_M_print_j269 h54 = some res) : jG E M_M_print 269 [(0, (2, ((24 : Nat) : Int)))] [] h54 (some (0, res.1)) res.2 := by
  unfold f_M_print_j269 at hv
  refine jG.blk (st_M_print) 2 (pc1 := 272) (L1 := [(0, (2, ((24 : Nat) : Int)))]) (st1 := [(0, 32), (2, ((24 : Nat) : Int))]) (h1 := h54) rfl ?_
  obtain ⟨v55, hq, hv⟩ := Option.bind_eq_some_iff.mp hv
  refine jT.cV (M1 := M_M_say) (2, ((24 : Nat) : Int)) [(0, 32)] [] (st_M_print) rfl rfl ok_M_say rfl (Or.inl ⟨rfl, _, _, _, rfl, rfl⟩) (Nat.le_of_ble_eq_true rfl) (Nat.le_of_ble_eq_true rfl) rfl (Nat.le_of_ble_eq_true rfl) (C_M_say hq) ?_
  show jG E _ 275 [(0, (2, ((24 : Nat) : Int)))] [] v55 _ _
  refine jG.blk (st_M_print) 4 (pc1 := 283) (L1 := [(0, (2, ((24 : Nat) : Int)))]) (st1 := [(0, v55 24 7), (2, ((28 : Nat) : Int))]) (h1 := v55) rfl ?_
  obtain ⟨hg, hv⟩ := jgd_some hv
  refine jT.iald (a := 28) (st_M_print) rfl rfl (by decide) hg.1 hg.2 ?_
  refine jT.if1 (st_M_print) rfl (tgt := 296) (by decide) (fun hc => ?_) (fun hc => ?_)
  · have hc : 0 ≤ v55 28 (v55 24 7).toNat := hc
    try rw [if_pos hc] at hv
    refine jG.blk (st_M_print) 6 (pc1 := 307) (L1 := [(0, (2, ((24 : Nat) : Int)))]) (st1 := [(0, v55 24 7), (2, ((28 : Nat) : Int)), (0, 97), (2, ((24 : Nat) : Int))]) (h1 := v55) rfl ?_
    obtain ⟨hg, hv⟩ := jgd_some hv
    refine jT.iald (a := 28) (st_M_print) rfl rfl (by decide) hg.1 hg.2 ?_
    refine jG.blk (st_M_print) 1 (pc1 := 309) (L1 := [(0, (2, ((24 : Nat) : Int)))]) (st1 := [(0, jadd 97 (v55 28 (v55 24 7).toNat)), (2, ((24 : Nat) : Int))]) (h1 := v55) rfl ?_
    obtain ⟨v56, hq, hv⟩ := Option.bind_eq_some_iff.mp hv
    refine jT.cV (M1 := M_M_say) (2, ((24 : Nat) : Int)) [(0, jadd 97 (v55 28 (v55 24 7).toNat))] [] (st_M_print) rfl rfl ok_M_say rfl (Or.inl ⟨rfl, _, _, _, rfl, rfl⟩) (Nat.le_of_ble_eq_true rfl) (Nat.le_of_ble_eq_true rfl) rfl (Nat.le_of_ble_eq_true rfl) (C_M_say hq) ?_
    show jG E _ 312 [(0, (2, ((24 : Nat) : Int)))] [] v56 _ _
    refine jG.blk (st_M_print) 5 (pc1 := 321) (L1 := [(0, (2, ((24 : Nat) : Int)))]) (st1 := [(0, v56 24 7), (2, ((26 : Nat) : Int)), (2, ((24 : Nat) : Int))]) (h1 := v56) rfl ?_
    obtain ⟨hg, hv⟩ := jgd_some hv
    refine jT.iald (a := 26) (st_M_print) rfl rfl (by decide) hg.1 hg.2 ?_
    refine jT.if1 (st_M_print) rfl (tgt := 330) (by decide) (fun hc => ?_) (fun hc => ?_)
    · have hc : ¬ (v56 26 (v56 24 7).toNat = 0) := hc
      try rw [if_neg hc] at hv
      refine jG.blk (st_M_print) 1 (pc1 := 332) (L1 := [(0, (2, ((24 : Nat) : Int)))]) (st1 := [(0, 51), (2, ((24 : Nat) : Int))]) (h1 := v56) rfl ?_
      exact f_M_print_j332_ok E hv
    · have hc : v56 26 (v56 24 7).toNat = 0 := Decidable.not_not.mp hc
      try rw [if_pos hc] at hv
      refine jG.blk (st_M_print) 1 (pc1 := 327) (L1 := [(0, (2, ((24 : Nat) : Int)))]) (st1 := [(0, 54), (2, ((24 : Nat) : Int))]) (h1 := v56) rfl ?_
      refine jT.goto (st_M_print) rfl (tgt := 332) (by decide) ?_
      exact f_M_print_j332_ok E hv
  · have hc : ¬ (0 ≤ v55 28 (v55 24 7).toNat) := hc
    try rw [if_neg hc] at hv
    refine jG.blk (st_M_print) 2 (pc1 := 290) (L1 := [(0, (2, ((24 : Nat) : Int)))]) (st1 := [(0, 45), (2, ((24 : Nat) : Int))]) (h1 := v55) rfl ?_
    obtain ⟨v69, hq, hv⟩ := Option.bind_eq_some_iff.mp hv
    refine jT.cV (M1 := M_M_say) (2, ((24 : Nat) : Int)) [(0, 45)] [] (st_M_print) rfl rfl ok_M_say rfl (Or.inl ⟨rfl, _, _, _, rfl, rfl⟩) (Nat.le_of_ble_eq_true rfl) (Nat.le_of_ble_eq_true rfl) rfl (Nat.le_of_ble_eq_true rfl) (C_M_say hq) ?_
    show jG E _ 293 [(0, (2, ((24 : Nat) : Int)))] [] v69 _ _
    refine jT.goto (st_M_print) rfl (tgt := 335) (by decide) ?_
    exact f_M_print_j335_ok E hv
set_option maxRecDepth 100000 in
set_option maxHeartbeats 4000000 in
theorem f_M_print_j177_ok (E : jE) {h43 : jH} {s42 : Int} {res : Int × jH} (hv : f_M_print_j177 h43 s42 = some res) : jG E M_M_print 177 [(0, (2, ((24 : Nat) : Int)))] [(0, s42), (2, ((24 : Nat) : Int))] h43 (some (0, res.1)) res.2 := by
  unfold f_M_print_j177 at hv
  obtain ⟨v44, hq, hv⟩ := Option.bind_eq_some_iff.mp hv
  refine jT.cV (M1 := M_M_say) (2, ((24 : Nat) : Int)) [(0, s42)] [] (st_M_print) rfl rfl ok_M_say rfl (Or.inl ⟨rfl, _, _, _, rfl, rfl⟩) (Nat.le_of_ble_eq_true rfl) (Nat.le_of_ble_eq_true rfl) rfl (Nat.le_of_ble_eq_true rfl) (C_M_say hq) ?_
  show jG E _ 180 [(0, (2, ((24 : Nat) : Int)))] [] v44 _ _
  refine jG.blk (st_M_print) 2 (pc1 := 183) (L1 := [(0, (2, ((24 : Nat) : Int)))]) (st1 := [(0, 32), (2, ((24 : Nat) : Int))]) (h1 := v44) rfl ?_
  obtain ⟨v45, hq, hv⟩ := Option.bind_eq_some_iff.mp hv
  refine jT.cV (M1 := M_M_say) (2, ((24 : Nat) : Int)) [(0, 32)] [] (st_M_print) rfl rfl ok_M_say rfl (Or.inl ⟨rfl, _, _, _, rfl, rfl⟩) (Nat.le_of_ble_eq_true rfl) (Nat.le_of_ble_eq_true rfl) rfl (Nat.le_of_ble_eq_true rfl) (C_M_say hq) ?_
  show jG E _ 186 [(0, (2, ((24 : Nat) : Int)))] [] v45 _ _
  refine jG.blk (st_M_print) 2 (pc1 := 188) (L1 := [(2, (0, 0)), (0, (2, ((24 : Nat) : Int)))]) (st1 := []) (h1 := v45) rfl ?_
  refine jG.subp [1, 0] (L1 := [(0, (2, ((24 : Nat) : Int))), (2, (0, 0))]) rfl ?_
  refine f_M_print_lp188_ok E (fun l52 h53 res hv => ?_) 1000 _ _ _ hv
  · refine jG.blk (st_M_print) 4 (pc1 := 259) (L1 := [(0, (2, ((24 : Nat) : Int)))]) (st1 := [(0, h53 24 7), (2, ((27 : Nat) : Int))]) (h1 := h53) rfl ?_
    obtain ⟨hg, hv⟩ := jgd_some hv
    refine jT.iald (a := 27) (st_M_print) rfl rfl (by decide) hg.1 hg.2 ?_
    refine jT.if1 (st_M_print) rfl (tgt := 269) (by decide) (fun hc => ?_) (fun hc => ?_)
    · have hc : ¬ (h53 27 (h53 24 7).toNat = 0) := hc
      try rw [if_neg hc] at hv
      exact f_M_print_j269_ok E hv
    · have hc : h53 27 (h53 24 7).toNat = 0 := Decidable.not_not.mp hc
      try rw [if_pos hc] at hv
      refine jG.blk (st_M_print) 2 (pc1 := 266) (L1 := [(0, (2, ((24 : Nat) : Int)))]) (st1 := [(0, 45), (2, ((24 : Nat) : Int))]) (h1 := h53) rfl ?_
      obtain ⟨v70, hq, hv⟩ := Option.bind_eq_some_iff.mp hv
      refine jT.cV (M1 := M_M_say) (2, ((24 : Nat) : Int)) [(0, 45)] [] (st_M_print) rfl rfl ok_M_say rfl (Or.inl ⟨rfl, _, _, _, rfl, rfl⟩) (Nat.le_of_ble_eq_true rfl) (Nat.le_of_ble_eq_true rfl) rfl (Nat.le_of_ble_eq_true rfl) (C_M_say hq) ?_
      show jG E _ 269 [(0, (2, ((24 : Nat) : Int)))] [] v70 _ _
      exact f_M_print_j269_ok E hv
set_option maxRecDepth 100000 in
set_option maxHeartbeats 4000000 in
theorem C_M_print {E : jE} {h : jH} {res : Int × jH} (hv : f_M_print h = some res) : jC E M_M_print [(2, ((24 : Nat) : Int))] h (some (0, res.1)) res.2 := by
  refine jC.of ok_M_print.1 (by rw [jlg]; exact Nat.le_of_ble_eq_true rfl) ?_
  show jG E _ 0 [(0, (2, ((24 : Nat) : Int)))] [] h _ _
  unfold f_M_print at hv
  refine jG.blk (st_M_print) 5 (pc1 := 9) (L1 := [(0, (2, ((24 : Nat) : Int)))]) (st1 := [(0, (jup h 24 0 0) 24 8)]) (h1 := jup h 24 0 0) rfl ?_
  refine jT.if1 (st_M_print) rfl (tgt := 14) (by decide) (fun hc => ?_) (fun hc => ?_)
  · have hc : ¬ ((jup h 24 0 0) 24 8 = 0) := hc
    try rw [if_neg hc] at hv
    refine jG.blk (st_M_print) 7 (pc1 := 23) (L1 := [(2, (0, 0)), (1, (0, 0)), (0, (2, ((24 : Nat) : Int)))]) (st1 := []) (h1 := jup (jup h 24 0 0) 24 14 0) rfl ?_
    refine jG.subp [2, 1, 0] (L1 := [(0, (2, ((24 : Nat) : Int))), (1, (0, 0)), (2, (0, 0))]) rfl ?_
    refine f_M_print_lp23_ok E (fun l39 l40 h41 res hv => ?_) 1000 _ _ _ _ hv
    · refine jG.blk (st_M_print) 5 (pc1 := 166) (L1 := [(0, (2, ((24 : Nat) : Int)))]) (st1 := [(0, h41 24 7), (2, ((26 : Nat) : Int)), (2, ((24 : Nat) : Int))]) (h1 := h41) rfl ?_
      obtain ⟨hg, hv⟩ := jgd_some hv
      refine jT.iald (a := 26) (st_M_print) rfl rfl (by decide) hg.1 hg.2 ?_
      refine jT.if1 (st_M_print) rfl (tgt := 175) (by decide) (fun hc => ?_) (fun hc => ?_)
      · have hc : ¬ (h41 26 (h41 24 7).toNat = 0) := hc
        try rw [if_neg hc] at hv
        refine jG.blk (st_M_print) 1 (pc1 := 177) (L1 := [(0, (2, ((24 : Nat) : Int)))]) (st1 := [(0, 98), (2, ((24 : Nat) : Int))]) (h1 := h41) rfl ?_
        exact f_M_print_j177_ok E hv
      · have hc : h41 26 (h41 24 7).toNat = 0 := Decidable.not_not.mp hc
        try rw [if_pos hc] at hv
        refine jG.blk (st_M_print) 1 (pc1 := 172) (L1 := [(0, (2, ((24 : Nat) : Int)))]) (st1 := [(0, 119), (2, ((24 : Nat) : Int))]) (h1 := h41) rfl ?_
        refine jT.goto (st_M_print) rfl (tgt := 177) (by decide) ?_
        exact f_M_print_j177_ok E hv
  · have hc : (jup h 24 0 0) 24 8 = 0 := Decidable.not_not.mp hc
    try rw [if_pos hc] at hv
    refine jG.blk (st_M_print) 1 (pc1 := 13) (L1 := [(0, (2, ((24 : Nat) : Int)))]) (st1 := [(0, (-1))]) (h1 := jup h 24 0 0) rfl ?_
    cases hv
    exact jT.iret (st_M_print) rfl trivial
def f_M_character (h : jH) (a1 : Int) : Option (Int × jH) := if a1 < 0 then some ((-1), jup h 24 0 0) else if (jup h 24 0 0) 24 14 ≤ a1 then some ((-1), jup h 24 0 0) else jgd (0 ≤ a1 ∧ a1 < 100) (some ((jup h 24 0 0) 32 a1.toNat, jup h 24 0 0))
set_option maxRecDepth 100000 in
set_option maxHeartbeats 4000000 in
theorem C_M_character {E : jE} {h : jH} {a1 : Int} {res : Int × jH} (hv : f_M_character h a1 = some res) : jC E M_M_character [(2, ((24 : Nat) : Int)), (0, a1)] h (some (0, res.1)) res.2 := by
  refine jC.of ok_M_character.1 (by rw [jlg]; exact Nat.le_of_ble_eq_true rfl) ?_
  show jG E _ 0 [(0, (2, ((24 : Nat) : Int))), (1, (0, a1))] [] h _ _
  unfold f_M_character at hv
  refine jG.blk (st_M_character) 4 (pc1 := 6) (L1 := [(0, (2, ((24 : Nat) : Int))), (1, (0, a1))]) (st1 := [(0, a1)]) (h1 := jup h 24 0 0) rfl ?_
  refine jT.if1 (st_M_character) rfl (tgt := 26) (by decide) (fun hc => ?_) (fun hc => ?_)
  · have hc : a1 < 0 := hc
    try rw [if_pos hc] at hv
    refine jG.blk (st_M_character) 1 (pc1 := 27) (L1 := [(0, (2, ((24 : Nat) : Int))), (1, (0, a1))]) (st1 := [(0, (-1))]) (h1 := jup h 24 0 0) rfl ?_
    cases hv
    exact jT.iret (st_M_character) rfl trivial
  · have hc : ¬ (a1 < 0) := hc
    try rw [if_neg hc] at hv
    refine jG.blk (st_M_character) 3 (pc1 := 14) (L1 := [(0, (2, ((24 : Nat) : Int))), (1, (0, a1))]) (st1 := [(0, (jup h 24 0 0) 24 14), (0, a1)]) (h1 := jup h 24 0 0) rfl ?_
    refine jT.if2 (st_M_character) rfl (tgt := 26) (by decide) (fun hc => ?_) (fun hc => ?_)
    · have hc : (jup h 24 0 0) 24 14 ≤ a1 := hc
      try rw [if_pos hc] at hv
      refine jG.blk (st_M_character) 1 (pc1 := 27) (L1 := [(0, (2, ((24 : Nat) : Int))), (1, (0, a1))]) (st1 := [(0, (-1))]) (h1 := jup h 24 0 0) rfl ?_
      cases hv
      exact jT.iret (st_M_character) rfl trivial
    · have hc : ¬ ((jup h 24 0 0) 24 14 ≤ a1) := hc
      try rw [if_neg hc] at hv
      refine jG.blk (st_M_character) 3 (pc1 := 22) (L1 := [(0, (2, ((24 : Nat) : Int))), (1, (0, a1))]) (st1 := [(0, a1), (2, ((32 : Nat) : Int))]) (h1 := jup h 24 0 0) rfl ?_
      obtain ⟨hg, hv⟩ := jgd_some hv
      refine jT.iald (a := 32) (st_M_character) rfl rfl (by decide) hg.1 hg.2 ?_
      refine jT.goto (st_M_character) rfl (tgt := 27) (by decide) ?_
      cases hv
      exact jT.iret (st_M_character) rfl trivial
def f_M_check (h : jH) : Option (Int × jH) := some (if (jup h 24 0 0) 24 8 = 0 then ((-1), jup h 24 0 0) else (1, jup h 24 0 0))
set_option maxRecDepth 100000 in
set_option maxHeartbeats 4000000 in
theorem C_M_check {E : jE} {h : jH} {res : Int × jH} (hv : f_M_check h = some res) : jC E M_M_check [(2, ((24 : Nat) : Int))] h (some (0, res.1)) res.2 := by
  refine jC.of ok_M_check.1 (by rw [jlg]; exact Nat.le_of_ble_eq_true rfl) ?_
  show jG E _ 0 [(0, (2, ((24 : Nat) : Int)))] [] h _ _
  unfold f_M_check at hv
  refine jG.blk (st_M_check) 5 (pc1 := 9) (L1 := [(0, (2, ((24 : Nat) : Int)))]) (st1 := [(0, (jup h 24 0 0) 24 8)]) (h1 := jup h 24 0 0) rfl ?_
  refine jT.if1 (st_M_check) rfl (tgt := 16) (by decide) (fun hc => ?_) (fun hc => ?_)
  · have hc : (jup h 24 0 0) 24 8 = 0 := hc
    try rw [if_pos hc] at hv
    refine jG.blk (st_M_check) 1 (pc1 := 17) (L1 := [(0, (2, ((24 : Nat) : Int)))]) (st1 := [(0, (-1))]) (h1 := jup h 24 0 0) rfl ?_
    cases hv
    exact jT.iret (st_M_check) rfl trivial
  · have hc : ¬ ((jup h 24 0 0) 24 8 = 0) := hc
    try rw [if_neg hc] at hv
    refine jG.blk (st_M_check) 1 (pc1 := 13) (L1 := [(0, (2, ((24 : Nat) : Int)))]) (st1 := [(0, 1)]) (h1 := jup h 24 0 0) rfl ?_
    refine jT.goto (st_M_check) rfl (tgt := 17) (by decide) ?_
    cases hv
    exact jT.iret (st_M_check) rfl trivial
