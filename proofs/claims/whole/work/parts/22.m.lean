def f_M_move (h : jH) (a1 : Int) : Option (Int × jH) := if (jup h 24 0 0) 24 8 = 0 then some ((-1), jup h 24 0 0) else if a1 < 0 then some ((-1), jup h 24 0 0) else (f_M_codeOf (jup h 24 0 0) ((jup h 24 0 0) 24 7) a1).bind fun v1 => some (v1.1, v1.2)
set_option maxRecDepth 100000 in
set_option maxHeartbeats 4000000 in
theorem C_M_move {E : jE} {h : jH} {a1 : Int} {res : Int × jH} (hv : f_M_move h a1 = some res) : jC E M_M_move [(2, ((24 : Nat) : Int)), (0, a1)] h (some (0, res.1)) res.2 := by
  refine jC.of ok_M_move.1 (by rw [jlg]; exact Nat.le_of_ble_eq_true rfl) ?_
  show jG E _ 0 [(0, (2, ((24 : Nat) : Int))), (1, (0, a1))] [] h _ _
  unfold f_M_move at hv
  refine jG.blk (st_M_move) 5 (pc1 := 9) (L1 := [(0, (2, ((24 : Nat) : Int))), (1, (0, a1))]) (st1 := [(0, (jup h 24 0 0) 24 8)]) (h1 := jup h 24 0 0) rfl ?_
  refine jT.if1 (st_M_move) rfl (tgt := 28) (by decide) (fun hc => ?_) (fun hc => ?_)
  · have hc : (jup h 24 0 0) 24 8 = 0 := hc
    try rw [if_pos hc] at hv
    refine jG.blk (st_M_move) 1 (pc1 := 29) (L1 := [(0, (2, ((24 : Nat) : Int))), (1, (0, a1))]) (st1 := [(0, (-1))]) (h1 := jup h 24 0 0) rfl ?_
    cases hv
    exact jT.iret (st_M_move) rfl trivial
  · have hc : ¬ ((jup h 24 0 0) 24 8 = 0) := hc
    try rw [if_neg hc] at hv
    refine jG.blk (st_M_move) 1 (pc1 := 13) (L1 := [(0, (2, ((24 : Nat) : Int))), (1, (0, a1))]) (st1 := [(0, a1)]) (h1 := jup h 24 0 0) rfl ?_
    refine jT.if1 (st_M_move) rfl (tgt := 28) (by decide) (fun hc => ?_) (fun hc => ?_)
    · have hc : a1 < 0 := hc
      try rw [if_pos hc] at hv
      refine jG.blk (st_M_move) 1 (pc1 := 29) (L1 := [(0, (2, ((24 : Nat) : Int))), (1, (0, a1))]) (st1 := [(0, (-1))]) (h1 := jup h 24 0 0) rfl ?_
      cases hv
      exact jT.iret (st_M_move) rfl trivial
    · have hc : ¬ (a1 < 0) := hc
      try rw [if_neg hc] at hv
      refine jG.blk (st_M_move) 4 (pc1 := 22) (L1 := [(0, (2, ((24 : Nat) : Int))), (1, (0, a1))]) (st1 := [(0, a1), (0, (jup h 24 0 0) 24 7), (2, ((24 : Nat) : Int))]) (h1 := jup h 24 0 0) rfl ?_
      obtain ⟨v1, hq, hv⟩ := Option.bind_eq_some_iff.mp hv
      refine jT.cV (M1 := M_M_codeOf) (2, ((24 : Nat) : Int)) [(0, (jup h 24 0 0) 24 7), (0, a1)] [] (st_M_move) rfl rfl ok_M_codeOf rfl (Or.inl ⟨rfl, _, _, _, rfl, rfl⟩) (Nat.le_of_ble_eq_true rfl) (Nat.le_of_ble_eq_true rfl) rfl (Nat.le_of_ble_eq_true rfl) (C_M_codeOf hq) ?_
      show jG E _ 25 [(0, (2, ((24 : Nat) : Int))), (1, (0, a1))] [(0, v1.1)] v1.2 _ _
      refine jT.goto (st_M_move) rfl (tgt := 29) (by decide) ?_
      cases hv
      exact jT.iret (st_M_move) rfl trivial
def f_M_rightsOf (h : jH) (a0 : Int) : Option (Int) := some (if a0 = 0 then 2 else if a0 = 4 then 3 else if a0 = 7 then 1 else if a0 = 56 then 8 else if a0 = 60 then 12 else if a0 = 63 then 4 else 0)
set_option maxRecDepth 100000 in
set_option maxHeartbeats 4000000 in
theorem C_M_rightsOf {E : jE} {h : jH} {a0 : Int} {res : Int} (hv : f_M_rightsOf h a0 = some res) : jC E M_M_rightsOf [(0, a0)] h (some (0, res)) h := by
  refine jC.of ok_M_rightsOf.1 (by rw [jlg]; exact Nat.le_of_ble_eq_true rfl) ?_
  show jG E _ 0 [(0, (0, a0))] [] h _ _
  unfold f_M_rightsOf at hv
  refine jG.blk (st_M_rightsOf) 1 (pc1 := 1) (L1 := [(0, (0, a0))]) (st1 := [(0, a0)]) (h1 := h) rfl ?_
  by_cases hn0 : a0 = 0
  · try rw [if_pos hn0] at hv
    refine jT.lsw (st_M_rightsOf) rfl (by decide) (off := 59) (by rw [hn0]; decide) (tgt := 60) (by decide) ?_
    refine jG.blk (st_M_rightsOf) 1 (pc1 := 61) (L1 := [(0, (0, a0))]) (st1 := [(0, 2)]) (h1 := h) rfl ?_
    cases hv
    exact jT.iret (st_M_rightsOf) rfl trivial
  · try rw [if_neg hn0] at hv
    by_cases hn1 : a0 = 4
    · try rw [if_pos hn1] at hv
      refine jT.lsw (st_M_rightsOf) rfl (by decide) (off := 61) (by rw [hn1]; decide) (tgt := 62) (by decide) ?_
      refine jG.blk (st_M_rightsOf) 1 (pc1 := 63) (L1 := [(0, (0, a0))]) (st1 := [(0, 3)]) (h1 := h) rfl ?_
      cases hv
      exact jT.iret (st_M_rightsOf) rfl trivial
    · try rw [if_neg hn1] at hv
      by_cases hn2 : a0 = 7
      · try rw [if_pos hn2] at hv
        refine jT.lsw (st_M_rightsOf) rfl (by decide) (off := 63) (by rw [hn2]; decide) (tgt := 64) (by decide) ?_
        refine jG.blk (st_M_rightsOf) 1 (pc1 := 65) (L1 := [(0, (0, a0))]) (st1 := [(0, 1)]) (h1 := h) rfl ?_
        cases hv
        exact jT.iret (st_M_rightsOf) rfl trivial
      · try rw [if_neg hn2] at hv
        by_cases hn3 : a0 = 56
        · try rw [if_pos hn3] at hv
          refine jT.lsw (st_M_rightsOf) rfl (by decide) (off := 65) (by rw [hn3]; decide) (tgt := 66) (by decide) ?_
          refine jG.blk (st_M_rightsOf) 1 (pc1 := 68) (L1 := [(0, (0, a0))]) (st1 := [(0, 8)]) (h1 := h) rfl ?_
          cases hv
          exact jT.iret (st_M_rightsOf) rfl trivial
        · try rw [if_neg hn3] at hv
          by_cases hn4 : a0 = 60
          · try rw [if_pos hn4] at hv
            refine jT.lsw (st_M_rightsOf) rfl (by decide) (off := 68) (by rw [hn4]; decide) (tgt := 69) (by decide) ?_
            refine jG.blk (st_M_rightsOf) 1 (pc1 := 71) (L1 := [(0, (0, a0))]) (st1 := [(0, 12)]) (h1 := h) rfl ?_
            cases hv
            exact jT.iret (st_M_rightsOf) rfl trivial
          · try rw [if_neg hn4] at hv
            by_cases hn5 : a0 = 63
            · try rw [if_pos hn5] at hv
              refine jT.lsw (st_M_rightsOf) rfl (by decide) (off := 71) (by rw [hn5]; decide) (tgt := 72) (by decide) ?_
              refine jG.blk (st_M_rightsOf) 1 (pc1 := 73) (L1 := [(0, (0, a0))]) (st1 := [(0, 4)]) (h1 := h) rfl ?_
              cases hv
              exact jT.iret (st_M_rightsOf) rfl trivial
            · try rw [if_neg hn5] at hv
              refine jT.lsw (st_M_rightsOf) rfl (by decide) (off := 73) (by simp [Op.lookupswitch.offset, Ne.symm hn0, Ne.symm hn1, Ne.symm hn2, Ne.symm hn3, Ne.symm hn4, Ne.symm hn5]) (tgt := 74) (by decide) ?_
              refine jG.blk (st_M_rightsOf) 1 (pc1 := 75) (L1 := [(0, (0, a0))]) (st1 := [(0, 0)]) (h1 := h) rfl ?_
              cases hv
              exact jT.iret (st_M_rightsOf) rfl trivial
def f_M_go_j284 (h78 : jH) (s76 : Int) (s77 : Int) : Option (jH) := jgd (0 ≤ s77 ∧ s77 < 304) (some (jup h78 29 s77.toNat s76))
def f_M_go_j272 (h75 : jH) (s74 : Int) : Option (jH) := f_M_go_j284 h75 0 s74
def f_M_go_j255 (h73 : jH) (l67 : Int) (l68 : Int) (l69 : Int) (l70 : Int) (s71 : Int) (s72 : Int) : Option (jH) := jgd (0 ≤ s72 ∧ s72 < 304) (if l69 = 0 then if l70 = 0 then jgd (0 ≤ l67 ∧ l67 < 304) (f_M_go_j284 (jup h73 28 s72.toNat s71) (jadd ((jup h73 28 s72.toNat s71) 29 l67.toNat) 1) l68) else f_M_go_j272 (jup h73 28 s72.toNat s71) l68 else f_M_go_j272 (jup h73 28 s72.toNat s71) l68)
def f_M_go_j254 (h66 : jH) (l61 : Int) (l62 : Int) (l63 : Int) (l64 : Int) (s65 : Int) : Option (jH) := f_M_go_j255 h66 l61 l62 l63 l64 (-1) s65
def f_M_go_j187 (h58 : jH) (l51 : Int) (l52 : Int) (l53 : Int) (l54 : Int) (l55 : Int) (l56 : Int) (l57 : Int) : Option (jH) := jgd (0 ≤ l54 ∧ l54 < 304) (jgd (0 ≤ l51 ∧ l51 < 304) ((f_M_rightsOf (jup h58 26 l54.toNat (jsub 1 l55)) l52).bind fun v59 => (f_M_rightsOf (jup h58 26 l54.toNat (jsub 1 l55)) l53).bind fun v60 => jgd (0 ≤ l54 ∧ l54 < 304) (if l56 = 0 then f_M_go_j254 (jup (jup h58 26 l54.toNat (jsub 1 l55)) 27 l54.toNat (jand (jand ((jup h58 26 l54.toNat (jsub 1 l55)) 27 l51.toNat) (jxor v59 (-1))) (jxor v60 (-1)))) l51 l54 l56 l57 l54 else (f_M_size (jup (jup h58 26 l54.toNat (jsub 1 l55)) 27 l54.toNat (jand (jand ((jup h58 26 l54.toNat (jsub 1 l55)) 27 l51.toNat) (jxor v59 (-1))) (jxor v60 (-1)))) (jsub l53 l52)).bind fun v79 => if v79 = 16 then f_M_go_j255 (jup (jup h58 26 l54.toNat (jsub 1 l55)) 27 l54.toNat (jand (jand ((jup h58 26 l54.toNat (jsub 1 l55)) 27 l51.toNat) (jxor v59 (-1))) (jxor v60 (-1)))) l51 l54 l56 l57 (jrem l52 8) l54 else f_M_go_j254 (jup (jup h58 26 l54.toNat (jsub 1 l55)) 27 l54.toNat (jand (jand ((jup h58 26 l54.toNat (jsub 1 l55)) 27 l51.toNat) (jxor v59 (-1))) (jxor v60 (-1)))) l51 l54 l56 l57 l54)))
def f_M_go_j165 (h90 : jH) (l81 : Int) (l82 : Int) (l83 : Int) (l84 : Int) (l85 : Int) (l86 : Int) (l87 : Int) (s88 : Int) (s89 : Int) : Option (jH) := (f_M_lay h90 s89 s88 0).bind fun v91 => (f_M_lay v91 l84 (jdiv (jadd l82 l83) 2) (jadd 4 (jmul 6 l85))).bind fun v92 => f_M_go_j187 v92 l81 l82 l83 l84 l85 l86 l87
def f_M_go_j128 (h49 : jH) (l41 : Int) (l42 : Int) (l43 : Int) (l44 : Int) (l45 : Int) (l46 : Int) (l47 : Int) (l48 : Int) : Option (jH) := (f_M_kindOf h49 l46).bind fun v50 => if v50 = 6 then (f_M_size h49 (jsub l43 l42)).bind fun v80 => if v80 = 2 then f_M_go_j165 h49 l41 l42 l43 l44 l45 l47 l48 (if l43 ≤ l42 then jsub l42 4 else jadd l42 3) l44 else f_M_go_j187 h49 l41 l42 l43 l44 l45 l47 l48 else f_M_go_j187 h49 l41 l42 l43 l44 l45 l47 l48
def f_M_go_j101 (h39 : jH) (l27 : Int) (l28 : Int) (l29 : Int) (l30 : Int) (l31 : Int) (l32 : Int) (l33 : Int) (l34 : Int) (l35 : Int) (s36 : Int) (s37 : Int) (s38 : Int) : Option (jH) := (f_M_lay h39 s38 s37 s36).bind fun v40 => if l34 = 0 then f_M_go_j128 v40 l27 l28 l29 l30 l31 l32 l33 l35 else (f_M_lay v40 l30 (jadd (jmul (jdiv l28 8) 8) (jrem l29 8)) 0).bind fun v93 => f_M_go_j128 v93 l27 l28 l29 l30 l31 l32 l33 l35
def f_M_go_j67 (h25 : jH) (l15 : Int) (l16 : Int) (l17 : Int) (l18 : Int) (l19 : Int) (l20 : Int) (l21 : Int) (l22 : Int) (l23 : Int) (s24 : Int) : Option (jH) := (f_M_lay h25 l19 l16 0).bind fun v26 => f_M_go_j101 v26 l15 l16 l17 l19 l20 l21 l22 l23 s24 (if l18 ≤ 0 then l21 else jadd (jadd l18 1) (jmul 6 l20)) l17 l19
def f_M_go_j42 (h12 : jH) (l4 : Int) (l5 : Int) (l6 : Int) (l7 : Int) (l8 : Int) (l9 : Int) (l10 : Int) (s11 : Int) : Option (jH) := (f_M_isBehind h12 l4 l5 l6).bind fun v13 => (f_M_piece h12 l4 l6).bind fun v14 => f_M_go_j67 h12 l4 l5 l6 l7 l8 l9 l10 s11 v13 (if v14 = 0 then 0 else 1)
def f_M_go (h : jH) (a1 : Int) (a2 : Int) (a3 : Int) (a4 : Int) : Option (jH) := (f_M_copy h a1 (jadd a1 1)).bind fun v1 => jgd (0 ≤ a1 ∧ a1 < 304) ((f_M_piece v1 a1 a2).bind fun v2 => (f_M_kindOf v1 v2).bind fun v3 => f_M_go_j42 v1 a1 a2 a3 a4 (jadd a1 1) (v1 26 a1.toNat) v2 (if v3 = 1 then 1 else 0))
set_option maxRecDepth 100000 in
set_option maxHeartbeats 4000000 in
theorem f_M_go_j284_ok (E : jE) {h78 : jH} {s76 : Int} {s77 : Int} {res : jH} (hv : f_M_go_j284 h78 s76 s77 = some res) : jG E M_M_go 284 [] [(0, s76), (0, s77), (2, ((29 : Nat) : Int))] h78 none res := by
  unfold f_M_go_j284 at hv
  obtain ⟨hg, hv⟩ := jgd_some hv
  refine jT.iast (a := 29) (st_M_go) rfl rfl (by decide) hg.1 hg.2 ?_
  cases hv
  exact jT.vret (st_M_go) rfl trivial
set_option maxRecDepth 100000 in
set_option maxHeartbeats 4000000 in
theorem f_M_go_j272_ok (E : jE) {h75 : jH} {s74 : Int} {res : jH} (hv : f_M_go_j272 h75 s74 = some res) : jG E M_M_go 272 [] [(0, s74), (2, ((29 : Nat) : Int))] h75 none res := by
  unfold f_M_go_j272 at hv
  refine jG.blk (st_M_go) 1 (pc1 := 273) (L1 := []) (st1 := [(0, 0), (0, s74), (2, ((29 : Nat) : Int))]) (h1 := h75) rfl ?_
  refine jT.goto (st_M_go) rfl (tgt := 284) (by decide) ?_
  exact f_M_go_j284_ok E hv
set_option maxRecDepth 100000 in
set_option maxHeartbeats 4000000 in
theorem f_M_go_j255_ok (E : jE) {h73 : jH} {l67 : Int} {l68 : Int} {l69 : Int} {l70 : Int} {s71 : Int} {s72 : Int} {res : jH} (hv : f_M_go_j255 h73 l67 l68 l69 l70 s71 s72 = some res) : jG E M_M_go 255 [(0, (2, ((24 : Nat) : Int))), (1, (0, l67)), (5, (0, l68)), (8, (0, l69)), (10, (0, l70))] [(0, s71), (0, s72), (2, ((28 : Nat) : Int))] h73 none res := by
  unfold f_M_go_j255 at hv
  obtain ⟨hg, hv⟩ := jgd_some hv
  refine jT.iast (a := 28) (st_M_go) rfl rfl (by decide) hg.1 hg.2 ?_
  refine jG.blk (st_M_go) 4 (pc1 := 264) (L1 := [(0, (2, ((24 : Nat) : Int))), (1, (0, l67)), (5, (0, l68)), (8, (0, l69)), (10, (0, l70))]) (st1 := [(0, l69), (0, l68), (2, ((29 : Nat) : Int))]) (h1 := jup h73 28 s72.toNat s71) rfl ?_
  refine jT.if1 (st_M_go) rfl (tgt := 272) (by decide) (fun hc => ?_) (fun hc => ?_)
  · have hc : ¬ (l69 = 0) := hc
    try rw [if_neg hc] at hv
    refine jG.subp [] (L1 := []) rfl ?_
    exact f_M_go_j272_ok E hv
  · have hc : l69 = 0 := Decidable.not_not.mp hc
    try rw [if_pos hc] at hv
    refine jG.blk (st_M_go) 1 (pc1 := 269) (L1 := [(0, (2, ((24 : Nat) : Int))), (1, (0, l67)), (5, (0, l68)), (8, (0, l69)), (10, (0, l70))]) (st1 := [(0, l70), (0, l68), (2, ((29 : Nat) : Int))]) (h1 := jup h73 28 s72.toNat s71) rfl ?_
    refine jT.if1 (st_M_go) rfl (tgt := 276) (by decide) (fun hc => ?_) (fun hc => ?_)
    · have hc : l70 = 0 := hc
      try rw [if_pos hc] at hv
      refine jG.blk (st_M_go) 3 (pc1 := 281) (L1 := [(0, (2, ((24 : Nat) : Int))), (1, (0, l67)), (5, (0, l68)), (8, (0, l69)), (10, (0, l70))]) (st1 := [(0, l67), (2, ((29 : Nat) : Int)), (0, l68), (2, ((29 : Nat) : Int))]) (h1 := jup h73 28 s72.toNat s71) rfl ?_
      obtain ⟨hg, hv⟩ := jgd_some hv
      refine jT.iald (a := 29) (st_M_go) rfl rfl (by decide) hg.1 hg.2 ?_
      refine jG.blk (st_M_go) 2 (pc1 := 284) (L1 := [(0, (2, ((24 : Nat) : Int))), (1, (0, l67)), (5, (0, l68)), (8, (0, l69)), (10, (0, l70))]) (st1 := [(0, jadd ((jup h73 28 s72.toNat s71) 29 l67.toNat) 1), (0, l68), (2, ((29 : Nat) : Int))]) (h1 := jup h73 28 s72.toNat s71) rfl ?_
      refine jG.subp [] (L1 := []) rfl ?_
      exact f_M_go_j284_ok E hv
    · have hc : ¬ (l70 = 0) := hc
      try rw [if_neg hc] at hv
      refine jG.subp [] (L1 := []) rfl ?_
      exact f_M_go_j272_ok E hv
set_option maxRecDepth 100000 in
set_option maxHeartbeats 4000000 in
theorem f_M_go_j254_ok (E : jE) {h66 : jH} {l61 : Int} {l62 : Int} {l63 : Int} {l64 : Int} {s65 : Int} {res : jH} (hv : f_M_go_j254 h66 l61 l62 l63 l64 s65 = some res) : jG E M_M_go 254 [(0, (2, ((24 : Nat) : Int))), (1, (0, l61)), (5, (0, l62)), (8, (0, l63)), (10, (0, l64))] [(0, s65), (2, ((28 : Nat) : Int))] h66 none res := by
  unfold f_M_go_j254 at hv
  refine jG.blk (st_M_go) 1 (pc1 := 255) (L1 := [(0, (2, ((24 : Nat) : Int))), (1, (0, l61)), (5, (0, l62)), (8, (0, l63)), (10, (0, l64))]) (st1 := [(0, (-1)), (0, s65), (2, ((28 : Nat) : Int))]) (h1 := h66) rfl ?_
  exact f_M_go_j255_ok E hv
set_option maxRecDepth 100000 in
set_option maxHeartbeats 4000000 in
theorem f_M_go_j187_ok (E : jE) {h58 : jH} {l51 : Int} {l52 : Int} {l53 : Int} {l54 : Int} {l55 : Int} {l56 : Int} {l57 : Int} {res : jH} (hv : f_M_go_j187 h58 l51 l52 l53 l54 l55 l56 l57 = some res) : jG E M_M_go 187 [(0, (2, ((24 : Nat) : Int))), (1, (0, l51)), (2, (0, l52)), (3, (0, l53)), (5, (0, l54)), (6, (0, l55)), (8, (0, l56)), (10, (0, l57))] [] h58 none res := by
  unfold f_M_go_j187 at hv
  refine jG.blk (st_M_go) 6 (pc1 := 197) (L1 := [(0, (2, ((24 : Nat) : Int))), (1, (0, l51)), (2, (0, l52)), (3, (0, l53)), (5, (0, l54)), (6, (0, l55)), (8, (0, l56)), (10, (0, l57))]) (st1 := [(0, jsub 1 l55), (0, l54), (2, ((26 : Nat) : Int))]) (h1 := h58) rfl ?_
  obtain ⟨hg, hv⟩ := jgd_some hv
  refine jT.iast (a := 26) (st_M_go) rfl rfl (by decide) hg.1 hg.2 ?_
  refine jG.blk (st_M_go) 6 (pc1 := 209) (L1 := [(0, (2, ((24 : Nat) : Int))), (1, (0, l51)), (2, (0, l52)), (3, (0, l53)), (5, (0, l54)), (6, (0, l55)), (8, (0, l56)), (10, (0, l57))]) (st1 := [(0, l51), (2, ((27 : Nat) : Int)), (0, l54), (2, ((27 : Nat) : Int))]) (h1 := jup h58 26 l54.toNat (jsub 1 l55)) rfl ?_
  obtain ⟨hg, hv⟩ := jgd_some hv
  refine jT.iald (a := 27) (st_M_go) rfl rfl (by decide) hg.1 hg.2 ?_
  refine jG.blk (st_M_go) 1 (pc1 := 211) (L1 := [(0, (2, ((24 : Nat) : Int))), (1, (0, l51)), (2, (0, l52)), (3, (0, l53)), (5, (0, l54)), (6, (0, l55)), (8, (0, l56)), (10, (0, l57))]) (st1 := [(0, l52), (0, (jup h58 26 l54.toNat (jsub 1 l55)) 27 l51.toNat), (0, l54), (2, ((27 : Nat) : Int))]) (h1 := jup h58 26 l54.toNat (jsub 1 l55)) rfl ?_
  obtain ⟨v59, hq, hv⟩ := Option.bind_eq_some_iff.mp hv
  refine jT.cS (M1 := M_M_rightsOf) [(0, l52)] [(0, (jup h58 26 l54.toNat (jsub 1 l55)) 27 l51.toNat), (0, l54), (2, ((27 : Nat) : Int))] (st_M_go) rfl rfl ok_M_rightsOf rfl (Nat.le_of_ble_eq_true rfl) (Nat.le_of_ble_eq_true rfl) rfl (Nat.le_of_ble_eq_true rfl) (C_M_rightsOf hq) ?_
  show jG E _ 214 [(0, (2, ((24 : Nat) : Int))), (1, (0, l51)), (2, (0, l52)), (3, (0, l53)), (5, (0, l54)), (6, (0, l55)), (8, (0, l56)), (10, (0, l57))] [(0, v59), (0, (jup h58 26 l54.toNat (jsub 1 l55)) 27 l51.toNat), (0, l54), (2, ((27 : Nat) : Int))] (jup h58 26 l54.toNat (jsub 1 l55)) _ _
  refine jG.blk (st_M_go) 4 (pc1 := 218) (L1 := [(0, (2, ((24 : Nat) : Int))), (1, (0, l51)), (2, (0, l52)), (3, (0, l53)), (5, (0, l54)), (6, (0, l55)), (8, (0, l56)), (10, (0, l57))]) (st1 := [(0, l53), (0, jand ((jup h58 26 l54.toNat (jsub 1 l55)) 27 l51.toNat) (jxor v59 (-1))), (0, l54), (2, ((27 : Nat) : Int))]) (h1 := jup h58 26 l54.toNat (jsub 1 l55)) rfl ?_
  obtain ⟨v60, hq, hv⟩ := Option.bind_eq_some_iff.mp hv
  refine jT.cS (M1 := M_M_rightsOf) [(0, l53)] [(0, jand ((jup h58 26 l54.toNat (jsub 1 l55)) 27 l51.toNat) (jxor v59 (-1))), (0, l54), (2, ((27 : Nat) : Int))] (st_M_go) rfl rfl ok_M_rightsOf rfl (Nat.le_of_ble_eq_true rfl) (Nat.le_of_ble_eq_true rfl) rfl (Nat.le_of_ble_eq_true rfl) (C_M_rightsOf hq) ?_
  show jG E _ 221 [(0, (2, ((24 : Nat) : Int))), (1, (0, l51)), (2, (0, l52)), (3, (0, l53)), (5, (0, l54)), (6, (0, l55)), (8, (0, l56)), (10, (0, l57))] [(0, v60), (0, jand ((jup h58 26 l54.toNat (jsub 1 l55)) 27 l51.toNat) (jxor v59 (-1))), (0, l54), (2, ((27 : Nat) : Int))] (jup h58 26 l54.toNat (jsub 1 l55)) _ _
  refine jG.blk (st_M_go) 3 (pc1 := 224) (L1 := [(0, (2, ((24 : Nat) : Int))), (1, (0, l51)), (2, (0, l52)), (3, (0, l53)), (5, (0, l54)), (6, (0, l55)), (8, (0, l56)), (10, (0, l57))]) (st1 := [(0, jand (jand ((jup h58 26 l54.toNat (jsub 1 l55)) 27 l51.toNat) (jxor v59 (-1))) (jxor v60 (-1))), (0, l54), (2, ((27 : Nat) : Int))]) (h1 := jup h58 26 l54.toNat (jsub 1 l55)) rfl ?_
  obtain ⟨hg, hv⟩ := jgd_some hv
  refine jT.iast (a := 27) (st_M_go) rfl rfl (by decide) hg.1 hg.2 ?_
  refine jG.blk (st_M_go) 4 (pc1 := 233) (L1 := [(0, (2, ((24 : Nat) : Int))), (1, (0, l51)), (2, (0, l52)), (3, (0, l53)), (5, (0, l54)), (6, (0, l55)), (8, (0, l56)), (10, (0, l57))]) (st1 := [(0, l56), (0, l54), (2, ((28 : Nat) : Int))]) (h1 := jup (jup h58 26 l54.toNat (jsub 1 l55)) 27 l54.toNat (jand (jand ((jup h58 26 l54.toNat (jsub 1 l55)) 27 l51.toNat) (jxor v59 (-1))) (jxor v60 (-1)))) rfl ?_
  refine jT.if1 (st_M_go) rfl (tgt := 254) (by decide) (fun hc => ?_) (fun hc => ?_)
  · have hc : l56 = 0 := hc
    try rw [if_pos hc] at hv
    refine jG.subp [0, 1, 4, 6, 7] (L1 := [(0, (2, ((24 : Nat) : Int))), (1, (0, l51)), (5, (0, l54)), (8, (0, l56)), (10, (0, l57))]) rfl ?_
    exact f_M_go_j254_ok E hv
  · have hc : ¬ (l56 = 0) := hc
    try rw [if_neg hc] at hv
    refine jG.blk (st_M_go) 3 (pc1 := 239) (L1 := [(0, (2, ((24 : Nat) : Int))), (1, (0, l51)), (2, (0, l52)), (3, (0, l53)), (5, (0, l54)), (6, (0, l55)), (8, (0, l56)), (10, (0, l57))]) (st1 := [(0, jsub l53 l52), (0, l54), (2, ((28 : Nat) : Int))]) (h1 := jup (jup h58 26 l54.toNat (jsub 1 l55)) 27 l54.toNat (jand (jand ((jup h58 26 l54.toNat (jsub 1 l55)) 27 l51.toNat) (jxor v59 (-1))) (jxor v60 (-1)))) rfl ?_
    obtain ⟨v79, hq, hv⟩ := Option.bind_eq_some_iff.mp hv
    refine jT.cS (M1 := M_M_size) [(0, jsub l53 l52)] [(0, l54), (2, ((28 : Nat) : Int))] (st_M_go) rfl rfl ok_M_size rfl (Nat.le_of_ble_eq_true rfl) (Nat.le_of_ble_eq_true rfl) rfl (Nat.le_of_ble_eq_true rfl) (C_M_size hq) ?_
    show jG E _ 242 [(0, (2, ((24 : Nat) : Int))), (1, (0, l51)), (2, (0, l52)), (3, (0, l53)), (5, (0, l54)), (6, (0, l55)), (8, (0, l56)), (10, (0, l57))] [(0, v79), (0, l54), (2, ((28 : Nat) : Int))] (jup (jup h58 26 l54.toNat (jsub 1 l55)) 27 l54.toNat (jand (jand ((jup h58 26 l54.toNat (jsub 1 l55)) 27 l51.toNat) (jxor v59 (-1))) (jxor v60 (-1)))) _ _
    refine jG.blk (st_M_go) 1 (pc1 := 244) (L1 := [(0, (2, ((24 : Nat) : Int))), (1, (0, l51)), (2, (0, l52)), (3, (0, l53)), (5, (0, l54)), (6, (0, l55)), (8, (0, l56)), (10, (0, l57))]) (st1 := [(0, 16), (0, v79), (0, l54), (2, ((28 : Nat) : Int))]) (h1 := jup (jup h58 26 l54.toNat (jsub 1 l55)) 27 l54.toNat (jand (jand ((jup h58 26 l54.toNat (jsub 1 l55)) 27 l51.toNat) (jxor v59 (-1))) (jxor v60 (-1)))) rfl ?_
    refine jT.if2 (st_M_go) rfl (tgt := 254) (by decide) (fun hc => ?_) (fun hc => ?_)
    · have hc : ¬ (v79 = 16) := hc
      try rw [if_neg hc] at hv
      refine jG.subp [0, 1, 4, 6, 7] (L1 := [(0, (2, ((24 : Nat) : Int))), (1, (0, l51)), (5, (0, l54)), (8, (0, l56)), (10, (0, l57))]) rfl ?_
      exact f_M_go_j254_ok E hv
    · have hc : v79 = 16 := Decidable.not_not.mp hc
      try rw [if_pos hc] at hv
      refine jG.blk (st_M_go) 3 (pc1 := 251) (L1 := [(0, (2, ((24 : Nat) : Int))), (1, (0, l51)), (2, (0, l52)), (3, (0, l53)), (5, (0, l54)), (6, (0, l55)), (8, (0, l56)), (10, (0, l57))]) (st1 := [(0, jrem l52 8), (0, l54), (2, ((28 : Nat) : Int))]) (h1 := jup (jup h58 26 l54.toNat (jsub 1 l55)) 27 l54.toNat (jand (jand ((jup h58 26 l54.toNat (jsub 1 l55)) 27 l51.toNat) (jxor v59 (-1))) (jxor v60 (-1)))) rfl ?_
      refine jT.goto (st_M_go) rfl (tgt := 255) (by decide) ?_
      refine jG.subp [0, 1, 4, 6, 7] (L1 := [(0, (2, ((24 : Nat) : Int))), (1, (0, l51)), (5, (0, l54)), (8, (0, l56)), (10, (0, l57))]) rfl ?_
      exact f_M_go_j255_ok E hv
set_option maxRecDepth 100000 in
set_option maxHeartbeats 4000000 in
theorem f_M_go_j165_ok (E : jE) {h90 : jH} {l81 : Int} {l82 : Int} {l83 : Int} {l84 : Int} {l85 : Int} {l86 : Int} {l87 : Int} {s88 : Int} {s89 : Int} {res : jH} (hv : f_M_go_j165 h90 l81 l82 l83 l84 l85 l86 l87 s88 s89 = some res) : jG E M_M_go 165 [(0, (2, ((24 : Nat) : Int))), (1, (0, l81)), (2, (0, l82)), (3, (0, l83)), (5, (0, l84)), (6, (0, l85)), (8, (0, l86)), (10, (0, l87))] [(0, s88), (0, s89), (2, ((24 : Nat) : Int))] h90 none res := by
  unfold f_M_go_j165 at hv
  refine jG.blk (st_M_go) 1 (pc1 := 166) (L1 := [(0, (2, ((24 : Nat) : Int))), (1, (0, l81)), (2, (0, l82)), (3, (0, l83)), (5, (0, l84)), (6, (0, l85)), (8, (0, l86)), (10, (0, l87))]) (st1 := [(0, 0), (0, s88), (0, s89), (2, ((24 : Nat) : Int))]) (h1 := h90) rfl ?_
  obtain ⟨v91, hq, hv⟩ := Option.bind_eq_some_iff.mp hv
  refine jT.cV (M1 := M_M_lay) (2, ((24 : Nat) : Int)) [(0, s89), (0, s88), (0, 0)] [] (st_M_go) rfl rfl ok_M_lay rfl (Or.inl ⟨rfl, _, _, _, rfl, rfl⟩) (Nat.le_of_ble_eq_true rfl) (Nat.le_of_ble_eq_true rfl) rfl (Nat.le_of_ble_eq_true rfl) (C_M_lay hq) ?_
  show jG E _ 169 [(0, (2, ((24 : Nat) : Int))), (1, (0, l81)), (2, (0, l82)), (3, (0, l83)), (5, (0, l84)), (6, (0, l85)), (8, (0, l86)), (10, (0, l87))] [] v91 _ _
  refine jG.blk (st_M_go) 12 (pc1 := 184) (L1 := [(0, (2, ((24 : Nat) : Int))), (1, (0, l81)), (2, (0, l82)), (3, (0, l83)), (5, (0, l84)), (6, (0, l85)), (8, (0, l86)), (10, (0, l87))]) (st1 := [(0, jadd 4 (jmul 6 l85)), (0, jdiv (jadd l82 l83) 2), (0, l84), (2, ((24 : Nat) : Int))]) (h1 := v91) rfl ?_
  obtain ⟨v92, hq, hv⟩ := Option.bind_eq_some_iff.mp hv
  refine jT.cV (M1 := M_M_lay) (2, ((24 : Nat) : Int)) [(0, l84), (0, jdiv (jadd l82 l83) 2), (0, jadd 4 (jmul 6 l85))] [] (st_M_go) rfl rfl ok_M_lay rfl (Or.inl ⟨rfl, _, _, _, rfl, rfl⟩) (Nat.le_of_ble_eq_true rfl) (Nat.le_of_ble_eq_true rfl) rfl (Nat.le_of_ble_eq_true rfl) (C_M_lay hq) ?_
  show jG E _ 187 [(0, (2, ((24 : Nat) : Int))), (1, (0, l81)), (2, (0, l82)), (3, (0, l83)), (5, (0, l84)), (6, (0, l85)), (8, (0, l86)), (10, (0, l87))] [] v92 _ _
  exact f_M_go_j187_ok E hv
set_option maxRecDepth 100000 in
set_option maxHeartbeats 4000000 in
theorem f_M_go_j128_ok (E : jE) {h49 : jH} {l41 : Int} {l42 : Int} {l43 : Int} {l44 : Int} {l45 : Int} {l46 : Int} {l47 : Int} {l48 : Int} {res : jH} (hv : f_M_go_j128 h49 l41 l42 l43 l44 l45 l46 l47 l48 = some res) : jG E M_M_go 128 [(0, (2, ((24 : Nat) : Int))), (1, (0, l41)), (2, (0, l42)), (3, (0, l43)), (5, (0, l44)), (6, (0, l45)), (7, (0, l46)), (8, (0, l47)), (10, (0, l48))] [] h49 none res := by
  unfold f_M_go_j128 at hv
  refine jG.blk (st_M_go) 1 (pc1 := 130) (L1 := [(0, (2, ((24 : Nat) : Int))), (1, (0, l41)), (2, (0, l42)), (3, (0, l43)), (5, (0, l44)), (6, (0, l45)), (7, (0, l46)), (8, (0, l47)), (10, (0, l48))]) (st1 := [(0, l46)]) (h1 := h49) rfl ?_
  obtain ⟨v50, hq, hv⟩ := Option.bind_eq_some_iff.mp hv
  refine jT.cS (M1 := M_M_kindOf) [(0, l46)] [] (st_M_go) rfl rfl ok_M_kindOf rfl (Nat.le_of_ble_eq_true rfl) (Nat.le_of_ble_eq_true rfl) rfl (Nat.le_of_ble_eq_true rfl) (C_M_kindOf hq) ?_
  show jG E _ 133 [(0, (2, ((24 : Nat) : Int))), (1, (0, l41)), (2, (0, l42)), (3, (0, l43)), (5, (0, l44)), (6, (0, l45)), (7, (0, l46)), (8, (0, l47)), (10, (0, l48))] [(0, v50)] h49 _ _
  refine jG.blk (st_M_go) 1 (pc1 := 135) (L1 := [(0, (2, ((24 : Nat) : Int))), (1, (0, l41)), (2, (0, l42)), (3, (0, l43)), (5, (0, l44)), (6, (0, l45)), (7, (0, l46)), (8, (0, l47)), (10, (0, l48))]) (st1 := [(0, 6), (0, v50)]) (h1 := h49) rfl ?_
  refine jT.if2 (st_M_go) rfl (tgt := 187) (by decide) (fun hc => ?_) (fun hc => ?_)
  · have hc : ¬ (v50 = 6) := hc
    try rw [if_neg hc] at hv
    refine jG.subp [0, 1, 2, 3, 4, 5, 7, 8] (L1 := [(0, (2, ((24 : Nat) : Int))), (1, (0, l41)), (2, (0, l42)), (3, (0, l43)), (5, (0, l44)), (6, (0, l45)), (8, (0, l47)), (10, (0, l48))]) rfl ?_
    exact f_M_go_j187_ok E hv
  · have hc : v50 = 6 := Decidable.not_not.mp hc
    try rw [if_pos hc] at hv
    refine jG.blk (st_M_go) 3 (pc1 := 141) (L1 := [(0, (2, ((24 : Nat) : Int))), (1, (0, l41)), (2, (0, l42)), (3, (0, l43)), (5, (0, l44)), (6, (0, l45)), (7, (0, l46)), (8, (0, l47)), (10, (0, l48))]) (st1 := [(0, jsub l43 l42)]) (h1 := h49) rfl ?_
    obtain ⟨v80, hq, hv⟩ := Option.bind_eq_some_iff.mp hv
    refine jT.cS (M1 := M_M_size) [(0, jsub l43 l42)] [] (st_M_go) rfl rfl ok_M_size rfl (Nat.le_of_ble_eq_true rfl) (Nat.le_of_ble_eq_true rfl) rfl (Nat.le_of_ble_eq_true rfl) (C_M_size hq) ?_
    show jG E _ 144 [(0, (2, ((24 : Nat) : Int))), (1, (0, l41)), (2, (0, l42)), (3, (0, l43)), (5, (0, l44)), (6, (0, l45)), (7, (0, l46)), (8, (0, l47)), (10, (0, l48))] [(0, v80)] h49 _ _
    refine jG.blk (st_M_go) 1 (pc1 := 145) (L1 := [(0, (2, ((24 : Nat) : Int))), (1, (0, l41)), (2, (0, l42)), (3, (0, l43)), (5, (0, l44)), (6, (0, l45)), (7, (0, l46)), (8, (0, l47)), (10, (0, l48))]) (st1 := [(0, 2), (0, v80)]) (h1 := h49) rfl ?_
    refine jT.if2 (st_M_go) rfl (tgt := 187) (by decide) (fun hc => ?_) (fun hc => ?_)
    · have hc : ¬ (v80 = 2) := hc
      try rw [if_neg hc] at hv
      refine jG.subp [0, 1, 2, 3, 4, 5, 7, 8] (L1 := [(0, (2, ((24 : Nat) : Int))), (1, (0, l41)), (2, (0, l42)), (3, (0, l43)), (5, (0, l44)), (6, (0, l45)), (8, (0, l47)), (10, (0, l48))]) rfl ?_
      exact f_M_go_j187_ok E hv
    · have hc : v80 = 2 := Decidable.not_not.mp hc
      try rw [if_pos hc] at hv
      refine jG.blk (st_M_go) 4 (pc1 := 153) (L1 := [(0, (2, ((24 : Nat) : Int))), (1, (0, l41)), (2, (0, l42)), (3, (0, l43)), (5, (0, l44)), (6, (0, l45)), (7, (0, l46)), (8, (0, l47)), (10, (0, l48))]) (st1 := [(0, l42), (0, l43), (0, l44), (2, ((24 : Nat) : Int))]) (h1 := h49) rfl ?_
      refine jT.if2 (st_M_go) rfl (tgt := 162) (by decide) (fun hc => ?_) (fun hc => ?_)
      · have hc : l43 ≤ l42 := hc
        try rw [if_pos hc] at hv
        refine jG.blk (st_M_go) 3 (pc1 := 165) (L1 := [(0, (2, ((24 : Nat) : Int))), (1, (0, l41)), (2, (0, l42)), (3, (0, l43)), (5, (0, l44)), (6, (0, l45)), (7, (0, l46)), (8, (0, l47)), (10, (0, l48))]) (st1 := [(0, jsub l42 4), (0, l44), (2, ((24 : Nat) : Int))]) (h1 := h49) rfl ?_
        refine jG.subp [0, 1, 2, 3, 4, 5, 7, 8] (L1 := [(0, (2, ((24 : Nat) : Int))), (1, (0, l41)), (2, (0, l42)), (3, (0, l43)), (5, (0, l44)), (6, (0, l45)), (8, (0, l47)), (10, (0, l48))]) rfl ?_
        exact f_M_go_j165_ok E hv
      · have hc : ¬ (l43 ≤ l42) := hc
        try rw [if_neg hc] at hv
        refine jG.blk (st_M_go) 3 (pc1 := 159) (L1 := [(0, (2, ((24 : Nat) : Int))), (1, (0, l41)), (2, (0, l42)), (3, (0, l43)), (5, (0, l44)), (6, (0, l45)), (7, (0, l46)), (8, (0, l47)), (10, (0, l48))]) (st1 := [(0, jadd l42 3), (0, l44), (2, ((24 : Nat) : Int))]) (h1 := h49) rfl ?_
        refine jT.goto (st_M_go) rfl (tgt := 165) (by decide) ?_
        refine jG.subp [0, 1, 2, 3, 4, 5, 7, 8] (L1 := [(0, (2, ((24 : Nat) : Int))), (1, (0, l41)), (2, (0, l42)), (3, (0, l43)), (5, (0, l44)), (6, (0, l45)), (8, (0, l47)), (10, (0, l48))]) rfl ?_
        exact f_M_go_j165_ok E hv
set_option maxRecDepth 100000 in
set_option maxHeartbeats 4000000 in
theorem f_M_go_j101_ok (E : jE) {h39 : jH} {l27 : Int} {l28 : Int} {l29 : Int} {l30 : Int} {l31 : Int} {l32 : Int} {l33 : Int} {l34 : Int} {l35 : Int} {s36 : Int} {s37 : Int} {s38 : Int} {res : jH} (hv : f_M_go_j101 h39 l27 l28 l29 l30 l31 l32 l33 l34 l35 s36 s37 s38 = some res) : jG E M_M_go 101 [(0, (2, ((24 : Nat) : Int))), (1, (0, l27)), (2, (0, l28)), (3, (0, l29)), (5, (0, l30)), (6, (0, l31)), (7, (0, l32)), (8, (0, l33)), (9, (0, l34)), (10, (0, l35))] [(0, s36), (0, s37), (0, s38), (2, ((24 : Nat) : Int))] h39 none res := by
  unfold f_M_go_j101 at hv
  obtain ⟨v40, hq, hv⟩ := Option.bind_eq_some_iff.mp hv
  refine jT.cV (M1 := M_M_lay) (2, ((24 : Nat) : Int)) [(0, s38), (0, s37), (0, s36)] [] (st_M_go) rfl rfl ok_M_lay rfl (Or.inl ⟨rfl, _, _, _, rfl, rfl⟩) (Nat.le_of_ble_eq_true rfl) (Nat.le_of_ble_eq_true rfl) rfl (Nat.le_of_ble_eq_true rfl) (C_M_lay hq) ?_
  show jG E _ 104 [(0, (2, ((24 : Nat) : Int))), (1, (0, l27)), (2, (0, l28)), (3, (0, l29)), (5, (0, l30)), (6, (0, l31)), (7, (0, l32)), (8, (0, l33)), (9, (0, l34)), (10, (0, l35))] [] v40 _ _
  refine jG.blk (st_M_go) 1 (pc1 := 106) (L1 := [(0, (2, ((24 : Nat) : Int))), (1, (0, l27)), (2, (0, l28)), (3, (0, l29)), (5, (0, l30)), (6, (0, l31)), (7, (0, l32)), (8, (0, l33)), (9, (0, l34)), (10, (0, l35))]) (st1 := [(0, l34)]) (h1 := v40) rfl ?_
  refine jT.if1 (st_M_go) rfl (tgt := 128) (by decide) (fun hc => ?_) (fun hc => ?_)
  · have hc : l34 = 0 := hc
    try rw [if_pos hc] at hv
    refine jG.subp [0, 1, 2, 3, 4, 5, 6, 7, 9] (L1 := [(0, (2, ((24 : Nat) : Int))), (1, (0, l27)), (2, (0, l28)), (3, (0, l29)), (5, (0, l30)), (6, (0, l31)), (7, (0, l32)), (8, (0, l33)), (10, (0, l35))]) rfl ?_
    exact f_M_go_j128_ok E hv
  · have hc : ¬ (l34 = 0) := hc
    try rw [if_neg hc] at hv
    refine jG.blk (st_M_go) 12 (pc1 := 125) (L1 := [(0, (2, ((24 : Nat) : Int))), (1, (0, l27)), (2, (0, l28)), (3, (0, l29)), (5, (0, l30)), (6, (0, l31)), (7, (0, l32)), (8, (0, l33)), (9, (0, l34)), (10, (0, l35))]) (st1 := [(0, 0), (0, jadd (jmul (jdiv l28 8) 8) (jrem l29 8)), (0, l30), (2, ((24 : Nat) : Int))]) (h1 := v40) rfl ?_
    obtain ⟨v93, hq, hv⟩ := Option.bind_eq_some_iff.mp hv
    refine jT.cV (M1 := M_M_lay) (2, ((24 : Nat) : Int)) [(0, l30), (0, jadd (jmul (jdiv l28 8) 8) (jrem l29 8)), (0, 0)] [] (st_M_go) rfl rfl ok_M_lay rfl (Or.inl ⟨rfl, _, _, _, rfl, rfl⟩) (Nat.le_of_ble_eq_true rfl) (Nat.le_of_ble_eq_true rfl) rfl (Nat.le_of_ble_eq_true rfl) (C_M_lay hq) ?_
    show jG E _ 128 [(0, (2, ((24 : Nat) : Int))), (1, (0, l27)), (2, (0, l28)), (3, (0, l29)), (5, (0, l30)), (6, (0, l31)), (7, (0, l32)), (8, (0, l33)), (9, (0, l34)), (10, (0, l35))] [] v93 _ _
    refine jG.subp [0, 1, 2, 3, 4, 5, 6, 7, 9] (L1 := [(0, (2, ((24 : Nat) : Int))), (1, (0, l27)), (2, (0, l28)), (3, (0, l29)), (5, (0, l30)), (6, (0, l31)), (7, (0, l32)), (8, (0, l33)), (10, (0, l35))]) rfl ?_
    exact f_M_go_j128_ok E hv
set_option maxRecDepth 100000 in
set_option maxHeartbeats 4000000 in
theorem f_M_go_j67_ok (E : jE) {h25 : jH} {l15 : Int} {l16 : Int} {l17 : Int} {l18 : Int} {l19 : Int} {l20 : Int} {l21 : Int} {l22 : Int} {l23 : Int} {s24 : Int} {res : jH} (hv : f_M_go_j67 h25 l15 l16 l17 l18 l19 l20 l21 l22 l23 s24 = some res) : jG E M_M_go 67 [(0, (2, ((24 : Nat) : Int))), (1, (0, l15)), (2, (0, l16)), (3, (0, l17)), (4, (0, l18)), (5, (0, l19)), (6, (0, l20)), (7, (0, l21)), (8, (0, l22)), (9, (0, l23))] [(0, s24)] h25 none res := by
  unfold f_M_go_j67 at hv
  refine jG.blk (st_M_go) 5 (pc1 := 74) (L1 := [(10, (0, s24)), (0, (2, ((24 : Nat) : Int))), (1, (0, l15)), (2, (0, l16)), (3, (0, l17)), (4, (0, l18)), (5, (0, l19)), (6, (0, l20)), (7, (0, l21)), (8, (0, l22)), (9, (0, l23))]) (st1 := [(0, 0), (0, l16), (0, l19), (2, ((24 : Nat) : Int))]) (h1 := h25) rfl ?_
  obtain ⟨v26, hq, hv⟩ := Option.bind_eq_some_iff.mp hv
  refine jT.cV (M1 := M_M_lay) (2, ((24 : Nat) : Int)) [(0, l19), (0, l16), (0, 0)] [] (st_M_go) rfl rfl ok_M_lay rfl (Or.inl ⟨rfl, _, _, _, rfl, rfl⟩) (Nat.le_of_ble_eq_true rfl) (Nat.le_of_ble_eq_true rfl) rfl (Nat.le_of_ble_eq_true rfl) (C_M_lay hq) ?_
  show jG E _ 77 [(10, (0, s24)), (0, (2, ((24 : Nat) : Int))), (1, (0, l15)), (2, (0, l16)), (3, (0, l17)), (4, (0, l18)), (5, (0, l19)), (6, (0, l20)), (7, (0, l21)), (8, (0, l22)), (9, (0, l23))] [] v26 _ _
  refine jG.blk (st_M_go) 4 (pc1 := 83) (L1 := [(10, (0, s24)), (0, (2, ((24 : Nat) : Int))), (1, (0, l15)), (2, (0, l16)), (3, (0, l17)), (4, (0, l18)), (5, (0, l19)), (6, (0, l20)), (7, (0, l21)), (8, (0, l22)), (9, (0, l23))]) (st1 := [(0, l18), (0, l17), (0, l19), (2, ((24 : Nat) : Int))]) (h1 := v26) rfl ?_
  refine jT.if1 (st_M_go) rfl (tgt := 99) (by decide) (fun hc => ?_) (fun hc => ?_)
  · have hc : l18 ≤ 0 := hc
    try rw [if_pos hc] at hv
    refine jG.blk (st_M_go) 1 (pc1 := 101) (L1 := [(10, (0, s24)), (0, (2, ((24 : Nat) : Int))), (1, (0, l15)), (2, (0, l16)), (3, (0, l17)), (4, (0, l18)), (5, (0, l19)), (6, (0, l20)), (7, (0, l21)), (8, (0, l22)), (9, (0, l23))]) (st1 := [(0, l21), (0, l17), (0, l19), (2, ((24 : Nat) : Int))]) (h1 := v26) rfl ?_
    refine jG.subp [1, 2, 3, 4, 6, 7, 8, 9, 10, 0] (L1 := [(0, (2, ((24 : Nat) : Int))), (1, (0, l15)), (2, (0, l16)), (3, (0, l17)), (5, (0, l19)), (6, (0, l20)), (7, (0, l21)), (8, (0, l22)), (9, (0, l23)), (10, (0, s24))]) rfl ?_
    exact f_M_go_j101_ok E hv
  · have hc : ¬ (l18 ≤ 0) := hc
    try rw [if_neg hc] at hv
    refine jG.blk (st_M_go) 7 (pc1 := 96) (L1 := [(10, (0, s24)), (0, (2, ((24 : Nat) : Int))), (1, (0, l15)), (2, (0, l16)), (3, (0, l17)), (4, (0, l18)), (5, (0, l19)), (6, (0, l20)), (7, (0, l21)), (8, (0, l22)), (9, (0, l23))]) (st1 := [(0, jadd (jadd l18 1) (jmul 6 l20)), (0, l17), (0, l19), (2, ((24 : Nat) : Int))]) (h1 := v26) rfl ?_
    refine jT.goto (st_M_go) rfl (tgt := 101) (by decide) ?_
    refine jG.subp [1, 2, 3, 4, 6, 7, 8, 9, 10, 0] (L1 := [(0, (2, ((24 : Nat) : Int))), (1, (0, l15)), (2, (0, l16)), (3, (0, l17)), (5, (0, l19)), (6, (0, l20)), (7, (0, l21)), (8, (0, l22)), (9, (0, l23)), (10, (0, s24))]) rfl ?_
    exact f_M_go_j101_ok E hv
set_option maxRecDepth 100000 in
set_option maxHeartbeats 4000000 in
theorem f_M_go_j42_ok (E : jE) {h12 : jH} {l4 : Int} {l5 : Int} {l6 : Int} {l7 : Int} {l8 : Int} {l9 : Int} {l10 : Int} {s11 : Int} {res : jH} (hv : f_M_go_j42 h12 l4 l5 l6 l7 l8 l9 l10 s11 = some res) : jG E M_M_go 42 [(0, (2, ((24 : Nat) : Int))), (1, (0, l4)), (2, (0, l5)), (3, (0, l6)), (4, (0, l7)), (5, (0, l8)), (6, (0, l9)), (7, (0, l10))] [(0, s11)] h12 none res := by
  unfold f_M_go_j42 at hv
  refine jG.blk (st_M_go) 5 (pc1 := 48) (L1 := [(8, (0, s11)), (0, (2, ((24 : Nat) : Int))), (1, (0, l4)), (2, (0, l5)), (3, (0, l6)), (4, (0, l7)), (5, (0, l8)), (6, (0, l9)), (7, (0, l10))]) (st1 := [(0, l6), (0, l5), (0, l4), (2, ((24 : Nat) : Int))]) (h1 := h12) rfl ?_
  obtain ⟨v13, hq, hv⟩ := Option.bind_eq_some_iff.mp hv
  refine jT.cV (M1 := M_M_isBehind) (2, ((24 : Nat) : Int)) [(0, l4), (0, l5), (0, l6)] [] (st_M_go) rfl rfl ok_M_isBehind rfl (Or.inl ⟨rfl, _, _, _, rfl, rfl⟩) (Nat.le_of_ble_eq_true rfl) (Nat.le_of_ble_eq_true rfl) rfl (Nat.le_of_ble_eq_true rfl) (C_M_isBehind hq) ?_
  show jG E _ 51 [(8, (0, s11)), (0, (2, ((24 : Nat) : Int))), (1, (0, l4)), (2, (0, l5)), (3, (0, l6)), (4, (0, l7)), (5, (0, l8)), (6, (0, l9)), (7, (0, l10))] [(0, v13)] h12 _ _
  refine jG.blk (st_M_go) 4 (pc1 := 56) (L1 := [(9, (0, v13)), (8, (0, s11)), (0, (2, ((24 : Nat) : Int))), (1, (0, l4)), (2, (0, l5)), (3, (0, l6)), (4, (0, l7)), (5, (0, l8)), (6, (0, l9)), (7, (0, l10))]) (st1 := [(0, l6), (0, l4), (2, ((24 : Nat) : Int))]) (h1 := h12) rfl ?_
  obtain ⟨v14, hq, hv⟩ := Option.bind_eq_some_iff.mp hv
  refine jT.cV (M1 := M_M_piece) (2, ((24 : Nat) : Int)) [(0, l4), (0, l6)] [] (st_M_go) rfl rfl ok_M_piece rfl (Or.inl ⟨rfl, _, _, _, rfl, rfl⟩) (Nat.le_of_ble_eq_true rfl) (Nat.le_of_ble_eq_true rfl) rfl (Nat.le_of_ble_eq_true rfl) (C_M_piece hq) ?_
  show jG E _ 59 [(9, (0, v13)), (8, (0, s11)), (0, (2, ((24 : Nat) : Int))), (1, (0, l4)), (2, (0, l5)), (3, (0, l6)), (4, (0, l7)), (5, (0, l8)), (6, (0, l9)), (7, (0, l10))] [(0, v14)] h12 _ _
  refine jT.if1 (st_M_go) rfl (tgt := 66) (by decide) (fun hc => ?_) (fun hc => ?_)
  · have hc : v14 = 0 := hc
    try rw [if_pos hc] at hv
    refine jG.blk (st_M_go) 1 (pc1 := 67) (L1 := [(9, (0, v13)), (8, (0, s11)), (0, (2, ((24 : Nat) : Int))), (1, (0, l4)), (2, (0, l5)), (3, (0, l6)), (4, (0, l7)), (5, (0, l8)), (6, (0, l9)), (7, (0, l10))]) (st1 := [(0, 0)]) (h1 := h12) rfl ?_
    refine jG.subp [2, 3, 4, 5, 6, 7, 8, 9, 1, 0] (L1 := [(0, (2, ((24 : Nat) : Int))), (1, (0, l4)), (2, (0, l5)), (3, (0, l6)), (4, (0, l7)), (5, (0, l8)), (6, (0, l9)), (7, (0, l10)), (8, (0, s11)), (9, (0, v13))]) rfl ?_
    exact f_M_go_j67_ok E hv
  · have hc : ¬ (v14 = 0) := hc
    try rw [if_neg hc] at hv
    refine jG.blk (st_M_go) 1 (pc1 := 63) (L1 := [(9, (0, v13)), (8, (0, s11)), (0, (2, ((24 : Nat) : Int))), (1, (0, l4)), (2, (0, l5)), (3, (0, l6)), (4, (0, l7)), (5, (0, l8)), (6, (0, l9)), (7, (0, l10))]) (st1 := [(0, 1)]) (h1 := h12) rfl ?_
    refine jT.goto (st_M_go) rfl (tgt := 67) (by decide) ?_
    refine jG.subp [2, 3, 4, 5, 6, 7, 8, 9, 1, 0] (L1 := [(0, (2, ((24 : Nat) : Int))), (1, (0, l4)), (2, (0, l5)), (3, (0, l6)), (4, (0, l7)), (5, (0, l8)), (6, (0, l9)), (7, (0, l10)), (8, (0, s11)), (9, (0, v13))]) rfl ?_
    exact f_M_go_j67_ok E hv
set_option maxRecDepth 100000 in
set_option maxHeartbeats 4000000 in
theorem C_M_go {E : jE} {h : jH} {a1 : Int} {a2 : Int} {a3 : Int} {a4 : Int} {res : jH} (hv : f_M_go h a1 a2 a3 a4 = some res) : jC E M_M_go [(2, ((24 : Nat) : Int)), (0, a1), (0, a2), (0, a3), (0, a4)] h none res := by
  refine jC.of ok_M_go.1 (by rw [jlg]; exact Nat.le_of_ble_eq_true rfl) ?_
  show jG E _ 0 [(0, (2, ((24 : Nat) : Int))), (1, (0, a1)), (2, (0, a2)), (3, (0, a3)), (4, (0, a4))] [] h _ _
  unfold f_M_go at hv
  refine jG.blk (st_M_go) 7 (pc1 := 9) (L1 := [(5, (0, jadd a1 1)), (0, (2, ((24 : Nat) : Int))), (1, (0, a1)), (2, (0, a2)), (3, (0, a3)), (4, (0, a4))]) (st1 := [(0, jadd a1 1), (0, a1), (2, ((24 : Nat) : Int))]) (h1 := h) rfl ?_
  obtain ⟨v1, hq, hv⟩ := Option.bind_eq_some_iff.mp hv
  refine jT.cV (M1 := M_M_copy) (2, ((24 : Nat) : Int)) [(0, a1), (0, jadd a1 1)] [] (st_M_go) rfl rfl ok_M_copy rfl (Or.inl ⟨rfl, _, _, _, rfl, rfl⟩) (Nat.le_of_ble_eq_true rfl) (Nat.le_of_ble_eq_true rfl) rfl (Nat.le_of_ble_eq_true rfl) (C_M_copy hq) ?_
  show jG E _ 12 [(5, (0, jadd a1 1)), (0, (2, ((24 : Nat) : Int))), (1, (0, a1)), (2, (0, a2)), (3, (0, a3)), (4, (0, a4))] [] v1 _ _
  refine jG.blk (st_M_go) 3 (pc1 := 17) (L1 := [(5, (0, jadd a1 1)), (0, (2, ((24 : Nat) : Int))), (1, (0, a1)), (2, (0, a2)), (3, (0, a3)), (4, (0, a4))]) (st1 := [(0, a1), (2, ((26 : Nat) : Int))]) (h1 := v1) rfl ?_
  obtain ⟨hg, hv⟩ := jgd_some hv
  refine jT.iald (a := 26) (st_M_go) rfl rfl (by decide) hg.1 hg.2 ?_
  refine jG.blk (st_M_go) 4 (pc1 := 23) (L1 := [(6, (0, v1 26 a1.toNat)), (5, (0, jadd a1 1)), (0, (2, ((24 : Nat) : Int))), (1, (0, a1)), (2, (0, a2)), (3, (0, a3)), (4, (0, a4))]) (st1 := [(0, a2), (0, a1), (2, ((24 : Nat) : Int))]) (h1 := v1) rfl ?_
  obtain ⟨v2, hq, hv⟩ := Option.bind_eq_some_iff.mp hv
  refine jT.cV (M1 := M_M_piece) (2, ((24 : Nat) : Int)) [(0, a1), (0, a2)] [] (st_M_go) rfl rfl ok_M_piece rfl (Or.inl ⟨rfl, _, _, _, rfl, rfl⟩) (Nat.le_of_ble_eq_true rfl) (Nat.le_of_ble_eq_true rfl) rfl (Nat.le_of_ble_eq_true rfl) (C_M_piece hq) ?_
  show jG E _ 26 [(6, (0, v1 26 a1.toNat)), (5, (0, jadd a1 1)), (0, (2, ((24 : Nat) : Int))), (1, (0, a1)), (2, (0, a2)), (3, (0, a3)), (4, (0, a4))] [(0, v2)] v1 _ _
  refine jG.blk (st_M_go) 2 (pc1 := 30) (L1 := [(7, (0, v2)), (6, (0, v1 26 a1.toNat)), (5, (0, jadd a1 1)), (0, (2, ((24 : Nat) : Int))), (1, (0, a1)), (2, (0, a2)), (3, (0, a3)), (4, (0, a4))]) (st1 := [(0, v2)]) (h1 := v1) rfl ?_
  obtain ⟨v3, hq, hv⟩ := Option.bind_eq_some_iff.mp hv
  refine jT.cS (M1 := M_M_kindOf) [(0, v2)] [] (st_M_go) rfl rfl ok_M_kindOf rfl (Nat.le_of_ble_eq_true rfl) (Nat.le_of_ble_eq_true rfl) rfl (Nat.le_of_ble_eq_true rfl) (C_M_kindOf hq) ?_
  show jG E _ 33 [(7, (0, v2)), (6, (0, v1 26 a1.toNat)), (5, (0, jadd a1 1)), (0, (2, ((24 : Nat) : Int))), (1, (0, a1)), (2, (0, a2)), (3, (0, a3)), (4, (0, a4))] [(0, v3)] v1 _ _
  refine jG.blk (st_M_go) 1 (pc1 := 34) (L1 := [(7, (0, v2)), (6, (0, v1 26 a1.toNat)), (5, (0, jadd a1 1)), (0, (2, ((24 : Nat) : Int))), (1, (0, a1)), (2, (0, a2)), (3, (0, a3)), (4, (0, a4))]) (st1 := [(0, 1), (0, v3)]) (h1 := v1) rfl ?_
  refine jT.if2 (st_M_go) rfl (tgt := 41) (by decide) (fun hc => ?_) (fun hc => ?_)
  · have hc : ¬ (v3 = 1) := hc
    try rw [if_neg hc] at hv
    refine jG.blk (st_M_go) 1 (pc1 := 42) (L1 := [(7, (0, v2)), (6, (0, v1 26 a1.toNat)), (5, (0, jadd a1 1)), (0, (2, ((24 : Nat) : Int))), (1, (0, a1)), (2, (0, a2)), (3, (0, a3)), (4, (0, a4))]) (st1 := [(0, 0)]) (h1 := v1) rfl ?_
    refine jG.subp [3, 4, 5, 6, 7, 2, 1, 0] (L1 := [(0, (2, ((24 : Nat) : Int))), (1, (0, a1)), (2, (0, a2)), (3, (0, a3)), (4, (0, a4)), (5, (0, jadd a1 1)), (6, (0, v1 26 a1.toNat)), (7, (0, v2))]) rfl ?_
    exact f_M_go_j42_ok E hv
  · have hc : v3 = 1 := Decidable.not_not.mp hc
    try rw [if_pos hc] at hv
    refine jG.blk (st_M_go) 1 (pc1 := 38) (L1 := [(7, (0, v2)), (6, (0, v1 26 a1.toNat)), (5, (0, jadd a1 1)), (0, (2, ((24 : Nat) : Int))), (1, (0, a1)), (2, (0, a2)), (3, (0, a3)), (4, (0, a4))]) (st1 := [(0, 1)]) (h1 := v1) rfl ?_
    refine jT.goto (st_M_go) rfl (tgt := 42) (by decide) ?_
    refine jG.subp [3, 4, 5, 6, 7, 2, 1, 0] (L1 := [(0, (2, ((24 : Nat) : Int))), (1, (0, a1)), (2, (0, a2)), (3, (0, a3)), (4, (0, a4)), (5, (0, jadd a1 1)), (6, (0, v1 26 a1.toNat)), (7, (0, v2))]) rfl ?_
    exact f_M_go_j42_ok E hv
def f_M_make_j65 (h5 : jH) (l3 : Int) (s4 : Int) : Option (Int × jH) := if s4 = 0 then some (0, h5) else (f_M_go h5 (h5 24 7) (jrem l3 64) (jrem (jdiv l3 64) 64) (jdiv l3 4096)).bind fun v6 => (f_M_findTakers (jup v6 24 7 (jadd (v6 24 7) 1)) ((jup v6 24 7 (jadd (v6 24 7) 1)) 24 7)).bind fun v7 => some (1, v7)
def f_M_make_j64 (h2 : jH) (l1 : Int) : Option (Int × jH) := f_M_make_j65 h2 l1 0
def f_M_make (h : jH) (a1 : Int) : Option (Int × jH) := if (jup h 24 0 0) 24 8 = 0 then f_M_make_j64 (jup h 24 0 0) a1 else if 300 ≤ (jup h 24 0 0) 24 7 then f_M_make_j64 (jup h 24 0 0) a1 else if a1 < 0 then f_M_make_j64 (jup h 24 0 0) a1 else if 20480 ≤ a1 then f_M_make_j64 (jup h 24 0 0) a1 else (f_M_isLegal (jup h 24 0 0) ((jup h 24 0 0) 24 7) (jrem a1 64) (jrem (jdiv a1 64) 64) (jdiv a1 4096)).bind fun v8 => if v8.1 = 0 then f_M_make_j64 v8.2 a1 else f_M_make_j65 v8.2 a1 1
set_option maxRecDepth 100000 in
set_option maxHeartbeats 4000000 in
theorem f_M_make_j65_ok (E : jE) {h5 : jH} {l3 : Int} {s4 : Int} {res : Int × jH} (hv : f_M_make_j65 h5 l3 s4 = some res) : jG E M_M_make 65 [(0, (2, ((24 : Nat) : Int))), (1, (0, l3))] [(0, s4)] h5 (some (0, res.1)) res.2 := by
  unfold f_M_make_j65 at hv
  refine jG.blk (st_M_make) 2 (pc1 := 67) (L1 := [(2, (0, s4)), (0, (2, ((24 : Nat) : Int))), (1, (0, l3))]) (st1 := [(0, s4)]) (h1 := h5) rfl ?_
  refine jT.if1 (st_M_make) rfl (tgt := 72) (by decide) (fun hc => ?_) (fun hc => ?_)
  · have hc : ¬ (s4 = 0) := hc
    try rw [if_neg hc] at hv
    refine jG.blk (st_M_make) 14 (pc1 := 93) (L1 := [(2, (0, s4)), (0, (2, ((24 : Nat) : Int))), (1, (0, l3))]) (st1 := [(0, jdiv l3 4096), (0, jrem (jdiv l3 64) 64), (0, jrem l3 64), (0, h5 24 7), (2, ((24 : Nat) : Int))]) (h1 := h5) rfl ?_
    obtain ⟨v6, hq, hv⟩ := Option.bind_eq_some_iff.mp hv
    refine jT.cV (M1 := M_M_go) (2, ((24 : Nat) : Int)) [(0, h5 24 7), (0, jrem l3 64), (0, jrem (jdiv l3 64) 64), (0, jdiv l3 4096)] [] (st_M_make) rfl rfl ok_M_go rfl (Or.inl ⟨rfl, _, _, _, rfl, rfl⟩) (Nat.le_of_ble_eq_true rfl) (Nat.le_of_ble_eq_true rfl) rfl (Nat.le_of_ble_eq_true rfl) (C_M_go hq) ?_
    show jG E _ 96 [(2, (0, s4)), (0, (2, ((24 : Nat) : Int))), (1, (0, l3))] [] v6 _ _
    refine jG.blk (st_M_make) 9 (pc1 := 111) (L1 := [(2, (0, s4)), (0, (2, ((24 : Nat) : Int))), (1, (0, l3))]) (st1 := [(0, (jup v6 24 7 (jadd (v6 24 7) 1)) 24 7), (2, ((24 : Nat) : Int))]) (h1 := jup v6 24 7 (jadd (v6 24 7) 1)) rfl ?_
    obtain ⟨v7, hq, hv⟩ := Option.bind_eq_some_iff.mp hv
    refine jT.cV (M1 := M_M_findTakers) (2, ((24 : Nat) : Int)) [(0, (jup v6 24 7 (jadd (v6 24 7) 1)) 24 7)] [] (st_M_make) rfl rfl ok_M_findTakers rfl (Or.inl ⟨rfl, _, _, _, rfl, rfl⟩) (Nat.le_of_ble_eq_true rfl) (Nat.le_of_ble_eq_true rfl) rfl (Nat.le_of_ble_eq_true rfl) (C_M_findTakers hq) ?_
    show jG E _ 114 [(2, (0, s4)), (0, (2, ((24 : Nat) : Int))), (1, (0, l3))] [] v7 _ _
    refine jG.blk (st_M_make) 1 (pc1 := 115) (L1 := [(2, (0, s4)), (0, (2, ((24 : Nat) : Int))), (1, (0, l3))]) (st1 := [(0, 1)]) (h1 := v7) rfl ?_
    cases hv
    exact jT.iret (st_M_make) rfl trivial
  · have hc : s4 = 0 := Decidable.not_not.mp hc
    try rw [if_pos hc] at hv
    refine jG.blk (st_M_make) 1 (pc1 := 71) (L1 := [(2, (0, s4)), (0, (2, ((24 : Nat) : Int))), (1, (0, l3))]) (st1 := [(0, 0)]) (h1 := h5) rfl ?_
    cases hv
    exact jT.iret (st_M_make) rfl trivial
set_option maxRecDepth 100000 in
set_option maxHeartbeats 4000000 in
theorem f_M_make_j64_ok (E : jE) {h2 : jH} {l1 : Int} {res : Int × jH} (hv : f_M_make_j64 h2 l1 = some res) : jG E M_M_make 64 [(0, (2, ((24 : Nat) : Int))), (1, (0, l1))] [] h2 (some (0, res.1)) res.2 := by
  unfold f_M_make_j64 at hv
  refine jG.blk (st_M_make) 1 (pc1 := 65) (L1 := [(0, (2, ((24 : Nat) : Int))), (1, (0, l1))]) (st1 := [(0, 0)]) (h1 := h2) rfl ?_
  exact f_M_make_j65_ok E hv
set_option maxRecDepth 100000 in
set_option maxHeartbeats 4000000 in
theorem C_M_make {E : jE} {h : jH} {a1 : Int} {res : Int × jH} (hv : f_M_make h a1 = some res) : jC E M_M_make [(2, ((24 : Nat) : Int)), (0, a1)] h (some (0, res.1)) res.2 := by
  refine jC.of ok_M_make.1 (by rw [jlg]; exact Nat.le_of_ble_eq_true rfl) ?_
  show jG E _ 0 [(0, (2, ((24 : Nat) : Int))), (1, (0, a1))] [] h _ _
  unfold f_M_make at hv
  refine jG.blk (st_M_make) 5 (pc1 := 9) (L1 := [(0, (2, ((24 : Nat) : Int))), (1, (0, a1))]) (st1 := [(0, (jup h 24 0 0) 24 8)]) (h1 := jup h 24 0 0) rfl ?_
  refine jT.if1 (st_M_make) rfl (tgt := 64) (by decide) (fun hc => ?_) (fun hc => ?_)
  · have hc : (jup h 24 0 0) 24 8 = 0 := hc
    try rw [if_pos hc] at hv
    exact f_M_make_j64_ok E hv
  · have hc : ¬ ((jup h 24 0 0) 24 8 = 0) := hc
    try rw [if_neg hc] at hv
    refine jG.blk (st_M_make) 3 (pc1 := 19) (L1 := [(0, (2, ((24 : Nat) : Int))), (1, (0, a1))]) (st1 := [(0, 300), (0, (jup h 24 0 0) 24 7)]) (h1 := jup h 24 0 0) rfl ?_
    refine jT.if2 (st_M_make) rfl (tgt := 64) (by decide) (fun hc => ?_) (fun hc => ?_)
    · have hc : 300 ≤ (jup h 24 0 0) 24 7 := hc
      try rw [if_pos hc] at hv
      exact f_M_make_j64_ok E hv
    · have hc : ¬ (300 ≤ (jup h 24 0 0) 24 7) := hc
      try rw [if_neg hc] at hv
      refine jG.blk (st_M_make) 1 (pc1 := 23) (L1 := [(0, (2, ((24 : Nat) : Int))), (1, (0, a1))]) (st1 := [(0, a1)]) (h1 := jup h 24 0 0) rfl ?_
      refine jT.if1 (st_M_make) rfl (tgt := 64) (by decide) (fun hc => ?_) (fun hc => ?_)
      · have hc : a1 < 0 := hc
        try rw [if_pos hc] at hv
        exact f_M_make_j64_ok E hv
      · have hc : ¬ (a1 < 0) := hc
        try rw [if_neg hc] at hv
        refine jG.blk (st_M_make) 2 (pc1 := 30) (L1 := [(0, (2, ((24 : Nat) : Int))), (1, (0, a1))]) (st1 := [(0, 20480), (0, a1)]) (h1 := jup h 24 0 0) rfl ?_
        refine jT.if2 (st_M_make) rfl (tgt := 64) (by decide) (fun hc => ?_) (fun hc => ?_)
        · have hc : 20480 ≤ a1 := hc
          try rw [if_pos hc] at hv
          exact f_M_make_j64_ok E hv
        · have hc : ¬ (20480 ≤ a1) := hc
          try rw [if_neg hc] at hv
          refine jG.blk (st_M_make) 14 (pc1 := 54) (L1 := [(0, (2, ((24 : Nat) : Int))), (1, (0, a1))]) (st1 := [(0, jdiv a1 4096), (0, jrem (jdiv a1 64) 64), (0, jrem a1 64), (0, (jup h 24 0 0) 24 7), (2, ((24 : Nat) : Int))]) (h1 := jup h 24 0 0) rfl ?_
          obtain ⟨v8, hq, hv⟩ := Option.bind_eq_some_iff.mp hv
          refine jT.cV (M1 := M_M_isLegal) (2, ((24 : Nat) : Int)) [(0, (jup h 24 0 0) 24 7), (0, jrem a1 64), (0, jrem (jdiv a1 64) 64), (0, jdiv a1 4096)] [] (st_M_make) rfl rfl ok_M_isLegal rfl (Or.inl ⟨rfl, _, _, _, rfl, rfl⟩) (Nat.le_of_ble_eq_true rfl) (Nat.le_of_ble_eq_true rfl) rfl (Nat.le_of_ble_eq_true rfl) (C_M_isLegal hq) ?_
          show jG E _ 57 [(0, (2, ((24 : Nat) : Int))), (1, (0, a1))] [(0, v8.1)] v8.2 _ _
          refine jT.if1 (st_M_make) rfl (tgt := 64) (by decide) (fun hc => ?_) (fun hc => ?_)
          · have hc : v8.1 = 0 := hc
            try rw [if_pos hc] at hv
            exact f_M_make_j64_ok E hv
          · have hc : ¬ (v8.1 = 0) := hc
            try rw [if_neg hc] at hv
            refine jG.blk (st_M_make) 1 (pc1 := 61) (L1 := [(0, (2, ((24 : Nat) : Int))), (1, (0, a1))]) (st1 := [(0, 1)]) (h1 := v8.2) rfl ?_
            refine jT.goto (st_M_make) rfl (tgt := 65) (by decide) ?_
            exact f_M_make_j65_ok E hv
def f_M_back (h : jH) : Option (Int × jH) := some (if (jup h 24 0 0) 24 8 = 0 then (0, jup h 24 0 0) else if (jup h 24 0 0) 24 7 = 0 then (0, jup h 24 0 0) else (1, jup (jup h 24 0 0) 24 7 (jsub ((jup h 24 0 0) 24 7) 1)))
set_option maxRecDepth 100000 in
set_option maxHeartbeats 4000000 in
theorem C_M_back {E : jE} {h : jH} {res : Int × jH} (hv : f_M_back h = some res) : jC E M_M_back [(2, ((24 : Nat) : Int))] h (some (0, res.1)) res.2 := by
  refine jC.of ok_M_back.1 (by rw [jlg]; exact Nat.le_of_ble_eq_true rfl) ?_
  show jG E _ 0 [(0, (2, ((24 : Nat) : Int)))] [] h _ _
  unfold f_M_back at hv
  refine jG.blk (st_M_back) 5 (pc1 := 9) (L1 := [(0, (2, ((24 : Nat) : Int)))]) (st1 := [(0, (jup h 24 0 0) 24 8)]) (h1 := jup h 24 0 0) rfl ?_
  refine jT.if1 (st_M_back) rfl (tgt := 19) (by decide) (fun hc => ?_) (fun hc => ?_)
  · have hc : (jup h 24 0 0) 24 8 = 0 := hc
    try rw [if_pos hc] at hv
    refine jG.blk (st_M_back) 1 (pc1 := 20) (L1 := [(0, (2, ((24 : Nat) : Int)))]) (st1 := [(0, 0)]) (h1 := jup h 24 0 0) rfl ?_
    cases hv
    exact jT.iret (st_M_back) rfl trivial
  · have hc : ¬ ((jup h 24 0 0) 24 8 = 0) := hc
    try rw [if_neg hc] at hv
    refine jG.blk (st_M_back) 2 (pc1 := 16) (L1 := [(0, (2, ((24 : Nat) : Int)))]) (st1 := [(0, (jup h 24 0 0) 24 7)]) (h1 := jup h 24 0 0) rfl ?_
    refine jT.if1 (st_M_back) rfl (tgt := 21) (by decide) (fun hc => ?_) (fun hc => ?_)
    · have hc : ¬ ((jup h 24 0 0) 24 7 = 0) := hc
      try rw [if_neg hc] at hv
      refine jG.blk (st_M_back) 7 (pc1 := 32) (L1 := [(0, (2, ((24 : Nat) : Int)))]) (st1 := [(0, 1)]) (h1 := jup (jup h 24 0 0) 24 7 (jsub ((jup h 24 0 0) 24 7) 1)) rfl ?_
      cases hv
      exact jT.iret (st_M_back) rfl trivial
    · have hc : (jup h 24 0 0) 24 7 = 0 := Decidable.not_not.mp hc
      try rw [if_pos hc] at hv
      refine jG.blk (st_M_back) 1 (pc1 := 20) (L1 := [(0, (2, ((24 : Nat) : Int)))]) (st1 := [(0, 0)]) (h1 := jup h 24 0 0) rfl ?_
      cases hv
      exact jT.iret (st_M_back) rfl trivial
def f_M_attackersOf_lp6 (h : jH) (x3 : Int) (x4 : Int) (x5 : Int) (k : Int → Int → Option (Int)) : Nat → Int → Int → Option (Int)
  | 0, _, _ => none
  | n + 1, l1, l2 => if 64 ≤ l2 then k l1 l2 else (f_M_isOf h x3 l2 x5).bind fun v6 => if v6 = 0 then f_M_attackersOf_lp6 h x3 x4 x5 k n l1 (jadd l2 1) else (f_M_doesAttack h x3 l2 x4).bind fun v7 => f_M_attackersOf_lp6 h x3 x4 x5 k n (if v7 = 0 then l1 else jlor l1 (jlshl 1 l2)) (jadd l2 1)
def f_M_attackersOf (h : jH) (a1 : Int) (a2 : Int) (a3 : Int) : Option (Int) := f_M_attackersOf_lp6 h a1 a2 a3 (fun l8 l9 => some l8) 1000 0 0
set_option maxRecDepth 100000 in
set_option maxHeartbeats 4000000 in
theorem f_M_attackersOf_lp6_ok (E : jE) {h : jH} {x3 : Int} {x4 : Int} {x5 : Int} {k : Int → Int → Option (Int)} (hk : ∀ (l1 : Int) (l2 : Int) (res : Int), k l1 l2 = some res → jG E M_M_attackersOf 55 [(4, (1, l1))] [] h (some (1, res)) h) : ∀ (n : Nat) (l1 : Int) (l2 : Int) (res : Int), f_M_attackersOf_lp6 h x3 x4 x5 k n l1 l2 = some res → jG E M_M_attackersOf 6 [(0, (2, ((24 : Nat) : Int))), (1, (0, x3)), (2, (0, x4)), (3, (0, x5)), (4, (1, l1)), (6, (0, l2))] [] h (some (1, res)) h := by
  intro n
  induction n with
  | zero => intro l1 l2 res hv; cases hv
  | succ n ih =>
    intro l1 l2 res hv
    rw [f_M_attackersOf_lp6] at hv
    refine jG.blk (st_M_attackersOf) 2 (pc1 := 10) (L1 := [(0, (2, ((24 : Nat) : Int))), (1, (0, x3)), (2, (0, x4)), (3, (0, x5)), (4, (1, l1)), (6, (0, l2))]) (st1 := [(0, 64), (0, l2)]) (h1 := h) rfl ?_
    refine jT.if2 (st_M_attackersOf) rfl (tgt := 55) (by decide) (fun hc => ?_) (fun hc => ?_)
    · have hc : 64 ≤ l2 := hc
      try rw [if_pos hc] at hv
      refine jG.subp [4] (L1 := [(4, (1, l1))]) rfl ?_
      exact hk _ _ _ hv
    · have hc : ¬ (64 ≤ l2) := hc
      try rw [if_neg hc] at hv
      refine jG.blk (st_M_attackersOf) 4 (pc1 := 18) (L1 := [(0, (2, ((24 : Nat) : Int))), (1, (0, x3)), (2, (0, x4)), (3, (0, x5)), (4, (1, l1)), (6, (0, l2))]) (st1 := [(0, x5), (0, l2), (0, x3), (2, ((24 : Nat) : Int))]) (h1 := h) rfl ?_
      obtain ⟨v6, hq, hv⟩ := Option.bind_eq_some_iff.mp hv
      refine jT.cV (M1 := M_M_isOf) (2, ((24 : Nat) : Int)) [(0, x3), (0, l2), (0, x5)] [] (st_M_attackersOf) rfl rfl ok_M_isOf rfl (Or.inl ⟨rfl, _, _, _, rfl, rfl⟩) (Nat.le_of_ble_eq_true rfl) (Nat.le_of_ble_eq_true rfl) rfl (Nat.le_of_ble_eq_true rfl) (C_M_isOf hq) ?_
      show jG E _ 21 [(0, (2, ((24 : Nat) : Int))), (1, (0, x3)), (2, (0, x4)), (3, (0, x5)), (4, (1, l1)), (6, (0, l2))] [(0, v6)] h _ _
      refine jT.if1 (st_M_attackersOf) rfl (tgt := 45) (by decide) (fun hc => ?_) (fun hc => ?_)
      · have hc : v6 = 0 := hc
        try rw [if_pos hc] at hv
        refine jG.blk (st_M_attackersOf) 3 (pc1 := 52) (L1 := [(6, (0, jadd l2 1)), (4, (1, l1)), (0, (2, ((24 : Nat) : Int))), (1, (0, x3)), (2, (0, x4)), (3, (0, x5))]) (st1 := []) (h1 := h) rfl ?_
        refine jT.goto (st_M_attackersOf) rfl (tgt := 6) (by decide) ?_
        refine jG.subp [2, 3, 4, 5, 1, 0] (L1 := [(0, (2, ((24 : Nat) : Int))), (1, (0, x3)), (2, (0, x4)), (3, (0, x5)), (4, (1, l1)), (6, (0, jadd l2 1))]) rfl ?_
        exact ih _ _ _ hv
      · have hc : ¬ (v6 = 0) := hc
        try rw [if_neg hc] at hv
        refine jG.blk (st_M_attackersOf) 4 (pc1 := 29) (L1 := [(0, (2, ((24 : Nat) : Int))), (1, (0, x3)), (2, (0, x4)), (3, (0, x5)), (4, (1, l1)), (6, (0, l2))]) (st1 := [(0, x4), (0, l2), (0, x3), (2, ((24 : Nat) : Int))]) (h1 := h) rfl ?_
        obtain ⟨v7, hq, hv⟩ := Option.bind_eq_some_iff.mp hv
        refine jT.cV (M1 := M_M_doesAttack) (2, ((24 : Nat) : Int)) [(0, x3), (0, l2), (0, x4)] [] (st_M_attackersOf) rfl rfl ok_M_doesAttack rfl (Or.inl ⟨rfl, _, _, _, rfl, rfl⟩) (Nat.le_of_ble_eq_true rfl) (Nat.le_of_ble_eq_true rfl) rfl (Nat.le_of_ble_eq_true rfl) (C_M_doesAttack hq) ?_
        show jG E _ 32 [(0, (2, ((24 : Nat) : Int))), (1, (0, x3)), (2, (0, x4)), (3, (0, x5)), (4, (1, l1)), (6, (0, l2))] [(0, v7)] h _ _
        refine jT.if1 (st_M_attackersOf) rfl (tgt := 45) (by decide) (fun hc => ?_) (fun hc => ?_)
        · have hc : v7 = 0 := hc
          try rw [if_pos hc] at hv
          refine jG.blk (st_M_attackersOf) 3 (pc1 := 52) (L1 := [(6, (0, jadd l2 1)), (4, (1, l1)), (0, (2, ((24 : Nat) : Int))), (1, (0, x3)), (2, (0, x4)), (3, (0, x5))]) (st1 := []) (h1 := h) rfl ?_
          refine jT.goto (st_M_attackersOf) rfl (tgt := 6) (by decide) ?_
          refine jG.subp [2, 3, 4, 5, 1, 0] (L1 := [(0, (2, ((24 : Nat) : Int))), (1, (0, x3)), (2, (0, x4)), (3, (0, x5)), (4, (1, l1)), (6, (0, jadd l2 1))]) rfl ?_
          exact ih _ _ _ hv
        · have hc : ¬ (v7 = 0) := hc
          try rw [if_neg hc] at hv
          refine jG.blk (st_M_attackersOf) 5 (pc1 := 42) (L1 := [(0, (2, ((24 : Nat) : Int))), (1, (0, x3)), (2, (0, x4)), (3, (0, x5)), (4, (1, l1)), (6, (0, l2))]) (st1 := [(1, jlor l1 (jlshl 1 l2))]) (h1 := h) rfl ?_
          refine jT.goto (st_M_attackersOf) rfl (tgt := 47) (by decide) ?_
          refine jG.blk (st_M_attackersOf) 2 (pc1 := 52) (L1 := [(6, (0, jadd l2 1)), (4, (1, jlor l1 (jlshl 1 l2))), (0, (2, ((24 : Nat) : Int))), (1, (0, x3)), (2, (0, x4)), (3, (0, x5))]) (st1 := []) (h1 := h) rfl ?_
          refine jT.goto (st_M_attackersOf) rfl (tgt := 6) (by decide) ?_
          refine jG.subp [2, 3, 4, 5, 1, 0] (L1 := [(0, (2, ((24 : Nat) : Int))), (1, (0, x3)), (2, (0, x4)), (3, (0, x5)), (4, (1, jlor l1 (jlshl 1 l2))), (6, (0, jadd l2 1))]) rfl ?_
          exact ih _ _ _ hv
set_option maxRecDepth 100000 in
set_option maxHeartbeats 4000000 in
theorem C_M_attackersOf {E : jE} {h : jH} {a1 : Int} {a2 : Int} {a3 : Int} {res : Int} (hv : f_M_attackersOf h a1 a2 a3 = some res) : jC E M_M_attackersOf [(2, ((24 : Nat) : Int)), (0, a1), (0, a2), (0, a3)] h (some (1, res)) h := by
  refine jC.of ok_M_attackersOf.1 (by rw [jlg]; exact Nat.le_of_ble_eq_true rfl) ?_
  show jG E _ 0 [(0, (2, ((24 : Nat) : Int))), (1, (0, a1)), (2, (0, a2)), (3, (0, a3))] [] h _ _
  unfold f_M_attackersOf at hv
  refine jG.blk (st_M_attackersOf) 4 (pc1 := 6) (L1 := [(6, (0, 0)), (4, (1, 0)), (0, (2, ((24 : Nat) : Int))), (1, (0, a1)), (2, (0, a2)), (3, (0, a3))]) (st1 := []) (h1 := h) rfl ?_
  refine jG.subp [2, 3, 4, 5, 1, 0] (L1 := [(0, (2, ((24 : Nat) : Int))), (1, (0, a1)), (2, (0, a2)), (3, (0, a3)), (4, (1, 0)), (6, (0, 0))]) rfl ?_
  refine f_M_attackersOf_lp6_ok E (fun l8 l9 res hv => ?_) 1000 _ _ _ hv
  · refine jG.blk (st_M_attackersOf) 1 (pc1 := 57) (L1 := [(4, (1, l8))]) (st1 := [(1, l8)]) (h1 := h) rfl ?_
    cases hv
    exact jT.lret (st_M_attackersOf) rfl trivial
def f_M_attackers_j24 (h3 : jH) (l1 : Int) (l2 : Int) : Option (Int × jH) := (f_M_attackersOf h3 (h3 24 7) l1 l2).bind fun v4 => some (v4, h3)
def f_M_attackers (h : jH) (a1 : Int) (a2 : Int) : Option (Int × jH) := if a1 < 0 then some (0, jup h 24 0 0) else if 64 ≤ a1 then some (0, jup h 24 0 0) else if a2 = 0 then f_M_attackers_j24 (jup h 24 0 0) a1 a2 else if a2 = 1 then f_M_attackers_j24 (jup h 24 0 0) a1 a2 else some (0, jup h 24 0 0)
set_option maxRecDepth 100000 in
set_option maxHeartbeats 4000000 in
theorem f_M_attackers_j24_ok (E : jE) {h3 : jH} {l1 : Int} {l2 : Int} {res : Int × jH} (hv : f_M_attackers_j24 h3 l1 l2 = some res) : jG E M_M_attackers 24 [(0, (2, ((24 : Nat) : Int))), (1, (0, l1)), (2, (0, l2))] [] h3 (some (1, res.1)) res.2 := by
  unfold f_M_attackers_j24 at hv
  refine jG.blk (st_M_attackers) 5 (pc1 := 31) (L1 := [(0, (2, ((24 : Nat) : Int))), (1, (0, l1)), (2, (0, l2))]) (st1 := [(0, l2), (0, l1), (0, h3 24 7), (2, ((24 : Nat) : Int))]) (h1 := h3) rfl ?_
  obtain ⟨v4, hq, hv⟩ := Option.bind_eq_some_iff.mp hv
  refine jT.cV (M1 := M_M_attackersOf) (2, ((24 : Nat) : Int)) [(0, h3 24 7), (0, l1), (0, l2)] [] (st_M_attackers) rfl rfl ok_M_attackersOf rfl (Or.inl ⟨rfl, _, _, _, rfl, rfl⟩) (Nat.le_of_ble_eq_true rfl) (Nat.le_of_ble_eq_true rfl) rfl (Nat.le_of_ble_eq_true rfl) (C_M_attackersOf hq) ?_
  show jG E _ 34 [(0, (2, ((24 : Nat) : Int))), (1, (0, l1)), (2, (0, l2))] [(1, v4)] h3 _ _
  refine jT.goto (st_M_attackers) rfl (tgt := 38) (by decide) ?_
  cases hv
  exact jT.lret (st_M_attackers) rfl trivial
set_option maxRecDepth 100000 in
set_option maxHeartbeats 4000000 in
theorem C_M_attackers {E : jE} {h : jH} {a1 : Int} {a2 : Int} {res : Int × jH} (hv : f_M_attackers h a1 a2 = some res) : jC E M_M_attackers [(2, ((24 : Nat) : Int)), (0, a1), (0, a2)] h (some (1, res.1)) res.2 := by
  refine jC.of ok_M_attackers.1 (by rw [jlg]; exact Nat.le_of_ble_eq_true rfl) ?_
  show jG E _ 0 [(0, (2, ((24 : Nat) : Int))), (1, (0, a1)), (2, (0, a2))] [] h _ _
  unfold f_M_attackers at hv
  refine jG.blk (st_M_attackers) 4 (pc1 := 6) (L1 := [(0, (2, ((24 : Nat) : Int))), (1, (0, a1)), (2, (0, a2))]) (st1 := [(0, a1)]) (h1 := jup h 24 0 0) rfl ?_
  refine jT.if1 (st_M_attackers) rfl (tgt := 37) (by decide) (fun hc => ?_) (fun hc => ?_)
  · have hc : a1 < 0 := hc
    try rw [if_pos hc] at hv
    refine jG.blk (st_M_attackers) 1 (pc1 := 38) (L1 := [(0, (2, ((24 : Nat) : Int))), (1, (0, a1)), (2, (0, a2))]) (st1 := [(1, 0)]) (h1 := jup h 24 0 0) rfl ?_
    cases hv
    exact jT.lret (st_M_attackers) rfl trivial
  · have hc : ¬ (a1 < 0) := hc
    try rw [if_neg hc] at hv
    refine jG.blk (st_M_attackers) 2 (pc1 := 12) (L1 := [(0, (2, ((24 : Nat) : Int))), (1, (0, a1)), (2, (0, a2))]) (st1 := [(0, 64), (0, a1)]) (h1 := jup h 24 0 0) rfl ?_
    refine jT.if2 (st_M_attackers) rfl (tgt := 37) (by decide) (fun hc => ?_) (fun hc => ?_)
    · have hc : 64 ≤ a1 := hc
      try rw [if_pos hc] at hv
      refine jG.blk (st_M_attackers) 1 (pc1 := 38) (L1 := [(0, (2, ((24 : Nat) : Int))), (1, (0, a1)), (2, (0, a2))]) (st1 := [(1, 0)]) (h1 := jup h 24 0 0) rfl ?_
      cases hv
      exact jT.lret (st_M_attackers) rfl trivial
    · have hc : ¬ (64 ≤ a1) := hc
      try rw [if_neg hc] at hv
      refine jG.blk (st_M_attackers) 1 (pc1 := 16) (L1 := [(0, (2, ((24 : Nat) : Int))), (1, (0, a1)), (2, (0, a2))]) (st1 := [(0, a2)]) (h1 := jup h 24 0 0) rfl ?_
      refine jT.if1 (st_M_attackers) rfl (tgt := 24) (by decide) (fun hc => ?_) (fun hc => ?_)
      · have hc : a2 = 0 := hc
        try rw [if_pos hc] at hv
        exact f_M_attackers_j24_ok E hv
      · have hc : ¬ (a2 = 0) := hc
        try rw [if_neg hc] at hv
        refine jG.blk (st_M_attackers) 2 (pc1 := 21) (L1 := [(0, (2, ((24 : Nat) : Int))), (1, (0, a1)), (2, (0, a2))]) (st1 := [(0, 1), (0, a2)]) (h1 := jup h 24 0 0) rfl ?_
        refine jT.if2 (st_M_attackers) rfl (tgt := 37) (by decide) (fun hc => ?_) (fun hc => ?_)
        · have hc : ¬ (a2 = 1) := hc
          try rw [if_neg hc] at hv
          refine jG.blk (st_M_attackers) 1 (pc1 := 38) (L1 := [(0, (2, ((24 : Nat) : Int))), (1, (0, a1)), (2, (0, a2))]) (st1 := [(1, 0)]) (h1 := jup h 24 0 0) rfl ?_
          cases hv
          exact jT.lret (st_M_attackers) rfl trivial
        · have hc : a2 = 1 := Decidable.not_not.mp hc
          try rw [if_pos hc] at hv
          exact f_M_attackers_j24_ok E hv
def f_M_isChecked (h : jH) (a1 : Int) : Option (Int) := jgd (0 ≤ a1 ∧ a1 < 304) ((f_M_kingOf h a1 (h 26 a1.toNat)).bind fun v1 => jgd (0 ≤ a1 ∧ a1 < 304) ((f_M_isAttacked h a1 v1 (jsub 1 (h 26 a1.toNat))).bind fun v2 => jgd (v2 = 0 ∨ v2 = 1) (some v2)))
set_option maxRecDepth 100000 in
set_option maxHeartbeats 4000000 in
theorem C_M_isChecked {E : jE} {h : jH} {a1 : Int} {res : Int} (hv : f_M_isChecked h a1 = some res) : jC E M_M_isChecked [(2, ((24 : Nat) : Int)), (0, a1)] h (some (0, res)) h := by
  refine jC.of ok_M_isChecked.1 (by rw [jlg]; exact Nat.le_of_ble_eq_true rfl) ?_
  show jG E _ 0 [(0, (2, ((24 : Nat) : Int))), (1, (0, a1))] [] h _ _
  unfold f_M_isChecked at hv
  refine jG.blk (st_M_isChecked) 7 (pc1 := 9) (L1 := [(0, (2, ((24 : Nat) : Int))), (1, (0, a1))]) (st1 := [(0, a1), (2, ((26 : Nat) : Int)), (0, a1), (2, ((24 : Nat) : Int)), (0, a1), (2, ((24 : Nat) : Int))]) (h1 := h) rfl ?_
  obtain ⟨hg, hv⟩ := jgd_some hv
  refine jT.iald (a := 26) (st_M_isChecked) rfl rfl (by decide) hg.1 hg.2 ?_
  obtain ⟨v1, hq, hv⟩ := Option.bind_eq_some_iff.mp hv
  refine jT.cV (M1 := M_M_kingOf) (2, ((24 : Nat) : Int)) [(0, a1), (0, h 26 a1.toNat)] [(0, a1), (2, ((24 : Nat) : Int))] (st_M_isChecked) rfl rfl ok_M_kingOf rfl (Or.inl ⟨rfl, _, _, _, rfl, rfl⟩) (Nat.le_of_ble_eq_true rfl) (Nat.le_of_ble_eq_true rfl) rfl (Nat.le_of_ble_eq_true rfl) (C_M_kingOf hq) ?_
  show jG E _ 13 [(0, (2, ((24 : Nat) : Int))), (1, (0, a1))] [(0, v1), (0, a1), (2, ((24 : Nat) : Int))] h _ _
  refine jG.blk (st_M_isChecked) 4 (pc1 := 19) (L1 := [(0, (2, ((24 : Nat) : Int))), (1, (0, a1))]) (st1 := [(0, a1), (2, ((26 : Nat) : Int)), (0, 1), (0, v1), (0, a1), (2, ((24 : Nat) : Int))]) (h1 := h) rfl ?_
  obtain ⟨hg, hv⟩ := jgd_some hv
  refine jT.iald (a := 26) (st_M_isChecked) rfl rfl (by decide) hg.1 hg.2 ?_
  refine jG.blk (st_M_isChecked) 1 (pc1 := 21) (L1 := [(0, (2, ((24 : Nat) : Int))), (1, (0, a1))]) (st1 := [(0, jsub 1 (h 26 a1.toNat)), (0, v1), (0, a1), (2, ((24 : Nat) : Int))]) (h1 := h) rfl ?_
  obtain ⟨v2, hq, hv⟩ := Option.bind_eq_some_iff.mp hv
  refine jT.cV (M1 := M_M_isAttacked) (2, ((24 : Nat) : Int)) [(0, a1), (0, v1), (0, jsub 1 (h 26 a1.toNat))] [] (st_M_isChecked) rfl rfl ok_M_isAttacked rfl (Or.inl ⟨rfl, _, _, _, rfl, rfl⟩) (Nat.le_of_ble_eq_true rfl) (Nat.le_of_ble_eq_true rfl) rfl (Nat.le_of_ble_eq_true rfl) (C_M_isAttacked hq) ?_
  show jG E _ 24 [(0, (2, ((24 : Nat) : Int))), (1, (0, a1))] [(0, v2)] h _ _
  obtain ⟨hg, hv⟩ := jgd_some hv
  cases hv
  exact jT.iret (st_M_isChecked) rfl hg
def f_M_checked (h : jH) : Option (Int × jH) := if (jup h 24 0 0) 24 8 = 0 then some ((-1), jup h 24 0 0) else (f_M_isChecked (jup h 24 0 0) ((jup h 24 0 0) 24 7)).bind fun v1 => some (if v1 = 0 then (0, jup h 24 0 0) else (1, jup h 24 0 0))
set_option maxRecDepth 100000 in
set_option maxHeartbeats 4000000 in
theorem C_M_checked {E : jE} {h : jH} {res : Int × jH} (hv : f_M_checked h = some res) : jC E M_M_checked [(2, ((24 : Nat) : Int))] h (some (0, res.1)) res.2 := by
  refine jC.of ok_M_checked.1 (by rw [jlg]; exact Nat.le_of_ble_eq_true rfl) ?_
  show jG E _ 0 [(0, (2, ((24 : Nat) : Int)))] [] h _ _
  unfold f_M_checked at hv
  refine jG.blk (st_M_checked) 5 (pc1 := 9) (L1 := [(0, (2, ((24 : Nat) : Int)))]) (st1 := [(0, (jup h 24 0 0) 24 8)]) (h1 := jup h 24 0 0) rfl ?_
  refine jT.if1 (st_M_checked) rfl (tgt := 16) (by decide) (fun hc => ?_) (fun hc => ?_)
  · have hc : ¬ ((jup h 24 0 0) 24 8 = 0) := hc
    try rw [if_neg hc] at hv
    refine jG.blk (st_M_checked) 3 (pc1 := 21) (L1 := [(0, (2, ((24 : Nat) : Int)))]) (st1 := [(0, (jup h 24 0 0) 24 7), (2, ((24 : Nat) : Int))]) (h1 := jup h 24 0 0) rfl ?_
    obtain ⟨v1, hq, hv⟩ := Option.bind_eq_some_iff.mp hv
    refine jT.cV (M1 := M_M_isChecked) (2, ((24 : Nat) : Int)) [(0, (jup h 24 0 0) 24 7)] [] (st_M_checked) rfl rfl ok_M_isChecked rfl (Or.inl ⟨rfl, _, _, _, rfl, rfl⟩) (Nat.le_of_ble_eq_true rfl) (Nat.le_of_ble_eq_true rfl) rfl (Nat.le_of_ble_eq_true rfl) (C_M_isChecked hq) ?_
    show jG E _ 24 [(0, (2, ((24 : Nat) : Int)))] [(0, v1)] (jup h 24 0 0) _ _
    refine jT.if1 (st_M_checked) rfl (tgt := 31) (by decide) (fun hc => ?_) (fun hc => ?_)
    · have hc : v1 = 0 := hc
      try rw [if_pos hc] at hv
      refine jG.blk (st_M_checked) 1 (pc1 := 32) (L1 := [(0, (2, ((24 : Nat) : Int)))]) (st1 := [(0, 0)]) (h1 := jup h 24 0 0) rfl ?_
      cases hv
      exact jT.iret (st_M_checked) rfl trivial
    · have hc : ¬ (v1 = 0) := hc
      try rw [if_neg hc] at hv
      refine jG.blk (st_M_checked) 1 (pc1 := 28) (L1 := [(0, (2, ((24 : Nat) : Int)))]) (st1 := [(0, 1)]) (h1 := jup h 24 0 0) rfl ?_
      refine jT.goto (st_M_checked) rfl (tgt := 32) (by decide) ?_
      cases hv
      exact jT.iret (st_M_checked) rfl trivial
  · have hc : (jup h 24 0 0) 24 8 = 0 := Decidable.not_not.mp hc
    try rw [if_pos hc] at hv
    refine jG.blk (st_M_checked) 1 (pc1 := 13) (L1 := [(0, (2, ((24 : Nat) : Int)))]) (st1 := [(0, (-1))]) (h1 := jup h 24 0 0) rfl ?_
    refine jT.goto (st_M_checked) rfl (tgt := 32) (by decide) ?_
    cases hv
    exact jT.iret (st_M_checked) rfl trivial
def f_M_seenOf_lp76 (h : jH) (x10 : Int) (x11 : Int) (k : Int → Int → Option (Int)) : Nat → Int → Int → Option (Int)
  | 0, _, _ => none
  | n + 1, l8, l9 => if 64 ≤ l9 then k l8 l9 else if l8 = 0 then k l8 l9 else (f_M_piece h x11 l9).bind fun v12 => (f_M_piece h (h 24 7) l9).bind fun v13 => f_M_seenOf_lp76 h x10 x11 k n (if v12 = v13 then 1 else 0) (jadd l9 1)
def f_M_seenOf_j119_4 (rc : Int → Int → Option (Int)) (k : Int → Int → Option (Int)) (h : jH) (l16 : Int) (l17 : Int) (l18 : Int) : Option (Int) := rc (if l18 = 0 then l16 else jadd l16 1) (jadd l17 1)
def f_M_seenOf_j72_4 (rc : Int → Int → Option (Int)) (k : Int → Int → Option (Int)) (h : jH) (l5 : Int) (l6 : Int) (s7 : Int) : Option (Int) := f_M_seenOf_lp76 h l5 l6 (fun l14 l15 => f_M_seenOf_j119_4 rc k h l5 l6 l14) 1000 s7 0
def f_M_seenOf_j71_4 (rc : Int → Int → Option (Int)) (k : Int → Int → Option (Int)) (h : jH) (l3 : Int) (l4 : Int) : Option (Int) := f_M_seenOf_j72_4 rc k h l3 l4 0
def f_M_seenOf_lp4 (h : jH) (k : Int → Int → Option (Int)) : Nat → Int → Int → Option (Int)
  | 0, _, _ => none
  | n + 1, l1, l2 => if h 24 7 < l2 then k l1 l2 else jgd (0 ≤ l2 ∧ l2 < 304) (jgd (0 ≤ h 24 7 ∧ h 24 7 < 304) (if h 26 l2.toNat = h 26 (h 24 7).toNat then jgd (0 ≤ l2 ∧ l2 < 304) (jgd (0 ≤ h 24 7 ∧ h 24 7 < 304) (if h 27 l2.toNat = h 27 (h 24 7).toNat then jgd (0 ≤ l2 ∧ l2 < 304) (jgd (0 ≤ h 24 7 ∧ h 24 7 < 304) (if jcmp (h 30 l2.toNat) (h 30 (h 24 7).toNat) = 0 then f_M_seenOf_j72_4 (f_M_seenOf_lp4 h k n) k h l1 l2 1 else f_M_seenOf_j71_4 (f_M_seenOf_lp4 h k n) k h l1 l2)) else f_M_seenOf_j71_4 (f_M_seenOf_lp4 h k n) k h l1 l2)) else f_M_seenOf_j71_4 (f_M_seenOf_lp4 h k n) k h l1 l2))
def f_M_seenOf (h : jH) : Option (Int) := f_M_seenOf_lp4 h (fun l19 l20 => some l19) 1000 0 0
set_option maxRecDepth 100000 in
set_option maxHeartbeats 4000000 in
theorem f_M_seenOf_lp76_ok (E : jE) {h : jH} {x10 : Int} {x11 : Int} {k : Int → Int → Option (Int)} (hk : ∀ (l8 : Int) (l9 : Int) (res : Int), k l8 l9 = some res → jG E M_M_seenOf 119 [(0, (2, ((24 : Nat) : Int))), (1, (0, x10)), (2, (0, x11)), (3, (0, l8))] [] h (some (0, res)) h) : ∀ (n : Nat) (l8 : Int) (l9 : Int) (res : Int), f_M_seenOf_lp76 h x10 x11 k n l8 l9 = some res → jG E M_M_seenOf 76 [(0, (2, ((24 : Nat) : Int))), (1, (0, x10)), (2, (0, x11)), (3, (0, l8)), (4, (0, l9))] [] h (some (0, res)) h := by
  intro n
  induction n with
  | zero => intro l8 l9 res hv; cases hv
  | succ n ih =>
    intro l8 l9 res hv
    rw [f_M_seenOf_lp76] at hv
    refine jG.blk (st_M_seenOf) 2 (pc1 := 80) (L1 := [(0, (2, ((24 : Nat) : Int))), (1, (0, x10)), (2, (0, x11)), (3, (0, l8)), (4, (0, l9))]) (st1 := [(0, 64), (0, l9)]) (h1 := h) rfl ?_
    refine jT.if2 (st_M_seenOf) rfl (tgt := 119) (by decide) (fun hc => ?_) (fun hc => ?_)
    · have hc : 64 ≤ l9 := hc
      try rw [if_pos hc] at hv
      refine jG.subp [0, 1, 2, 3] (L1 := [(0, (2, ((24 : Nat) : Int))), (1, (0, x10)), (2, (0, x11)), (3, (0, l8))]) rfl ?_
      exact hk _ _ _ hv
    · have hc : ¬ (64 ≤ l9) := hc
      try rw [if_neg hc] at hv
      refine jG.blk (st_M_seenOf) 1 (pc1 := 84) (L1 := [(0, (2, ((24 : Nat) : Int))), (1, (0, x10)), (2, (0, x11)), (3, (0, l8)), (4, (0, l9))]) (st1 := [(0, l8)]) (h1 := h) rfl ?_
      refine jT.if1 (st_M_seenOf) rfl (tgt := 119) (by decide) (fun hc => ?_) (fun hc => ?_)
      · have hc : l8 = 0 := hc
        try rw [if_pos hc] at hv
        refine jG.subp [0, 1, 2, 3] (L1 := [(0, (2, ((24 : Nat) : Int))), (1, (0, x10)), (2, (0, x11)), (3, (0, l8))]) rfl ?_
        exact hk _ _ _ hv
      · have hc : ¬ (l8 = 0) := hc
        try rw [if_neg hc] at hv
        refine jG.blk (st_M_seenOf) 3 (pc1 := 91) (L1 := [(0, (2, ((24 : Nat) : Int))), (1, (0, x10)), (2, (0, x11)), (3, (0, l8)), (4, (0, l9))]) (st1 := [(0, l9), (0, x11), (2, ((24 : Nat) : Int))]) (h1 := h) rfl ?_
        obtain ⟨v12, hq, hv⟩ := Option.bind_eq_some_iff.mp hv
        refine jT.cV (M1 := M_M_piece) (2, ((24 : Nat) : Int)) [(0, x11), (0, l9)] [] (st_M_seenOf) rfl rfl ok_M_piece rfl (Or.inl ⟨rfl, _, _, _, rfl, rfl⟩) (Nat.le_of_ble_eq_true rfl) (Nat.le_of_ble_eq_true rfl) rfl (Nat.le_of_ble_eq_true rfl) (C_M_piece hq) ?_
        show jG E _ 94 [(0, (2, ((24 : Nat) : Int))), (1, (0, x10)), (2, (0, x11)), (3, (0, l8)), (4, (0, l9))] [(0, v12)] h _ _
        refine jG.blk (st_M_seenOf) 4 (pc1 := 101) (L1 := [(0, (2, ((24 : Nat) : Int))), (1, (0, x10)), (2, (0, x11)), (3, (0, l8)), (4, (0, l9))]) (st1 := [(0, l9), (0, h 24 7), (2, ((24 : Nat) : Int)), (0, v12)]) (h1 := h) rfl ?_
        obtain ⟨v13, hq, hv⟩ := Option.bind_eq_some_iff.mp hv
        refine jT.cV (M1 := M_M_piece) (2, ((24 : Nat) : Int)) [(0, h 24 7), (0, l9)] [(0, v12)] (st_M_seenOf) rfl rfl ok_M_piece rfl (Or.inl ⟨rfl, _, _, _, rfl, rfl⟩) (Nat.le_of_ble_eq_true rfl) (Nat.le_of_ble_eq_true rfl) rfl (Nat.le_of_ble_eq_true rfl) (C_M_piece hq) ?_
        show jG E _ 104 [(0, (2, ((24 : Nat) : Int))), (1, (0, x10)), (2, (0, x11)), (3, (0, l8)), (4, (0, l9))] [(0, v13), (0, v12)] h _ _
        refine jT.if2 (st_M_seenOf) rfl (tgt := 111) (by decide) (fun hc => ?_) (fun hc => ?_)
        · have hc : ¬ (v12 = v13) := hc
          try rw [if_neg hc] at hv
          refine jG.blk (st_M_seenOf) 3 (pc1 := 116) (L1 := [(4, (0, jadd l9 1)), (3, (0, 0)), (0, (2, ((24 : Nat) : Int))), (1, (0, x10)), (2, (0, x11))]) (st1 := []) (h1 := h) rfl ?_
          refine jT.goto (st_M_seenOf) rfl (tgt := 76) (by decide) ?_
          refine jG.subp [2, 3, 4, 1, 0] (L1 := [(0, (2, ((24 : Nat) : Int))), (1, (0, x10)), (2, (0, x11)), (3, (0, 0)), (4, (0, jadd l9 1))]) rfl ?_
          exact ih _ _ _ hv
        · have hc : v12 = v13 := Decidable.not_not.mp hc
          try rw [if_pos hc] at hv
          refine jG.blk (st_M_seenOf) 1 (pc1 := 108) (L1 := [(0, (2, ((24 : Nat) : Int))), (1, (0, x10)), (2, (0, x11)), (3, (0, l8)), (4, (0, l9))]) (st1 := [(0, 1)]) (h1 := h) rfl ?_
          refine jT.goto (st_M_seenOf) rfl (tgt := 112) (by decide) ?_
          refine jG.blk (st_M_seenOf) 2 (pc1 := 116) (L1 := [(4, (0, jadd l9 1)), (3, (0, 1)), (0, (2, ((24 : Nat) : Int))), (1, (0, x10)), (2, (0, x11))]) (st1 := []) (h1 := h) rfl ?_
          refine jT.goto (st_M_seenOf) rfl (tgt := 76) (by decide) ?_
          refine jG.subp [2, 3, 4, 1, 0] (L1 := [(0, (2, ((24 : Nat) : Int))), (1, (0, x10)), (2, (0, x11)), (3, (0, 1)), (4, (0, jadd l9 1))]) rfl ?_
          exact ih _ _ _ hv
set_option maxRecDepth 100000 in
set_option maxHeartbeats 4000000 in
theorem f_M_seenOf_j119_4_ok (E : jE) {rc : Int → Int → Option (Int)} {k : Int → Int → Option (Int)} {h : jH} (hrc : ∀ (l1 : Int) (l2 : Int) (res : Int), rc l1 l2 = some res → jG E M_M_seenOf 4 [(0, (2, ((24 : Nat) : Int))), (1, (0, l1)), (2, (0, l2))] [] h (some (0, res)) h) (hk : ∀ (l1 : Int) (l2 : Int) (res : Int), k l1 l2 = some res → jG E M_M_seenOf 137 [(1, (0, l1))] [] h (some (0, res)) h) {l16 : Int} {l17 : Int} {l18 : Int} {res : Int} (hv : f_M_seenOf_j119_4 rc k h l16 l17 l18 = some res) : jG E M_M_seenOf 119 [(0, (2, ((24 : Nat) : Int))), (1, (0, l16)), (2, (0, l17)), (3, (0, l18))] [] h (some (0, res)) h := by
  unfold f_M_seenOf_j119_4 at hv
  refine jG.blk (st_M_seenOf) 1 (pc1 := 120) (L1 := [(0, (2, ((24 : Nat) : Int))), (1, (0, l16)), (2, (0, l17)), (3, (0, l18))]) (st1 := [(0, l18)]) (h1 := h) rfl ?_
  refine jT.if1 (st_M_seenOf) rfl (tgt := 129) (by decide) (fun hc => ?_) (fun hc => ?_)
  · have hc : l18 = 0 := hc
    try rw [if_pos hc] at hv
    refine jG.blk (st_M_seenOf) 3 (pc1 := 134) (L1 := [(2, (0, jadd l17 1)), (1, (0, l16)), (0, (2, ((24 : Nat) : Int))), (3, (0, l18))]) (st1 := []) (h1 := h) rfl ?_
    refine jT.goto (st_M_seenOf) rfl (tgt := 4) (by decide) ?_
    refine jG.subp [2, 1, 0] (L1 := [(0, (2, ((24 : Nat) : Int))), (1, (0, l16)), (2, (0, jadd l17 1))]) rfl ?_
    exact hrc _ _ _ hv
  · have hc : ¬ (l18 = 0) := hc
    try rw [if_neg hc] at hv
    refine jG.blk (st_M_seenOf) 3 (pc1 := 126) (L1 := [(0, (2, ((24 : Nat) : Int))), (1, (0, l16)), (2, (0, l17)), (3, (0, l18))]) (st1 := [(0, jadd l16 1)]) (h1 := h) rfl ?_
    refine jT.goto (st_M_seenOf) rfl (tgt := 130) (by decide) ?_
    refine jG.blk (st_M_seenOf) 2 (pc1 := 134) (L1 := [(2, (0, jadd l17 1)), (1, (0, jadd l16 1)), (0, (2, ((24 : Nat) : Int))), (3, (0, l18))]) (st1 := []) (h1 := h) rfl ?_
    refine jT.goto (st_M_seenOf) rfl (tgt := 4) (by decide) ?_
    refine jG.subp [2, 1, 0] (L1 := [(0, (2, ((24 : Nat) : Int))), (1, (0, jadd l16 1)), (2, (0, jadd l17 1))]) rfl ?_
    exact hrc _ _ _ hv
set_option maxRecDepth 100000 in
set_option maxHeartbeats 4000000 in
theorem f_M_seenOf_j72_4_ok (E : jE) {rc : Int → Int → Option (Int)} {k : Int → Int → Option (Int)} {h : jH} (hrc : ∀ (l1 : Int) (l2 : Int) (res : Int), rc l1 l2 = some res → jG E M_M_seenOf 4 [(0, (2, ((24 : Nat) : Int))), (1, (0, l1)), (2, (0, l2))] [] h (some (0, res)) h) (hk : ∀ (l1 : Int) (l2 : Int) (res : Int), k l1 l2 = some res → jG E M_M_seenOf 137 [(1, (0, l1))] [] h (some (0, res)) h) {l5 : Int} {l6 : Int} {s7 : Int} {res : Int} (hv : f_M_seenOf_j72_4 rc k h l5 l6 s7 = some res) : jG E M_M_seenOf 72 [(0, (2, ((24 : Nat) : Int))), (1, (0, l5)), (2, (0, l6))] [(0, s7)] h (some (0, res)) h := by
  unfold f_M_seenOf_j72_4 at hv
  refine jG.blk (st_M_seenOf) 3 (pc1 := 76) (L1 := [(4, (0, 0)), (3, (0, s7)), (0, (2, ((24 : Nat) : Int))), (1, (0, l5)), (2, (0, l6))]) (st1 := []) (h1 := h) rfl ?_
  refine jG.subp [2, 3, 4, 1, 0] (L1 := [(0, (2, ((24 : Nat) : Int))), (1, (0, l5)), (2, (0, l6)), (3, (0, s7)), (4, (0, 0))]) rfl ?_
  refine f_M_seenOf_lp76_ok E (fun l14 l15 res hv => ?_) 1000 _ _ _ hv
  · exact f_M_seenOf_j119_4_ok E hrc hk hv
set_option maxRecDepth 100000 in
set_option maxHeartbeats 4000000 in
theorem f_M_seenOf_j71_4_ok (E : jE) {rc : Int → Int → Option (Int)} {k : Int → Int → Option (Int)} {h : jH} (hrc : ∀ (l1 : Int) (l2 : Int) (res : Int), rc l1 l2 = some res → jG E M_M_seenOf 4 [(0, (2, ((24 : Nat) : Int))), (1, (0, l1)), (2, (0, l2))] [] h (some (0, res)) h) (hk : ∀ (l1 : Int) (l2 : Int) (res : Int), k l1 l2 = some res → jG E M_M_seenOf 137 [(1, (0, l1))] [] h (some (0, res)) h) {l3 : Int} {l4 : Int} {res : Int} (hv : f_M_seenOf_j71_4 rc k h l3 l4 = some res) : jG E M_M_seenOf 71 [(0, (2, ((24 : Nat) : Int))), (1, (0, l3)), (2, (0, l4))] [] h (some (0, res)) h := by
  unfold f_M_seenOf_j71_4 at hv
  refine jG.blk (st_M_seenOf) 1 (pc1 := 72) (L1 := [(0, (2, ((24 : Nat) : Int))), (1, (0, l3)), (2, (0, l4))]) (st1 := [(0, 0)]) (h1 := h) rfl ?_
  exact f_M_seenOf_j72_4_ok E hrc hk hv
set_option maxRecDepth 100000 in
set_option maxHeartbeats 4000000 in
theorem f_M_seenOf_lp4_ok (E : jE) {h : jH} {k : Int → Int → Option (Int)} (hk : ∀ (l1 : Int) (l2 : Int) (res : Int), k l1 l2 = some res → jG E M_M_seenOf 137 [(1, (0, l1))] [] h (some (0, res)) h) : ∀ (n : Nat) (l1 : Int) (l2 : Int) (res : Int), f_M_seenOf_lp4 h k n l1 l2 = some res → jG E M_M_seenOf 4 [(0, (2, ((24 : Nat) : Int))), (1, (0, l1)), (2, (0, l2))] [] h (some (0, res)) h := by
  intro n
  induction n with
  | zero => intro l1 l2 res hv; cases hv
  | succ n ih =>
    intro l1 l2 res hv
    rw [f_M_seenOf_lp4] at hv
    refine jG.blk (st_M_seenOf) 3 (pc1 := 9) (L1 := [(0, (2, ((24 : Nat) : Int))), (1, (0, l1)), (2, (0, l2))]) (st1 := [(0, h 24 7), (0, l2)]) (h1 := h) rfl ?_
    refine jT.if2 (st_M_seenOf) rfl (tgt := 137) (by decide) (fun hc => ?_) (fun hc => ?_)
    · have hc : h 24 7 < l2 := hc
      try rw [if_pos hc] at hv
      refine jG.subp [1] (L1 := [(1, (0, l1))]) rfl ?_
      exact hk _ _ _ hv
    · have hc : ¬ (h 24 7 < l2) := hc
      try rw [if_neg hc] at hv
      refine jG.blk (st_M_seenOf) 3 (pc1 := 17) (L1 := [(0, (2, ((24 : Nat) : Int))), (1, (0, l1)), (2, (0, l2))]) (st1 := [(0, l2), (2, ((26 : Nat) : Int))]) (h1 := h) rfl ?_
      obtain ⟨hg, hv⟩ := jgd_some hv
      refine jT.iald (a := 26) (st_M_seenOf) rfl rfl (by decide) hg.1 hg.2 ?_
      refine jG.blk (st_M_seenOf) 4 (pc1 := 26) (L1 := [(0, (2, ((24 : Nat) : Int))), (1, (0, l1)), (2, (0, l2))]) (st1 := [(0, h 24 7), (2, ((26 : Nat) : Int)), (0, h 26 l2.toNat)]) (h1 := h) rfl ?_
      obtain ⟨hg, hv⟩ := jgd_some hv
      refine jT.iald (a := 26) (st_M_seenOf) rfl rfl (by decide) hg.1 hg.2 ?_
      refine jT.if2 (st_M_seenOf) rfl (tgt := 71) (by decide) (fun hc => ?_) (fun hc => ?_)
      · have hc : ¬ (h 26 l2.toNat = h 26 (h 24 7).toNat) := hc
        try rw [if_neg hc] at hv
        exact f_M_seenOf_j71_4_ok E ih hk hv
      · have hc : h 26 l2.toNat = h 26 (h 24 7).toNat := Decidable.not_not.mp hc
        try rw [if_pos hc] at hv
        refine jG.blk (st_M_seenOf) 3 (pc1 := 35) (L1 := [(0, (2, ((24 : Nat) : Int))), (1, (0, l1)), (2, (0, l2))]) (st1 := [(0, l2), (2, ((27 : Nat) : Int))]) (h1 := h) rfl ?_
        obtain ⟨hg, hv⟩ := jgd_some hv
        refine jT.iald (a := 27) (st_M_seenOf) rfl rfl (by decide) hg.1 hg.2 ?_
        refine jG.blk (st_M_seenOf) 4 (pc1 := 44) (L1 := [(0, (2, ((24 : Nat) : Int))), (1, (0, l1)), (2, (0, l2))]) (st1 := [(0, h 24 7), (2, ((27 : Nat) : Int)), (0, h 27 l2.toNat)]) (h1 := h) rfl ?_
        obtain ⟨hg, hv⟩ := jgd_some hv
        refine jT.iald (a := 27) (st_M_seenOf) rfl rfl (by decide) hg.1 hg.2 ?_
        refine jT.if2 (st_M_seenOf) rfl (tgt := 71) (by decide) (fun hc => ?_) (fun hc => ?_)
        · have hc : ¬ (h 27 l2.toNat = h 27 (h 24 7).toNat) := hc
          try rw [if_neg hc] at hv
          exact f_M_seenOf_j71_4_ok E ih hk hv
        · have hc : h 27 l2.toNat = h 27 (h 24 7).toNat := Decidable.not_not.mp hc
          try rw [if_pos hc] at hv
          refine jG.blk (st_M_seenOf) 3 (pc1 := 53) (L1 := [(0, (2, ((24 : Nat) : Int))), (1, (0, l1)), (2, (0, l2))]) (st1 := [(0, l2), (2, ((30 : Nat) : Int))]) (h1 := h) rfl ?_
          obtain ⟨hg, hv⟩ := jgd_some hv
          refine jT.lald (a := 30) (st_M_seenOf) rfl rfl (by decide) hg.1 hg.2 ?_
          refine jG.blk (st_M_seenOf) 4 (pc1 := 62) (L1 := [(0, (2, ((24 : Nat) : Int))), (1, (0, l1)), (2, (0, l2))]) (st1 := [(0, h 24 7), (2, ((30 : Nat) : Int)), (1, h 30 l2.toNat)]) (h1 := h) rfl ?_
          obtain ⟨hg, hv⟩ := jgd_some hv
          refine jT.lald (a := 30) (st_M_seenOf) rfl rfl (by decide) hg.1 hg.2 ?_
          refine jG.blk (st_M_seenOf) 1 (pc1 := 64) (L1 := [(0, (2, ((24 : Nat) : Int))), (1, (0, l1)), (2, (0, l2))]) (st1 := [(0, jcmp (h 30 l2.toNat) (h 30 (h 24 7).toNat))]) (h1 := h) rfl ?_
          refine jT.if1 (st_M_seenOf) rfl (tgt := 71) (by decide) (fun hc => ?_) (fun hc => ?_)
          · have hc : ¬ (jcmp (h 30 l2.toNat) (h 30 (h 24 7).toNat) = 0) := hc
            try rw [if_neg hc] at hv
            exact f_M_seenOf_j71_4_ok E ih hk hv
          · have hc : jcmp (h 30 l2.toNat) (h 30 (h 24 7).toNat) = 0 := Decidable.not_not.mp hc
            try rw [if_pos hc] at hv
            refine jG.blk (st_M_seenOf) 1 (pc1 := 68) (L1 := [(0, (2, ((24 : Nat) : Int))), (1, (0, l1)), (2, (0, l2))]) (st1 := [(0, 1)]) (h1 := h) rfl ?_
            refine jT.goto (st_M_seenOf) rfl (tgt := 72) (by decide) ?_
            exact f_M_seenOf_j72_4_ok E ih hk hv
set_option maxRecDepth 100000 in
set_option maxHeartbeats 4000000 in
theorem C_M_seenOf {E : jE} {h : jH} {res : Int} (hv : f_M_seenOf h = some res) : jC E M_M_seenOf [(2, ((24 : Nat) : Int))] h (some (0, res)) h := by
  refine jC.of ok_M_seenOf.1 (by rw [jlg]; exact Nat.le_of_ble_eq_true rfl) ?_
  show jG E _ 0 [(0, (2, ((24 : Nat) : Int)))] [] h _ _
  unfold f_M_seenOf at hv
  refine jG.blk (st_M_seenOf) 4 (pc1 := 4) (L1 := [(2, (0, 0)), (1, (0, 0)), (0, (2, ((24 : Nat) : Int)))]) (st1 := []) (h1 := h) rfl ?_
  refine jG.subp [2, 1, 0] (L1 := [(0, (2, ((24 : Nat) : Int))), (1, (0, 0)), (2, (0, 0))]) rfl ?_
  refine f_M_seenOf_lp4_ok E (fun l19 l20 res hv => ?_) 1000 _ _ _ hv
  · refine jG.blk (st_M_seenOf) 1 (pc1 := 138) (L1 := [(1, (0, l19))]) (st1 := [(0, l19)]) (h1 := h) rfl ?_
    cases hv
    exact jT.iret (st_M_seenOf) rfl trivial
def f_M_seen (h : jH) : Option (Int × jH) := if (jup h 24 0 0) 24 8 = 0 then some ((-1), jup h 24 0 0) else (f_M_seenOf (jup h 24 0 0)).bind fun v1 => some (v1, jup h 24 0 0)
set_option maxRecDepth 100000 in
set_option maxHeartbeats 4000000 in
theorem C_M_seen {E : jE} {h : jH} {res : Int × jH} (hv : f_M_seen h = some res) : jC E M_M_seen [(2, ((24 : Nat) : Int))] h (some (0, res.1)) res.2 := by
  refine jC.of ok_M_seen.1 (by rw [jlg]; exact Nat.le_of_ble_eq_true rfl) ?_
  show jG E _ 0 [(0, (2, ((24 : Nat) : Int)))] [] h _ _
  unfold f_M_seen at hv
  refine jG.blk (st_M_seen) 5 (pc1 := 9) (L1 := [(0, (2, ((24 : Nat) : Int)))]) (st1 := [(0, (jup h 24 0 0) 24 8)]) (h1 := jup h 24 0 0) rfl ?_
  refine jT.if1 (st_M_seen) rfl (tgt := 19) (by decide) (fun hc => ?_) (fun hc => ?_)
  · have hc : (jup h 24 0 0) 24 8 = 0 := hc
    try rw [if_pos hc] at hv
    refine jG.blk (st_M_seen) 1 (pc1 := 20) (L1 := [(0, (2, ((24 : Nat) : Int)))]) (st1 := [(0, (-1))]) (h1 := jup h 24 0 0) rfl ?_
    cases hv
    exact jT.iret (st_M_seen) rfl trivial
  · have hc : ¬ ((jup h 24 0 0) 24 8 = 0) := hc
    try rw [if_neg hc] at hv
    refine jG.blk (st_M_seen) 1 (pc1 := 13) (L1 := [(0, (2, ((24 : Nat) : Int)))]) (st1 := [(2, ((24 : Nat) : Int))]) (h1 := jup h 24 0 0) rfl ?_
    obtain ⟨v1, hq, hv⟩ := Option.bind_eq_some_iff.mp hv
    refine jT.cV (M1 := M_M_seenOf) (2, ((24 : Nat) : Int)) [] [] (st_M_seen) rfl rfl ok_M_seenOf rfl (Or.inl ⟨rfl, _, _, _, rfl, rfl⟩) (Nat.le_of_ble_eq_true rfl) (Nat.le_of_ble_eq_true rfl) rfl (Nat.le_of_ble_eq_true rfl) (C_M_seenOf hq) ?_
    show jG E _ 16 [(0, (2, ((24 : Nat) : Int)))] [(0, v1)] (jup h 24 0 0) _ _
    refine jT.goto (st_M_seen) rfl (tgt := 20) (by decide) ?_
    cases hv
    exact jT.iret (st_M_seen) rfl trivial
def f_M_isDead_j33_4 (rc : Int → Int → Option (Int)) (k : Int → Int → Option (Int)) (h : jH) (l5 : Int) (l6 : Int) : Option (Int) := rc (jadd l5 1) (jadd l6 1)
def f_M_isDead_j54_4 (rc : Int → Int → Option (Int)) (k : Int → Int → Option (Int)) (h : jH) (l7 : Int) (l8 : Int) : Option (Int) := rc (jadd l7 2) (jadd l8 1)
def f_M_isDead_lp4 (h : jH) (k : Int → Int → Option (Int)) : Nat → Int → Int → Option (Int)
  | 0, _, _ => none
  | n + 1, l1, l2 => if 64 ≤ l2 then k l1 l2 else (f_M_piece h (h 24 7) l2).bind fun v3 => (f_M_kindOf h v3).bind fun v4 => if v4 = 2 then f_M_isDead_j33_4 (f_M_isDead_lp4 h k n) k h l1 l2 else if v4 = 3 then f_M_isDead_j33_4 (f_M_isDead_lp4 h k n) k h l1 l2 else if v4 = 1 then f_M_isDead_j54_4 (f_M_isDead_lp4 h k n) k h l1 l2 else if v4 = 4 then f_M_isDead_j54_4 (f_M_isDead_lp4 h k n) k h l1 l2 else if v4 = 5 then f_M_isDead_j54_4 (f_M_isDead_lp4 h k n) k h l1 l2 else f_M_isDead_lp4 h k n l1 (jadd l2 1)
def f_M_isDead (h : jH) : Option (Int) := f_M_isDead_lp4 h (fun l9 l10 => some (if 2 ≤ l9 then 0 else 1)) 1000 0 0
set_option maxRecDepth 100000 in
set_option maxHeartbeats 4000000 in
theorem f_M_isDead_j33_4_ok (E : jE) {rc : Int → Int → Option (Int)} {k : Int → Int → Option (Int)} {h : jH} (hrc : ∀ (l1 : Int) (l2 : Int) (res : Int), rc l1 l2 = some res → jG E M_M_isDead 4 [(0, (2, ((24 : Nat) : Int))), (1, (0, l1)), (2, (0, l2))] [] h (some (0, res)) h) (hk : ∀ (l1 : Int) (l2 : Int) (res : Int), k l1 l2 = some res → jG E M_M_isDead 68 [(1, (0, l1))] [] h (some (0, res)) h) {l5 : Int} {l6 : Int} {res : Int} (hv : f_M_isDead_j33_4 rc k h l5 l6 = some res) : jG E M_M_isDead 33 [(0, (2, ((24 : Nat) : Int))), (1, (0, l5)), (2, (0, l6))] [] h (some (0, res)) h := by
  unfold f_M_isDead_j33_4 at hv
  refine jG.blk (st_M_isDead) 3 (pc1 := 36) (L1 := [(0, (2, ((24 : Nat) : Int))), (1, (0, l5)), (2, (0, l6))]) (st1 := [(0, jadd l5 1)]) (h1 := h) rfl ?_
  refine jT.goto (st_M_isDead) rfl (tgt := 61) (by decide) ?_
  refine jG.blk (st_M_isDead) 2 (pc1 := 65) (L1 := [(2, (0, jadd l6 1)), (1, (0, jadd l5 1)), (0, (2, ((24 : Nat) : Int)))]) (st1 := []) (h1 := h) rfl ?_
  refine jT.goto (st_M_isDead) rfl (tgt := 4) (by decide) ?_
  refine jG.subp [2, 1, 0] (L1 := [(0, (2, ((24 : Nat) : Int))), (1, (0, jadd l5 1)), (2, (0, jadd l6 1))]) rfl ?_
  exact hrc _ _ _ hv
set_option maxRecDepth 100000 in
set_option maxHeartbeats 4000000 in
theorem f_M_isDead_j54_4_ok (E : jE) {rc : Int → Int → Option (Int)} {k : Int → Int → Option (Int)} {h : jH} (hrc : ∀ (l1 : Int) (l2 : Int) (res : Int), rc l1 l2 = some res → jG E M_M_isDead 4 [(0, (2, ((24 : Nat) : Int))), (1, (0, l1)), (2, (0, l2))] [] h (some (0, res)) h) (hk : ∀ (l1 : Int) (l2 : Int) (res : Int), k l1 l2 = some res → jG E M_M_isDead 68 [(1, (0, l1))] [] h (some (0, res)) h) {l7 : Int} {l8 : Int} {res : Int} (hv : f_M_isDead_j54_4 rc k h l7 l8 = some res) : jG E M_M_isDead 54 [(0, (2, ((24 : Nat) : Int))), (1, (0, l7)), (2, (0, l8))] [] h (some (0, res)) h := by
  unfold f_M_isDead_j54_4 at hv
  refine jG.blk (st_M_isDead) 3 (pc1 := 57) (L1 := [(0, (2, ((24 : Nat) : Int))), (1, (0, l7)), (2, (0, l8))]) (st1 := [(0, jadd l7 2)]) (h1 := h) rfl ?_
  refine jT.goto (st_M_isDead) rfl (tgt := 61) (by decide) ?_
  refine jG.blk (st_M_isDead) 2 (pc1 := 65) (L1 := [(2, (0, jadd l8 1)), (1, (0, jadd l7 2)), (0, (2, ((24 : Nat) : Int)))]) (st1 := []) (h1 := h) rfl ?_
  refine jT.goto (st_M_isDead) rfl (tgt := 4) (by decide) ?_
  refine jG.subp [2, 1, 0] (L1 := [(0, (2, ((24 : Nat) : Int))), (1, (0, jadd l7 2)), (2, (0, jadd l8 1))]) rfl ?_
  exact hrc _ _ _ hv
set_option maxRecDepth 100000 in
set_option maxHeartbeats 4000000 in
theorem f_M_isDead_lp4_ok (E : jE) {h : jH} {k : Int → Int → Option (Int)} (hk : ∀ (l1 : Int) (l2 : Int) (res : Int), k l1 l2 = some res → jG E M_M_isDead 68 [(1, (0, l1))] [] h (some (0, res)) h) : ∀ (n : Nat) (l1 : Int) (l2 : Int) (res : Int), f_M_isDead_lp4 h k n l1 l2 = some res → jG E M_M_isDead 4 [(0, (2, ((24 : Nat) : Int))), (1, (0, l1)), (2, (0, l2))] [] h (some (0, res)) h := by
  intro n
  induction n with
  | zero => intro l1 l2 res hv; cases hv
  | succ n ih =>
    intro l1 l2 res hv
    rw [f_M_isDead_lp4] at hv
    refine jG.blk (st_M_isDead) 2 (pc1 := 7) (L1 := [(0, (2, ((24 : Nat) : Int))), (1, (0, l1)), (2, (0, l2))]) (st1 := [(0, 64), (0, l2)]) (h1 := h) rfl ?_
    refine jT.if2 (st_M_isDead) rfl (tgt := 68) (by decide) (fun hc => ?_) (fun hc => ?_)
    · have hc : 64 ≤ l2 := hc
      try rw [if_pos hc] at hv
      refine jG.subp [1] (L1 := [(1, (0, l1))]) rfl ?_
      exact hk _ _ _ hv
    · have hc : ¬ (64 ≤ l2) := hc
      try rw [if_neg hc] at hv
      refine jG.blk (st_M_isDead) 4 (pc1 := 16) (L1 := [(0, (2, ((24 : Nat) : Int))), (1, (0, l1)), (2, (0, l2))]) (st1 := [(0, l2), (0, h 24 7), (2, ((24 : Nat) : Int))]) (h1 := h) rfl ?_
      obtain ⟨v3, hq, hv⟩ := Option.bind_eq_some_iff.mp hv
      refine jT.cV (M1 := M_M_piece) (2, ((24 : Nat) : Int)) [(0, h 24 7), (0, l2)] [] (st_M_isDead) rfl rfl ok_M_piece rfl (Or.inl ⟨rfl, _, _, _, rfl, rfl⟩) (Nat.le_of_ble_eq_true rfl) (Nat.le_of_ble_eq_true rfl) rfl (Nat.le_of_ble_eq_true rfl) (C_M_piece hq) ?_
      show jG E _ 19 [(0, (2, ((24 : Nat) : Int))), (1, (0, l1)), (2, (0, l2))] [(0, v3)] h _ _
      obtain ⟨v4, hq, hv⟩ := Option.bind_eq_some_iff.mp hv
      refine jT.cS (M1 := M_M_kindOf) [(0, v3)] [] (st_M_isDead) rfl rfl ok_M_kindOf rfl (Nat.le_of_ble_eq_true rfl) (Nat.le_of_ble_eq_true rfl) rfl (Nat.le_of_ble_eq_true rfl) (C_M_kindOf hq) ?_
      show jG E _ 22 [(0, (2, ((24 : Nat) : Int))), (1, (0, l1)), (2, (0, l2))] [(0, v4)] h _ _
      refine jG.blk (st_M_isDead) 3 (pc1 := 25) (L1 := [(3, (0, v4)), (0, (2, ((24 : Nat) : Int))), (1, (0, l1)), (2, (0, l2))]) (st1 := [(0, 2), (0, v4)]) (h1 := h) rfl ?_
      refine jT.if2 (st_M_isDead) rfl (tgt := 33) (by decide) (fun hc => ?_) (fun hc => ?_)
      · have hc : v4 = 2 := hc
        try rw [if_pos hc] at hv
        refine jG.subp [1, 2, 3] (L1 := [(0, (2, ((24 : Nat) : Int))), (1, (0, l1)), (2, (0, l2))]) rfl ?_
        exact f_M_isDead_j33_4_ok E ih hk hv
      · have hc : ¬ (v4 = 2) := hc
        try rw [if_neg hc] at hv
        refine jG.blk (st_M_isDead) 2 (pc1 := 30) (L1 := [(3, (0, v4)), (0, (2, ((24 : Nat) : Int))), (1, (0, l1)), (2, (0, l2))]) (st1 := [(0, 3), (0, v4)]) (h1 := h) rfl ?_
        refine jT.if2 (st_M_isDead) rfl (tgt := 39) (by decide) (fun hc => ?_) (fun hc => ?_)
        · have hc : ¬ (v4 = 3) := hc
          try rw [if_neg hc] at hv
          refine jG.blk (st_M_isDead) 2 (pc1 := 41) (L1 := [(3, (0, v4)), (0, (2, ((24 : Nat) : Int))), (1, (0, l1)), (2, (0, l2))]) (st1 := [(0, 1), (0, v4)]) (h1 := h) rfl ?_
          refine jT.if2 (st_M_isDead) rfl (tgt := 54) (by decide) (fun hc => ?_) (fun hc => ?_)
          · have hc : v4 = 1 := hc
            try rw [if_pos hc] at hv
            refine jG.subp [1, 2, 3] (L1 := [(0, (2, ((24 : Nat) : Int))), (1, (0, l1)), (2, (0, l2))]) rfl ?_
            exact f_M_isDead_j54_4_ok E ih hk hv
          · have hc : ¬ (v4 = 1) := hc
            try rw [if_neg hc] at hv
            refine jG.blk (st_M_isDead) 2 (pc1 := 46) (L1 := [(3, (0, v4)), (0, (2, ((24 : Nat) : Int))), (1, (0, l1)), (2, (0, l2))]) (st1 := [(0, 4), (0, v4)]) (h1 := h) rfl ?_
            refine jT.if2 (st_M_isDead) rfl (tgt := 54) (by decide) (fun hc => ?_) (fun hc => ?_)
            · have hc : v4 = 4 := hc
              try rw [if_pos hc] at hv
              refine jG.subp [1, 2, 3] (L1 := [(0, (2, ((24 : Nat) : Int))), (1, (0, l1)), (2, (0, l2))]) rfl ?_
              exact f_M_isDead_j54_4_ok E ih hk hv
            · have hc : ¬ (v4 = 4) := hc
              try rw [if_neg hc] at hv
              refine jG.blk (st_M_isDead) 2 (pc1 := 51) (L1 := [(3, (0, v4)), (0, (2, ((24 : Nat) : Int))), (1, (0, l1)), (2, (0, l2))]) (st1 := [(0, 5), (0, v4)]) (h1 := h) rfl ?_
              refine jT.if2 (st_M_isDead) rfl (tgt := 60) (by decide) (fun hc => ?_) (fun hc => ?_)
              · have hc : ¬ (v4 = 5) := hc
                try rw [if_neg hc] at hv
                refine jG.blk (st_M_isDead) 3 (pc1 := 65) (L1 := [(2, (0, jadd l2 1)), (1, (0, l1)), (3, (0, v4)), (0, (2, ((24 : Nat) : Int)))]) (st1 := []) (h1 := h) rfl ?_
                refine jT.goto (st_M_isDead) rfl (tgt := 4) (by decide) ?_
                refine jG.subp [3, 1, 0] (L1 := [(0, (2, ((24 : Nat) : Int))), (1, (0, l1)), (2, (0, jadd l2 1))]) rfl ?_
                exact ih _ _ _ hv
              · have hc : v4 = 5 := Decidable.not_not.mp hc
                try rw [if_pos hc] at hv
                refine jG.subp [1, 2, 3] (L1 := [(0, (2, ((24 : Nat) : Int))), (1, (0, l1)), (2, (0, l2))]) rfl ?_
                exact f_M_isDead_j54_4_ok E ih hk hv
        · have hc : v4 = 3 := Decidable.not_not.mp hc
          try rw [if_pos hc] at hv
          refine jG.subp [1, 2, 3] (L1 := [(0, (2, ((24 : Nat) : Int))), (1, (0, l1)), (2, (0, l2))]) rfl ?_
          exact f_M_isDead_j33_4_ok E ih hk hv
set_option maxRecDepth 100000 in
set_option maxHeartbeats 4000000 in
theorem C_M_isDead {E : jE} {h : jH} {res : Int} (hv : f_M_isDead h = some res) : jC E M_M_isDead [(2, ((24 : Nat) : Int))] h (some (0, res)) h := by
  refine jC.of ok_M_isDead.1 (by rw [jlg]; exact Nat.le_of_ble_eq_true rfl) ?_
  show jG E _ 0 [(0, (2, ((24 : Nat) : Int)))] [] h _ _
  unfold f_M_isDead at hv
  refine jG.blk (st_M_isDead) 4 (pc1 := 4) (L1 := [(2, (0, 0)), (1, (0, 0)), (0, (2, ((24 : Nat) : Int)))]) (st1 := []) (h1 := h) rfl ?_
  refine jG.subp [2, 1, 0] (L1 := [(0, (2, ((24 : Nat) : Int))), (1, (0, 0)), (2, (0, 0))]) rfl ?_
  refine f_M_isDead_lp4_ok E (fun l9 l10 res hv => ?_) 1000 _ _ _ hv
  · refine jG.blk (st_M_isDead) 2 (pc1 := 70) (L1 := [(1, (0, l9))]) (st1 := [(0, 2), (0, l9)]) (h1 := h) rfl ?_
    refine jT.if2 (st_M_isDead) rfl (tgt := 77) (by decide) (fun hc => ?_) (fun hc => ?_)
    · have hc : 2 ≤ l9 := hc
      try rw [if_pos hc] at hv
      refine jG.blk (st_M_isDead) 1 (pc1 := 78) (L1 := [(1, (0, l9))]) (st1 := [(0, 0)]) (h1 := h) rfl ?_
      cases hv
      exact jT.iret (st_M_isDead) rfl (Or.inl rfl)
    · have hc : ¬ (2 ≤ l9) := hc
      try rw [if_neg hc] at hv
      refine jG.blk (st_M_isDead) 1 (pc1 := 74) (L1 := [(1, (0, l9))]) (st1 := [(0, 1)]) (h1 := h) rfl ?_
      refine jT.goto (st_M_isDead) rfl (tgt := 78) (by decide) ?_
      cases hv
      exact jT.iret (st_M_isDead) rfl (Or.inr rfl)
def f_M_status (h : jH) : Option (Int × jH) := if (jup h 24 0 0) 24 8 = 0 then some ((-1), jup h 24 0 0) else (f_M_movesOf (jup h 24 0 0) ((jup h 24 0 0) 24 7)).bind fun v1 => if v1.1 = 0 then (f_M_isChecked v1.2 (v1.2 24 7)).bind fun v4 => some (if v4 = 0 then (2, v1.2) else (1, v1.2)) else jgd (0 ≤ v1.2 24 7 ∧ v1.2 24 7 < 304) (if v1.2 29 (v1.2 24 7).toNat < 150 then (f_M_seenOf v1.2).bind fun v2 => if v2 < 5 then (f_M_isDead v1.2).bind fun v3 => some (if v3 = 0 then (0, v1.2) else (5, v1.2)) else some (4, v1.2) else some (3, v1.2))
set_option maxRecDepth 100000 in
set_option maxHeartbeats 4000000 in
theorem C_M_status {E : jE} {h : jH} {res : Int × jH} (hv : f_M_status h = some res) : jC E M_M_status [(2, ((24 : Nat) : Int))] h (some (0, res.1)) res.2 := by
  refine jC.of ok_M_status.1 (by rw [jlg]; exact Nat.le_of_ble_eq_true rfl) ?_
  show jG E _ 0 [(0, (2, ((24 : Nat) : Int)))] [] h _ _
  unfold f_M_status at hv
  refine jG.blk (st_M_status) 5 (pc1 := 9) (L1 := [(0, (2, ((24 : Nat) : Int)))]) (st1 := [(0, (jup h 24 0 0) 24 8)]) (h1 := jup h 24 0 0) rfl ?_
  refine jT.if1 (st_M_status) rfl (tgt := 14) (by decide) (fun hc => ?_) (fun hc => ?_)
  · have hc : ¬ ((jup h 24 0 0) 24 8 = 0) := hc
    try rw [if_neg hc] at hv
    refine jG.blk (st_M_status) 3 (pc1 := 19) (L1 := [(0, (2, ((24 : Nat) : Int)))]) (st1 := [(0, (jup h 24 0 0) 24 7), (2, ((24 : Nat) : Int))]) (h1 := jup h 24 0 0) rfl ?_
    obtain ⟨v1, hq, hv⟩ := Option.bind_eq_some_iff.mp hv
    refine jT.cV (M1 := M_M_movesOf) (2, ((24 : Nat) : Int)) [(0, (jup h 24 0 0) 24 7)] [] (st_M_status) rfl rfl ok_M_movesOf rfl (Or.inl ⟨rfl, _, _, _, rfl, rfl⟩) (Nat.le_of_ble_eq_true rfl) (Nat.le_of_ble_eq_true rfl) rfl (Nat.le_of_ble_eq_true rfl) (C_M_movesOf hq) ?_
    show jG E _ 22 [(0, (2, ((24 : Nat) : Int)))] [(0, v1.1)] v1.2 _ _
    refine jT.if1 (st_M_status) rfl (tgt := 42) (by decide) (fun hc => ?_) (fun hc => ?_)
    · have hc : ¬ (v1.1 = 0) := hc
      try rw [if_neg hc] at hv
      refine jG.blk (st_M_status) 4 (pc1 := 50) (L1 := [(0, (2, ((24 : Nat) : Int)))]) (st1 := [(0, v1.2 24 7), (2, ((29 : Nat) : Int))]) (h1 := v1.2) rfl ?_
      obtain ⟨hg, hv⟩ := jgd_some hv
      refine jT.iald (a := 29) (st_M_status) rfl rfl (by decide) hg.1 hg.2 ?_
      refine jG.blk (st_M_status) 1 (pc1 := 54) (L1 := [(0, (2, ((24 : Nat) : Int)))]) (st1 := [(0, 150), (0, v1.2 29 (v1.2 24 7).toNat)]) (h1 := v1.2) rfl ?_
      refine jT.if2 (st_M_status) rfl (tgt := 61) (by decide) (fun hc => ?_) (fun hc => ?_)
      · have hc : v1.2 29 (v1.2 24 7).toNat < 150 := hc
        try rw [if_pos hc] at hv
        refine jG.blk (st_M_status) 1 (pc1 := 62) (L1 := [(0, (2, ((24 : Nat) : Int)))]) (st1 := [(2, ((24 : Nat) : Int))]) (h1 := v1.2) rfl ?_
        obtain ⟨v2, hq, hv⟩ := Option.bind_eq_some_iff.mp hv
        refine jT.cV (M1 := M_M_seenOf) (2, ((24 : Nat) : Int)) [] [] (st_M_status) rfl rfl ok_M_seenOf rfl (Or.inl ⟨rfl, _, _, _, rfl, rfl⟩) (Nat.le_of_ble_eq_true rfl) (Nat.le_of_ble_eq_true rfl) rfl (Nat.le_of_ble_eq_true rfl) (C_M_seenOf hq) ?_
        show jG E _ 65 [(0, (2, ((24 : Nat) : Int)))] [(0, v2)] v1.2 _ _
        refine jG.blk (st_M_status) 1 (pc1 := 66) (L1 := [(0, (2, ((24 : Nat) : Int)))]) (st1 := [(0, 5), (0, v2)]) (h1 := v1.2) rfl ?_
        refine jT.if2 (st_M_status) rfl (tgt := 73) (by decide) (fun hc => ?_) (fun hc => ?_)
        · have hc : v2 < 5 := hc
          try rw [if_pos hc] at hv
          refine jG.blk (st_M_status) 1 (pc1 := 74) (L1 := [(0, (2, ((24 : Nat) : Int)))]) (st1 := [(2, ((24 : Nat) : Int))]) (h1 := v1.2) rfl ?_
          obtain ⟨v3, hq, hv⟩ := Option.bind_eq_some_iff.mp hv
          refine jT.cV (M1 := M_M_isDead) (2, ((24 : Nat) : Int)) [] [] (st_M_status) rfl rfl ok_M_isDead rfl (Or.inl ⟨rfl, _, _, _, rfl, rfl⟩) (Nat.le_of_ble_eq_true rfl) (Nat.le_of_ble_eq_true rfl) rfl (Nat.le_of_ble_eq_true rfl) (C_M_isDead hq) ?_
          show jG E _ 77 [(0, (2, ((24 : Nat) : Int)))] [(0, v3)] v1.2 _ _
          refine jT.if1 (st_M_status) rfl (tgt := 84) (by decide) (fun hc => ?_) (fun hc => ?_)
          · have hc : v3 = 0 := hc
            try rw [if_pos hc] at hv
            refine jG.blk (st_M_status) 1 (pc1 := 85) (L1 := [(0, (2, ((24 : Nat) : Int)))]) (st1 := [(0, 0)]) (h1 := v1.2) rfl ?_
            cases hv
            exact jT.iret (st_M_status) rfl trivial
          · have hc : ¬ (v3 = 0) := hc
            try rw [if_neg hc] at hv
            refine jG.blk (st_M_status) 1 (pc1 := 81) (L1 := [(0, (2, ((24 : Nat) : Int)))]) (st1 := [(0, 5)]) (h1 := v1.2) rfl ?_
            refine jT.goto (st_M_status) rfl (tgt := 85) (by decide) ?_
            cases hv
            exact jT.iret (st_M_status) rfl trivial
        · have hc : ¬ (v2 < 5) := hc
          try rw [if_neg hc] at hv
          refine jG.blk (st_M_status) 1 (pc1 := 70) (L1 := [(0, (2, ((24 : Nat) : Int)))]) (st1 := [(0, 4)]) (h1 := v1.2) rfl ?_
          refine jT.goto (st_M_status) rfl (tgt := 85) (by decide) ?_
          cases hv
          exact jT.iret (st_M_status) rfl trivial
      · have hc : ¬ (v1.2 29 (v1.2 24 7).toNat < 150) := hc
        try rw [if_neg hc] at hv
        refine jG.blk (st_M_status) 1 (pc1 := 58) (L1 := [(0, (2, ((24 : Nat) : Int)))]) (st1 := [(0, 3)]) (h1 := v1.2) rfl ?_
        refine jT.goto (st_M_status) rfl (tgt := 85) (by decide) ?_
        cases hv
        exact jT.iret (st_M_status) rfl trivial
    · have hc : v1.1 = 0 := Decidable.not_not.mp hc
      try rw [if_pos hc] at hv
      refine jG.blk (st_M_status) 3 (pc1 := 30) (L1 := [(0, (2, ((24 : Nat) : Int)))]) (st1 := [(0, v1.2 24 7), (2, ((24 : Nat) : Int))]) (h1 := v1.2) rfl ?_
      obtain ⟨v4, hq, hv⟩ := Option.bind_eq_some_iff.mp hv
      refine jT.cV (M1 := M_M_isChecked) (2, ((24 : Nat) : Int)) [(0, v1.2 24 7)] [] (st_M_status) rfl rfl ok_M_isChecked rfl (Or.inl ⟨rfl, _, _, _, rfl, rfl⟩) (Nat.le_of_ble_eq_true rfl) (Nat.le_of_ble_eq_true rfl) rfl (Nat.le_of_ble_eq_true rfl) (C_M_isChecked hq) ?_
      show jG E _ 33 [(0, (2, ((24 : Nat) : Int)))] [(0, v4)] v1.2 _ _
      refine jT.if1 (st_M_status) rfl (tgt := 40) (by decide) (fun hc => ?_) (fun hc => ?_)
      · have hc : v4 = 0 := hc
        try rw [if_pos hc] at hv
        refine jG.blk (st_M_status) 1 (pc1 := 41) (L1 := [(0, (2, ((24 : Nat) : Int)))]) (st1 := [(0, 2)]) (h1 := v1.2) rfl ?_
        cases hv
        exact jT.iret (st_M_status) rfl trivial
      · have hc : ¬ (v4 = 0) := hc
        try rw [if_neg hc] at hv
        refine jG.blk (st_M_status) 1 (pc1 := 37) (L1 := [(0, (2, ((24 : Nat) : Int)))]) (st1 := [(0, 1)]) (h1 := v1.2) rfl ?_
        refine jT.goto (st_M_status) rfl (tgt := 41) (by decide) ?_
        cases hv
        exact jT.iret (st_M_status) rfl trivial
  · have hc : (jup h 24 0 0) 24 8 = 0 := Decidable.not_not.mp hc
    try rw [if_pos hc] at hv
    refine jG.blk (st_M_status) 1 (pc1 := 13) (L1 := [(0, (2, ((24 : Nat) : Int)))]) (st1 := [(0, (-1))]) (h1 := jup h 24 0 0) rfl ?_
    cases hv
    exact jT.iret (st_M_status) rfl trivial
def f_M_behindAll_j78_66 (rc : Int → Int → jH → Option (Int × jH)) (k : Int → Int → jH → Option (Int × jH)) (h23 : jH) (h28 : jH) (x19 : Int) (x20 : Int) (x21 : Int) (x22 : Int) (l24 : Int) (l25 : Int) (s26 : Int) (s27 : Int) : Option (Int × jH) := if s26 ≤ s27 then k l24 l25 h28 else (f_M_isLegal h28 (h28 24 7) x20 x21 l25).bind fun v29 => if v29.1 = 0 then rc l24 (jadd l25 1) v29.2 else (f_M_go v29.2 (v29.2 24 7) x20 x21 l25).bind fun v30 => if x19 = 0 then (f_M_movesOf v30 (jadd (v30 24 7) 1)).bind fun v33 => rc (jadd l24 v33.1) (jadd l25 1) v33.2 else (f_M_isChecked v30 (jadd (v30 24 7) 1)).bind fun v31 => if v31 = 0 then rc l24 (jadd l25 1) v30 else (f_M_movesOf v30 (jadd (v30 24 7) 1)).bind fun v32 => rc (if v32.1 = 0 then jadd l24 1 else l24) (jadd l25 1) v32.2
def f_M_behindAll_lp66 (x19 : Int) (x20 : Int) (x21 : Int) (x22 : Int) (k : Int → Int → jH → Option (Int × jH)) : Nat → Int → Int → jH → Option (Int × jH)
  | 0, _, _, _ => none
  | n + 1, l17, l18, h23 => f_M_behindAll_j78_66 (f_M_behindAll_lp66 x19 x20 x21 x22 k n) k h23 h23 x19 x20 x21 x22 l17 l18 (if x22 = 0 then 1 else 5) l18
def f_M_behindAll_j64_13 (rc : Int → Int → jH → Option (Int × jH)) (k : Int → Int → jH → Option (Int × jH)) (h9 : jH) (h16 : jH) (x7 : Int) (x8 : Int) (l12 : Int) (l13 : Int) (l14 : Int) (s15 : Int) : Option (Int × jH) := f_M_behindAll_lp66 x7 x8 l13 l14 (fun l34 l35 h36 => rc l34 (jadd l13 1) h36) 1000 l12 s15 h16
def f_M_behindAll_lp13 (x7 : Int) (x8 : Int) (k : Int → Int → jH → Option (Int × jH)) : Nat → Int → Int → jH → Option (Int × jH)
  | 0, _, _, _ => none
  | n + 1, l5, l6, h9 => if 64 ≤ l6 then k l5 l6 h9 else jgd (0 ≤ h9 24 7 ∧ h9 24 7 < 304) ((f_M_isOf h9 (h9 24 7) x8 (h9 26 (h9 24 7).toNat)).bind fun v10 => if v10 = 0 then k l5 l6 h9 else (f_M_isLast h9 (h9 24 7) x8 l6).bind fun v11 => f_M_behindAll_j64_13 (f_M_behindAll_lp13 x7 x8 k n) k h9 h9 x7 x8 l5 l6 v11 (if v11 = 0 then 0 else 1))
def f_M_behindAll_lp4 (x3 : Int) (k : Int → Int → jH → Option (Int × jH)) : Nat → Int → Int → jH → Option (Int × jH)
  | 0, _, _, _ => none
  | n + 1, l1, l2, h4 => if 64 ≤ l2 then k l1 l2 h4 else f_M_behindAll_lp13 x3 l2 (fun l37 l38 h39 => f_M_behindAll_lp4 x3 k n l37 (jadd l2 1) h39) 1000 l1 0 h4
def f_M_behindAll (h : jH) (a1 : Int) : Option (Int × jH) := f_M_behindAll_lp4 a1 (fun l40 l41 h42 => some (l40, h42)) 1000 0 0 h
set_option maxRecDepth 100000 in
set_option maxHeartbeats 4000000 in
theorem f_M_behindAll_j78_66_ok (E : jE) {rc : Int → Int → jH → Option (Int × jH)} {k : Int → Int → jH → Option (Int × jH)} {h23 : jH} {h28 : jH} {x19 : Int} {x20 : Int} {x21 : Int} {x22 : Int} (hrc : ∀ (l17 : Int) (l18 : Int) (h23 : jH) (res : Int × jH), rc l17 l18 h23 = some res → jG E M_M_behindAll 66 [(0, (2, ((24 : Nat) : Int))), (1, (0, x19)), (2, (0, l17)), (3, (0, x20)), (4, (0, x21)), (5, (0, x22)), (6, (0, l18))] [] h23 (some (0, res.1)) res.2) (hk : ∀ (l17 : Int) (l18 : Int) (h23 : jH) (res : Int × jH), k l17 l18 h23 = some res → jG E M_M_behindAll 170 [(0, (2, ((24 : Nat) : Int))), (1, (0, x19)), (2, (0, l17)), (3, (0, x20)), (4, (0, x21))] [] h23 (some (0, res.1)) res.2) {l24 : Int} {l25 : Int} {s26 : Int} {s27 : Int} {res : Int × jH} (hv : f_M_behindAll_j78_66 rc k h23 h28 x19 x20 x21 x22 l24 l25 s26 s27 = some res) : jG E M_M_behindAll 78 [(0, (2, ((24 : Nat) : Int))), (1, (0, x19)), (2, (0, l24)), (3, (0, x20)), (4, (0, x21)), (5, (0, x22)), (6, (0, l25))] [(0, s26), (0, s27)] h28 (some (0, res.1)) res.2 := by
  unfold f_M_behindAll_j78_66 at hv
  refine jT.if2 (st_M_behindAll) rfl (tgt := 170) (by decide) (fun hc => ?_) (fun hc => ?_)
  · have hc : s26 ≤ s27 := hc
    try rw [if_pos hc] at hv
    refine jG.subp [0, 1, 2, 3, 4] (L1 := [(0, (2, ((24 : Nat) : Int))), (1, (0, x19)), (2, (0, l24)), (3, (0, x20)), (4, (0, x21))]) rfl ?_
    exact hk _ _ _ _ hv
  · have hc : ¬ (s26 ≤ s27) := hc
    try rw [if_neg hc] at hv
    refine jG.blk (st_M_behindAll) 6 (pc1 := 91) (L1 := [(0, (2, ((24 : Nat) : Int))), (1, (0, x19)), (2, (0, l24)), (3, (0, x20)), (4, (0, x21)), (5, (0, x22)), (6, (0, l25))]) (st1 := [(0, l25), (0, x21), (0, x20), (0, h28 24 7), (2, ((24 : Nat) : Int))]) (h1 := h28) rfl ?_
    obtain ⟨v29, hq, hv⟩ := Option.bind_eq_some_iff.mp hv
    refine jT.cV (M1 := M_M_isLegal) (2, ((24 : Nat) : Int)) [(0, h28 24 7), (0, x20), (0, x21), (0, l25)] [] (st_M_behindAll) rfl rfl ok_M_isLegal rfl (Or.inl ⟨rfl, _, _, _, rfl, rfl⟩) (Nat.le_of_ble_eq_true rfl) (Nat.le_of_ble_eq_true rfl) rfl (Nat.le_of_ble_eq_true rfl) (C_M_isLegal hq) ?_
    show jG E _ 94 [(0, (2, ((24 : Nat) : Int))), (1, (0, x19)), (2, (0, l24)), (3, (0, x20)), (4, (0, x21)), (5, (0, x22)), (6, (0, l25))] [(0, v29.1)] v29.2 _ _
    refine jT.if1 (st_M_behindAll) rfl (tgt := 164) (by decide) (fun hc => ?_) (fun hc => ?_)
    · have hc : v29.1 = 0 := hc
      try rw [if_pos hc] at hv
      refine jG.blk (st_M_behindAll) 1 (pc1 := 167) (L1 := [(6, (0, jadd l25 1)), (0, (2, ((24 : Nat) : Int))), (1, (0, x19)), (2, (0, l24)), (3, (0, x20)), (4, (0, x21)), (5, (0, x22))]) (st1 := []) (h1 := v29.2) rfl ?_
      refine jT.goto (st_M_behindAll) rfl (tgt := 66) (by decide) ?_
      refine jG.subp [1, 2, 3, 4, 5, 6, 0] (L1 := [(0, (2, ((24 : Nat) : Int))), (1, (0, x19)), (2, (0, l24)), (3, (0, x20)), (4, (0, x21)), (5, (0, x22)), (6, (0, jadd l25 1))]) rfl ?_
      exact hrc _ _ _ _ hv
    · have hc : ¬ (v29.1 = 0) := hc
      try rw [if_neg hc] at hv
      refine jG.blk (st_M_behindAll) 6 (pc1 := 107) (L1 := [(0, (2, ((24 : Nat) : Int))), (1, (0, x19)), (2, (0, l24)), (3, (0, x20)), (4, (0, x21)), (5, (0, x22)), (6, (0, l25))]) (st1 := [(0, l25), (0, x21), (0, x20), (0, v29.2 24 7), (2, ((24 : Nat) : Int))]) (h1 := v29.2) rfl ?_
      obtain ⟨v30, hq, hv⟩ := Option.bind_eq_some_iff.mp hv
      refine jT.cV (M1 := M_M_go) (2, ((24 : Nat) : Int)) [(0, v29.2 24 7), (0, x20), (0, x21), (0, l25)] [] (st_M_behindAll) rfl rfl ok_M_go rfl (Or.inl ⟨rfl, _, _, _, rfl, rfl⟩) (Nat.le_of_ble_eq_true rfl) (Nat.le_of_ble_eq_true rfl) rfl (Nat.le_of_ble_eq_true rfl) (C_M_go hq) ?_
      show jG E _ 110 [(0, (2, ((24 : Nat) : Int))), (1, (0, x19)), (2, (0, l24)), (3, (0, x20)), (4, (0, x21)), (5, (0, x22)), (6, (0, l25))] [] v30 _ _
      refine jG.blk (st_M_behindAll) 1 (pc1 := 111) (L1 := [(0, (2, ((24 : Nat) : Int))), (1, (0, x19)), (2, (0, l24)), (3, (0, x20)), (4, (0, x21)), (5, (0, x22)), (6, (0, l25))]) (st1 := [(0, x19)]) (h1 := v30) rfl ?_
      refine jT.if1 (st_M_behindAll) rfl (tgt := 130) (by decide) (fun hc => ?_) (fun hc => ?_)
      · have hc : ¬ (x19 = 0) := hc
        try rw [if_neg hc] at hv
        refine jG.blk (st_M_behindAll) 5 (pc1 := 137) (L1 := [(0, (2, ((24 : Nat) : Int))), (1, (0, x19)), (2, (0, l24)), (3, (0, x20)), (4, (0, x21)), (5, (0, x22)), (6, (0, l25))]) (st1 := [(0, jadd (v30 24 7) 1), (2, ((24 : Nat) : Int))]) (h1 := v30) rfl ?_
        obtain ⟨v31, hq, hv⟩ := Option.bind_eq_some_iff.mp hv
        refine jT.cV (M1 := M_M_isChecked) (2, ((24 : Nat) : Int)) [(0, jadd (v30 24 7) 1)] [] (st_M_behindAll) rfl rfl ok_M_isChecked rfl (Or.inl ⟨rfl, _, _, _, rfl, rfl⟩) (Nat.le_of_ble_eq_true rfl) (Nat.le_of_ble_eq_true rfl) rfl (Nat.le_of_ble_eq_true rfl) (C_M_isChecked hq) ?_
        show jG E _ 140 [(0, (2, ((24 : Nat) : Int))), (1, (0, x19)), (2, (0, l24)), (3, (0, x20)), (4, (0, x21)), (5, (0, x22)), (6, (0, l25))] [(0, v31)] v30 _ _
        refine jT.if1 (st_M_behindAll) rfl (tgt := 162) (by decide) (fun hc => ?_) (fun hc => ?_)
        · have hc : v31 = 0 := hc
          try rw [if_pos hc] at hv
          refine jG.blk (st_M_behindAll) 3 (pc1 := 167) (L1 := [(6, (0, jadd l25 1)), (2, (0, l24)), (0, (2, ((24 : Nat) : Int))), (1, (0, x19)), (3, (0, x20)), (4, (0, x21)), (5, (0, x22))]) (st1 := []) (h1 := v30) rfl ?_
          refine jT.goto (st_M_behindAll) rfl (tgt := 66) (by decide) ?_
          refine jG.subp [2, 3, 1, 4, 5, 6, 0] (L1 := [(0, (2, ((24 : Nat) : Int))), (1, (0, x19)), (2, (0, l24)), (3, (0, x20)), (4, (0, x21)), (5, (0, x22)), (6, (0, jadd l25 1))]) rfl ?_
          exact hrc _ _ _ _ hv
        · have hc : ¬ (v31 = 0) := hc
          try rw [if_neg hc] at hv
          refine jG.blk (st_M_behindAll) 5 (pc1 := 150) (L1 := [(0, (2, ((24 : Nat) : Int))), (1, (0, x19)), (2, (0, l24)), (3, (0, x20)), (4, (0, x21)), (5, (0, x22)), (6, (0, l25))]) (st1 := [(0, jadd (v30 24 7) 1), (2, ((24 : Nat) : Int))]) (h1 := v30) rfl ?_
          obtain ⟨v32, hq, hv⟩ := Option.bind_eq_some_iff.mp hv
          refine jT.cV (M1 := M_M_movesOf) (2, ((24 : Nat) : Int)) [(0, jadd (v30 24 7) 1)] [] (st_M_behindAll) rfl rfl ok_M_movesOf rfl (Or.inl ⟨rfl, _, _, _, rfl, rfl⟩) (Nat.le_of_ble_eq_true rfl) (Nat.le_of_ble_eq_true rfl) rfl (Nat.le_of_ble_eq_true rfl) (C_M_movesOf hq) ?_
          show jG E _ 153 [(0, (2, ((24 : Nat) : Int))), (1, (0, x19)), (2, (0, l24)), (3, (0, x20)), (4, (0, x21)), (5, (0, x22)), (6, (0, l25))] [(0, v32.1)] v32.2 _ _
          refine jT.if1 (st_M_behindAll) rfl (tgt := 162) (by decide) (fun hc => ?_) (fun hc => ?_)
          · have hc : ¬ (v32.1 = 0) := hc
            try rw [if_neg hc] at hv
            refine jG.blk (st_M_behindAll) 3 (pc1 := 167) (L1 := [(6, (0, jadd l25 1)), (2, (0, l24)), (0, (2, ((24 : Nat) : Int))), (1, (0, x19)), (3, (0, x20)), (4, (0, x21)), (5, (0, x22))]) (st1 := []) (h1 := v32.2) rfl ?_
            refine jT.goto (st_M_behindAll) rfl (tgt := 66) (by decide) ?_
            refine jG.subp [2, 3, 1, 4, 5, 6, 0] (L1 := [(0, (2, ((24 : Nat) : Int))), (1, (0, x19)), (2, (0, l24)), (3, (0, x20)), (4, (0, x21)), (5, (0, x22)), (6, (0, jadd l25 1))]) rfl ?_
            exact hrc _ _ _ _ hv
          · have hc : v32.1 = 0 := Decidable.not_not.mp hc
            try rw [if_pos hc] at hv
            refine jG.blk (st_M_behindAll) 3 (pc1 := 159) (L1 := [(0, (2, ((24 : Nat) : Int))), (1, (0, x19)), (2, (0, l24)), (3, (0, x20)), (4, (0, x21)), (5, (0, x22)), (6, (0, l25))]) (st1 := [(0, jadd l24 1)]) (h1 := v32.2) rfl ?_
            refine jT.goto (st_M_behindAll) rfl (tgt := 163) (by decide) ?_
            refine jG.blk (st_M_behindAll) 2 (pc1 := 167) (L1 := [(6, (0, jadd l25 1)), (2, (0, jadd l24 1)), (0, (2, ((24 : Nat) : Int))), (1, (0, x19)), (3, (0, x20)), (4, (0, x21)), (5, (0, x22))]) (st1 := []) (h1 := v32.2) rfl ?_
            refine jT.goto (st_M_behindAll) rfl (tgt := 66) (by decide) ?_
            refine jG.subp [2, 3, 1, 4, 5, 6, 0] (L1 := [(0, (2, ((24 : Nat) : Int))), (1, (0, x19)), (2, (0, jadd l24 1)), (3, (0, x20)), (4, (0, x21)), (5, (0, x22)), (6, (0, jadd l25 1))]) rfl ?_
            exact hrc _ _ _ _ hv
      · have hc : x19 = 0 := Decidable.not_not.mp hc
        try rw [if_pos hc] at hv
        refine jG.blk (st_M_behindAll) 6 (pc1 := 122) (L1 := [(0, (2, ((24 : Nat) : Int))), (1, (0, x19)), (2, (0, l24)), (3, (0, x20)), (4, (0, x21)), (5, (0, x22)), (6, (0, l25))]) (st1 := [(0, jadd (v30 24 7) 1), (2, ((24 : Nat) : Int)), (0, l24)]) (h1 := v30) rfl ?_
        obtain ⟨v33, hq, hv⟩ := Option.bind_eq_some_iff.mp hv
        refine jT.cV (M1 := M_M_movesOf) (2, ((24 : Nat) : Int)) [(0, jadd (v30 24 7) 1)] [(0, l24)] (st_M_behindAll) rfl rfl ok_M_movesOf rfl (Or.inl ⟨rfl, _, _, _, rfl, rfl⟩) (Nat.le_of_ble_eq_true rfl) (Nat.le_of_ble_eq_true rfl) rfl (Nat.le_of_ble_eq_true rfl) (C_M_movesOf hq) ?_
        show jG E _ 125 [(0, (2, ((24 : Nat) : Int))), (1, (0, x19)), (2, (0, l24)), (3, (0, x20)), (4, (0, x21)), (5, (0, x22)), (6, (0, l25))] [(0, v33.1), (0, l24)] v33.2 _ _
        refine jG.blk (st_M_behindAll) 2 (pc1 := 127) (L1 := [(2, (0, jadd l24 v33.1)), (0, (2, ((24 : Nat) : Int))), (1, (0, x19)), (3, (0, x20)), (4, (0, x21)), (5, (0, x22)), (6, (0, l25))]) (st1 := []) (h1 := v33.2) rfl ?_
        refine jT.goto (st_M_behindAll) rfl (tgt := 164) (by decide) ?_
        refine jG.blk (st_M_behindAll) 1 (pc1 := 167) (L1 := [(6, (0, jadd l25 1)), (2, (0, jadd l24 v33.1)), (0, (2, ((24 : Nat) : Int))), (1, (0, x19)), (3, (0, x20)), (4, (0, x21)), (5, (0, x22))]) (st1 := []) (h1 := v33.2) rfl ?_
        refine jT.goto (st_M_behindAll) rfl (tgt := 66) (by decide) ?_
        refine jG.subp [2, 3, 1, 4, 5, 6, 0] (L1 := [(0, (2, ((24 : Nat) : Int))), (1, (0, x19)), (2, (0, jadd l24 v33.1)), (3, (0, x20)), (4, (0, x21)), (5, (0, x22)), (6, (0, jadd l25 1))]) rfl ?_
        exact hrc _ _ _ _ hv
set_option maxRecDepth 100000 in
set_option maxHeartbeats 4000000 in
theorem f_M_behindAll_lp66_ok (E : jE) {x19 : Int} {x20 : Int} {x21 : Int} {x22 : Int} {k : Int → Int → jH → Option (Int × jH)} (hk : ∀ (l17 : Int) (l18 : Int) (h23 : jH) (res : Int × jH), k l17 l18 h23 = some res → jG E M_M_behindAll 170 [(0, (2, ((24 : Nat) : Int))), (1, (0, x19)), (2, (0, l17)), (3, (0, x20)), (4, (0, x21))] [] h23 (some (0, res.1)) res.2) : ∀ (n : Nat) (l17 : Int) (l18 : Int) (h23 : jH) (res : Int × jH), f_M_behindAll_lp66 x19 x20 x21 x22 k n l17 l18 h23 = some res → jG E M_M_behindAll 66 [(0, (2, ((24 : Nat) : Int))), (1, (0, x19)), (2, (0, l17)), (3, (0, x20)), (4, (0, x21)), (5, (0, x22)), (6, (0, l18))] [] h23 (some (0, res.1)) res.2 := by
  intro n
  induction n with
  | zero => intro l17 l18 h23 res hv; cases hv
  | succ n ih =>
    intro l17 l18 h23 res hv
    rw [f_M_behindAll_lp66] at hv
    refine jG.blk (st_M_behindAll) 2 (pc1 := 70) (L1 := [(0, (2, ((24 : Nat) : Int))), (1, (0, x19)), (2, (0, l17)), (3, (0, x20)), (4, (0, x21)), (5, (0, x22)), (6, (0, l18))]) (st1 := [(0, x22), (0, l18)]) (h1 := h23) rfl ?_
    refine jT.if1 (st_M_behindAll) rfl (tgt := 77) (by decide) (fun hc => ?_) (fun hc => ?_)
    · have hc : x22 = 0 := hc
      try rw [if_pos hc] at hv
      refine jG.blk (st_M_behindAll) 1 (pc1 := 78) (L1 := [(0, (2, ((24 : Nat) : Int))), (1, (0, x19)), (2, (0, l17)), (3, (0, x20)), (4, (0, x21)), (5, (0, x22)), (6, (0, l18))]) (st1 := [(0, 1), (0, l18)]) (h1 := h23) rfl ?_
      exact f_M_behindAll_j78_66_ok E ih hk hv
    · have hc : ¬ (x22 = 0) := hc
      try rw [if_neg hc] at hv
      refine jG.blk (st_M_behindAll) 1 (pc1 := 74) (L1 := [(0, (2, ((24 : Nat) : Int))), (1, (0, x19)), (2, (0, l17)), (3, (0, x20)), (4, (0, x21)), (5, (0, x22)), (6, (0, l18))]) (st1 := [(0, 5), (0, l18)]) (h1 := h23) rfl ?_
      refine jT.goto (st_M_behindAll) rfl (tgt := 78) (by decide) ?_
      exact f_M_behindAll_j78_66_ok E ih hk hv
set_option maxRecDepth 100000 in
set_option maxHeartbeats 4000000 in
theorem f_M_behindAll_j64_13_ok (E : jE) {rc : Int → Int → jH → Option (Int × jH)} {k : Int → Int → jH → Option (Int × jH)} {h9 : jH} {h16 : jH} {x7 : Int} {x8 : Int} (hrc : ∀ (l5 : Int) (l6 : Int) (h9 : jH) (res : Int × jH), rc l5 l6 h9 = some res → jG E M_M_behindAll 13 [(0, (2, ((24 : Nat) : Int))), (1, (0, x7)), (2, (0, l5)), (3, (0, x8)), (4, (0, l6))] [] h9 (some (0, res.1)) res.2) (hk : ∀ (l5 : Int) (l6 : Int) (h9 : jH) (res : Int × jH), k l5 l6 h9 = some res → jG E M_M_behindAll 176 [(0, (2, ((24 : Nat) : Int))), (1, (0, x7)), (2, (0, l5)), (3, (0, x8))] [] h9 (some (0, res.1)) res.2) {l12 : Int} {l13 : Int} {l14 : Int} {s15 : Int} {res : Int × jH} (hv : f_M_behindAll_j64_13 rc k h9 h16 x7 x8 l12 l13 l14 s15 = some res) : jG E M_M_behindAll 64 [(0, (2, ((24 : Nat) : Int))), (1, (0, x7)), (2, (0, l12)), (3, (0, x8)), (4, (0, l13)), (5, (0, l14))] [(0, s15)] h16 (some (0, res.1)) res.2 := by
  unfold f_M_behindAll_j64_13 at hv
  refine jG.blk (st_M_behindAll) 1 (pc1 := 66) (L1 := [(6, (0, s15)), (0, (2, ((24 : Nat) : Int))), (1, (0, x7)), (2, (0, l12)), (3, (0, x8)), (4, (0, l13)), (5, (0, l14))]) (st1 := []) (h1 := h16) rfl ?_
  refine jG.subp [1, 2, 3, 4, 5, 6, 0] (L1 := [(0, (2, ((24 : Nat) : Int))), (1, (0, x7)), (2, (0, l12)), (3, (0, x8)), (4, (0, l13)), (5, (0, l14)), (6, (0, s15))]) rfl ?_
  refine f_M_behindAll_lp66_ok E (fun l34 l35 h36 res hv => ?_) 1000 _ _ _ _ hv
  · refine jG.blk (st_M_behindAll) 1 (pc1 := 173) (L1 := [(4, (0, jadd l13 1)), (0, (2, ((24 : Nat) : Int))), (1, (0, x7)), (2, (0, l34)), (3, (0, x8))]) (st1 := []) (h1 := h36) rfl ?_
    refine jT.goto (st_M_behindAll) rfl (tgt := 13) (by decide) ?_
    refine jG.subp [1, 2, 3, 4, 0] (L1 := [(0, (2, ((24 : Nat) : Int))), (1, (0, x7)), (2, (0, l34)), (3, (0, x8)), (4, (0, jadd l13 1))]) rfl ?_
    exact hrc _ _ _ _ hv
set_option maxRecDepth 100000 in
set_option maxHeartbeats 4000000 in
theorem f_M_behindAll_lp13_ok (E : jE) {x7 : Int} {x8 : Int} {k : Int → Int → jH → Option (Int × jH)} (hk : ∀ (l5 : Int) (l6 : Int) (h9 : jH) (res : Int × jH), k l5 l6 h9 = some res → jG E M_M_behindAll 176 [(0, (2, ((24 : Nat) : Int))), (1, (0, x7)), (2, (0, l5)), (3, (0, x8))] [] h9 (some (0, res.1)) res.2) : ∀ (n : Nat) (l5 : Int) (l6 : Int) (h9 : jH) (res : Int × jH), f_M_behindAll_lp13 x7 x8 k n l5 l6 h9 = some res → jG E M_M_behindAll 13 [(0, (2, ((24 : Nat) : Int))), (1, (0, x7)), (2, (0, l5)), (3, (0, x8)), (4, (0, l6))] [] h9 (some (0, res.1)) res.2 := by
  intro n
  induction n with
  | zero => intro l5 l6 h9 res hv; cases hv
  | succ n ih =>
    intro l5 l6 h9 res hv
    rw [f_M_behindAll_lp13] at hv
    refine jG.blk (st_M_behindAll) 2 (pc1 := 17) (L1 := [(0, (2, ((24 : Nat) : Int))), (1, (0, x7)), (2, (0, l5)), (3, (0, x8)), (4, (0, l6))]) (st1 := [(0, 64), (0, l6)]) (h1 := h9) rfl ?_
    refine jT.if2 (st_M_behindAll) rfl (tgt := 176) (by decide) (fun hc => ?_) (fun hc => ?_)
    · have hc : 64 ≤ l6 := hc
      try rw [if_pos hc] at hv
      refine jG.subp [0, 1, 2, 3] (L1 := [(0, (2, ((24 : Nat) : Int))), (1, (0, x7)), (2, (0, l5)), (3, (0, x8))]) rfl ?_
      exact hk _ _ _ _ hv
    · have hc : ¬ (64 ≤ l6) := hc
      try rw [if_neg hc] at hv
      refine jG.blk (st_M_behindAll) 8 (pc1 := 34) (L1 := [(0, (2, ((24 : Nat) : Int))), (1, (0, x7)), (2, (0, l5)), (3, (0, x8)), (4, (0, l6))]) (st1 := [(0, h9 24 7), (2, ((26 : Nat) : Int)), (0, x8), (0, h9 24 7), (2, ((24 : Nat) : Int))]) (h1 := h9) rfl ?_
      obtain ⟨hg, hv⟩ := jgd_some hv
      refine jT.iald (a := 26) (st_M_behindAll) rfl rfl (by decide) hg.1 hg.2 ?_
      obtain ⟨v10, hq, hv⟩ := Option.bind_eq_some_iff.mp hv
      refine jT.cV (M1 := M_M_isOf) (2, ((24 : Nat) : Int)) [(0, h9 24 7), (0, x8), (0, h9 26 (h9 24 7).toNat)] [] (st_M_behindAll) rfl rfl ok_M_isOf rfl (Or.inl ⟨rfl, _, _, _, rfl, rfl⟩) (Nat.le_of_ble_eq_true rfl) (Nat.le_of_ble_eq_true rfl) rfl (Nat.le_of_ble_eq_true rfl) (C_M_isOf hq) ?_
      show jG E _ 38 [(0, (2, ((24 : Nat) : Int))), (1, (0, x7)), (2, (0, l5)), (3, (0, x8)), (4, (0, l6))] [(0, v10)] h9 _ _
      refine jT.if1 (st_M_behindAll) rfl (tgt := 176) (by decide) (fun hc => ?_) (fun hc => ?_)
      · have hc : v10 = 0 := hc
        try rw [if_pos hc] at hv
        refine jG.subp [0, 1, 2, 3] (L1 := [(0, (2, ((24 : Nat) : Int))), (1, (0, x7)), (2, (0, l5)), (3, (0, x8))]) rfl ?_
        exact hk _ _ _ _ hv
      · have hc : ¬ (v10 = 0) := hc
        try rw [if_neg hc] at hv
        refine jG.blk (st_M_behindAll) 5 (pc1 := 49) (L1 := [(0, (2, ((24 : Nat) : Int))), (1, (0, x7)), (2, (0, l5)), (3, (0, x8)), (4, (0, l6))]) (st1 := [(0, l6), (0, x8), (0, h9 24 7), (2, ((24 : Nat) : Int))]) (h1 := h9) rfl ?_
        obtain ⟨v11, hq, hv⟩ := Option.bind_eq_some_iff.mp hv
        refine jT.cV (M1 := M_M_isLast) (2, ((24 : Nat) : Int)) [(0, h9 24 7), (0, x8), (0, l6)] [] (st_M_behindAll) rfl rfl ok_M_isLast rfl (Or.inl ⟨rfl, _, _, _, rfl, rfl⟩) (Nat.le_of_ble_eq_true rfl) (Nat.le_of_ble_eq_true rfl) rfl (Nat.le_of_ble_eq_true rfl) (C_M_isLast hq) ?_
        show jG E _ 52 [(0, (2, ((24 : Nat) : Int))), (1, (0, x7)), (2, (0, l5)), (3, (0, x8)), (4, (0, l6))] [(0, v11)] h9 _ _
        refine jG.blk (st_M_behindAll) 2 (pc1 := 56) (L1 := [(5, (0, v11)), (0, (2, ((24 : Nat) : Int))), (1, (0, x7)), (2, (0, l5)), (3, (0, x8)), (4, (0, l6))]) (st1 := [(0, v11)]) (h1 := h9) rfl ?_
        refine jT.if1 (st_M_behindAll) rfl (tgt := 63) (by decide) (fun hc => ?_) (fun hc => ?_)
        · have hc : v11 = 0 := hc
          try rw [if_pos hc] at hv
          refine jG.blk (st_M_behindAll) 1 (pc1 := 64) (L1 := [(5, (0, v11)), (0, (2, ((24 : Nat) : Int))), (1, (0, x7)), (2, (0, l5)), (3, (0, x8)), (4, (0, l6))]) (st1 := [(0, 0)]) (h1 := h9) rfl ?_
          refine jG.subp [1, 2, 3, 4, 5, 0] (L1 := [(0, (2, ((24 : Nat) : Int))), (1, (0, x7)), (2, (0, l5)), (3, (0, x8)), (4, (0, l6)), (5, (0, v11))]) rfl ?_
          exact f_M_behindAll_j64_13_ok E ih hk hv
        · have hc : ¬ (v11 = 0) := hc
          try rw [if_neg hc] at hv
          refine jG.blk (st_M_behindAll) 1 (pc1 := 60) (L1 := [(5, (0, v11)), (0, (2, ((24 : Nat) : Int))), (1, (0, x7)), (2, (0, l5)), (3, (0, x8)), (4, (0, l6))]) (st1 := [(0, 1)]) (h1 := h9) rfl ?_
          refine jT.goto (st_M_behindAll) rfl (tgt := 64) (by decide) ?_
          refine jG.subp [1, 2, 3, 4, 5, 0] (L1 := [(0, (2, ((24 : Nat) : Int))), (1, (0, x7)), (2, (0, l5)), (3, (0, x8)), (4, (0, l6)), (5, (0, v11))]) rfl ?_
          exact f_M_behindAll_j64_13_ok E ih hk hv
set_option maxRecDepth 100000 in
set_option maxHeartbeats 4000000 in
theorem f_M_behindAll_lp4_ok (E : jE) {x3 : Int} {k : Int → Int → jH → Option (Int × jH)} (hk : ∀ (l1 : Int) (l2 : Int) (h4 : jH) (res : Int × jH), k l1 l2 h4 = some res → jG E M_M_behindAll 182 [(2, (0, l1))] [] h4 (some (0, res.1)) res.2) : ∀ (n : Nat) (l1 : Int) (l2 : Int) (h4 : jH) (res : Int × jH), f_M_behindAll_lp4 x3 k n l1 l2 h4 = some res → jG E M_M_behindAll 4 [(0, (2, ((24 : Nat) : Int))), (1, (0, x3)), (2, (0, l1)), (3, (0, l2))] [] h4 (some (0, res.1)) res.2 := by
  intro n
  induction n with
  | zero => intro l1 l2 h4 res hv; cases hv
  | succ n ih =>
    intro l1 l2 h4 res hv
    rw [f_M_behindAll_lp4] at hv
    refine jG.blk (st_M_behindAll) 2 (pc1 := 7) (L1 := [(0, (2, ((24 : Nat) : Int))), (1, (0, x3)), (2, (0, l1)), (3, (0, l2))]) (st1 := [(0, 64), (0, l2)]) (h1 := h4) rfl ?_
    refine jT.if2 (st_M_behindAll) rfl (tgt := 182) (by decide) (fun hc => ?_) (fun hc => ?_)
    · have hc : 64 ≤ l2 := hc
      try rw [if_pos hc] at hv
      refine jG.subp [2] (L1 := [(2, (0, l1))]) rfl ?_
      exact hk _ _ _ _ hv
    · have hc : ¬ (64 ≤ l2) := hc
      try rw [if_neg hc] at hv
      refine jG.blk (st_M_behindAll) 2 (pc1 := 13) (L1 := [(4, (0, 0)), (0, (2, ((24 : Nat) : Int))), (1, (0, x3)), (2, (0, l1)), (3, (0, l2))]) (st1 := []) (h1 := h4) rfl ?_
      refine jG.subp [1, 2, 3, 4, 0] (L1 := [(0, (2, ((24 : Nat) : Int))), (1, (0, x3)), (2, (0, l1)), (3, (0, l2)), (4, (0, 0))]) rfl ?_
      refine f_M_behindAll_lp13_ok E (fun l37 l38 h39 res hv => ?_) 1000 _ _ _ _ hv
      · refine jG.blk (st_M_behindAll) 1 (pc1 := 179) (L1 := [(3, (0, jadd l2 1)), (0, (2, ((24 : Nat) : Int))), (1, (0, x3)), (2, (0, l37))]) (st1 := []) (h1 := h39) rfl ?_
        refine jT.goto (st_M_behindAll) rfl (tgt := 4) (by decide) ?_
        refine jG.subp [1, 2, 3, 0] (L1 := [(0, (2, ((24 : Nat) : Int))), (1, (0, x3)), (2, (0, l37)), (3, (0, jadd l2 1))]) rfl ?_
        exact ih _ _ _ _ hv
set_option maxRecDepth 100000 in
set_option maxHeartbeats 4000000 in
theorem C_M_behindAll {E : jE} {h : jH} {a1 : Int} {res : Int × jH} (hv : f_M_behindAll h a1 = some res) : jC E M_M_behindAll [(2, ((24 : Nat) : Int)), (0, a1)] h (some (0, res.1)) res.2 := by
  refine jC.of ok_M_behindAll.1 (by rw [jlg]; exact Nat.le_of_ble_eq_true rfl) ?_
  show jG E _ 0 [(0, (2, ((24 : Nat) : Int))), (1, (0, a1))] [] h _ _
  unfold f_M_behindAll at hv
  refine jG.blk (st_M_behindAll) 4 (pc1 := 4) (L1 := [(3, (0, 0)), (2, (0, 0)), (0, (2, ((24 : Nat) : Int))), (1, (0, a1))]) (st1 := []) (h1 := h) rfl ?_
  refine jG.subp [2, 3, 1, 0] (L1 := [(0, (2, ((24 : Nat) : Int))), (1, (0, a1)), (2, (0, 0)), (3, (0, 0))]) rfl ?_
  refine f_M_behindAll_lp4_ok E (fun l40 l41 h42 res hv => ?_) 1000 _ _ _ _ hv
  · refine jG.blk (st_M_behindAll) 1 (pc1 := 183) (L1 := [(2, (0, l40))]) (st1 := [(0, l40)]) (h1 := h42) rfl ?_
    cases hv
    exact jT.iret (st_M_behindAll) rfl trivial
def f_M_lines (h : jH) (a1 : Int) : Option (Int × jH) := if (jup h 24 0 0) 24 8 = 0 then some ((-1), jup h 24 0 0) else if a1 < 0 then some ((-1), jup h 24 0 0) else if a1 ≤ 2 then if a1 = 0 then some (1, jup h 24 0 0) else if a1 = 1 then (f_M_movesOf (jup h 24 0 0) ((jup h 24 0 0) 24 7)).bind fun v2 => some (v2.1, v2.2) else (f_M_behindAll (jup h 24 0 0) 0).bind fun v1 => some (v1.1, v1.2) else some ((-1), jup h 24 0 0)
set_option maxRecDepth 100000 in
set_option maxHeartbeats 4000000 in
theorem C_M_lines {E : jE} {h : jH} {a1 : Int} {res : Int × jH} (hv : f_M_lines h a1 = some res) : jC E M_M_lines [(2, ((24 : Nat) : Int)), (0, a1)] h (some (0, res.1)) res.2 := by
  refine jC.of ok_M_lines.1 (by rw [jlg]; exact Nat.le_of_ble_eq_true rfl) ?_
  show jG E _ 0 [(0, (2, ((24 : Nat) : Int))), (1, (0, a1))] [] h _ _
  unfold f_M_lines at hv
  refine jG.blk (st_M_lines) 5 (pc1 := 9) (L1 := [(0, (2, ((24 : Nat) : Int))), (1, (0, a1))]) (st1 := [(0, (jup h 24 0 0) 24 8)]) (h1 := jup h 24 0 0) rfl ?_
  refine jT.if1 (st_M_lines) rfl (tgt := 21) (by decide) (fun hc => ?_) (fun hc => ?_)
  · have hc : (jup h 24 0 0) 24 8 = 0 := hc
    try rw [if_pos hc] at hv
    refine jG.blk (st_M_lines) 1 (pc1 := 22) (L1 := [(0, (2, ((24 : Nat) : Int))), (1, (0, a1))]) (st1 := [(0, (-1))]) (h1 := jup h 24 0 0) rfl ?_
    cases hv
    exact jT.iret (st_M_lines) rfl trivial
  · have hc : ¬ ((jup h 24 0 0) 24 8 = 0) := hc
    try rw [if_neg hc] at hv
    refine jG.blk (st_M_lines) 1 (pc1 := 13) (L1 := [(0, (2, ((24 : Nat) : Int))), (1, (0, a1))]) (st1 := [(0, a1)]) (h1 := jup h 24 0 0) rfl ?_
    refine jT.if1 (st_M_lines) rfl (tgt := 21) (by decide) (fun hc => ?_) (fun hc => ?_)
    · have hc : a1 < 0 := hc
      try rw [if_pos hc] at hv
      refine jG.blk (st_M_lines) 1 (pc1 := 22) (L1 := [(0, (2, ((24 : Nat) : Int))), (1, (0, a1))]) (st1 := [(0, (-1))]) (h1 := jup h 24 0 0) rfl ?_
      cases hv
      exact jT.iret (st_M_lines) rfl trivial
    · have hc : ¬ (a1 < 0) := hc
      try rw [if_neg hc] at hv
      refine jG.blk (st_M_lines) 2 (pc1 := 18) (L1 := [(0, (2, ((24 : Nat) : Int))), (1, (0, a1))]) (st1 := [(0, 2), (0, a1)]) (h1 := jup h 24 0 0) rfl ?_
      refine jT.if2 (st_M_lines) rfl (tgt := 23) (by decide) (fun hc => ?_) (fun hc => ?_)
      · have hc : a1 ≤ 2 := hc
        try rw [if_pos hc] at hv
        refine jG.blk (st_M_lines) 1 (pc1 := 24) (L1 := [(0, (2, ((24 : Nat) : Int))), (1, (0, a1))]) (st1 := [(0, a1)]) (h1 := jup h 24 0 0) rfl ?_
        refine jT.if1 (st_M_lines) rfl (tgt := 31) (by decide) (fun hc => ?_) (fun hc => ?_)
        · have hc : ¬ (a1 = 0) := hc
          try rw [if_neg hc] at hv
          refine jG.blk (st_M_lines) 2 (pc1 := 33) (L1 := [(0, (2, ((24 : Nat) : Int))), (1, (0, a1))]) (st1 := [(0, 1), (0, a1)]) (h1 := jup h 24 0 0) rfl ?_
          refine jT.if2 (st_M_lines) rfl (tgt := 47) (by decide) (fun hc => ?_) (fun hc => ?_)
          · have hc : ¬ (a1 = 1) := hc
            try rw [if_neg hc] at hv
            refine jG.blk (st_M_lines) 2 (pc1 := 49) (L1 := [(0, (2, ((24 : Nat) : Int))), (1, (0, a1))]) (st1 := [(0, 0), (2, ((24 : Nat) : Int))]) (h1 := jup h 24 0 0) rfl ?_
            obtain ⟨v1, hq, hv⟩ := Option.bind_eq_some_iff.mp hv
            refine jT.cV (M1 := M_M_behindAll) (2, ((24 : Nat) : Int)) [(0, 0)] [] (st_M_lines) rfl rfl ok_M_behindAll rfl (Or.inl ⟨rfl, _, _, _, rfl, rfl⟩) (Nat.le_of_ble_eq_true rfl) (Nat.le_of_ble_eq_true rfl) rfl (Nat.le_of_ble_eq_true rfl) (C_M_behindAll hq) ?_
            show jG E _ 52 [(0, (2, ((24 : Nat) : Int))), (1, (0, a1))] [(0, v1.1)] v1.2 _ _
            cases hv
            exact jT.iret (st_M_lines) rfl trivial
          · have hc : a1 = 1 := Decidable.not_not.mp hc
            try rw [if_pos hc] at hv
            refine jG.blk (st_M_lines) 3 (pc1 := 41) (L1 := [(0, (2, ((24 : Nat) : Int))), (1, (0, a1))]) (st1 := [(0, (jup h 24 0 0) 24 7), (2, ((24 : Nat) : Int))]) (h1 := jup h 24 0 0) rfl ?_
            obtain ⟨v2, hq, hv⟩ := Option.bind_eq_some_iff.mp hv
            refine jT.cV (M1 := M_M_movesOf) (2, ((24 : Nat) : Int)) [(0, (jup h 24 0 0) 24 7)] [] (st_M_lines) rfl rfl ok_M_movesOf rfl (Or.inl ⟨rfl, _, _, _, rfl, rfl⟩) (Nat.le_of_ble_eq_true rfl) (Nat.le_of_ble_eq_true rfl) rfl (Nat.le_of_ble_eq_true rfl) (C_M_movesOf hq) ?_
            show jG E _ 44 [(0, (2, ((24 : Nat) : Int))), (1, (0, a1))] [(0, v2.1)] v2.2 _ _
            refine jT.goto (st_M_lines) rfl (tgt := 52) (by decide) ?_
            cases hv
            exact jT.iret (st_M_lines) rfl trivial
        · have hc : a1 = 0 := Decidable.not_not.mp hc
          try rw [if_pos hc] at hv
          refine jG.blk (st_M_lines) 1 (pc1 := 28) (L1 := [(0, (2, ((24 : Nat) : Int))), (1, (0, a1))]) (st1 := [(0, 1)]) (h1 := jup h 24 0 0) rfl ?_
          refine jT.goto (st_M_lines) rfl (tgt := 52) (by decide) ?_
          cases hv
          exact jT.iret (st_M_lines) rfl trivial
      · have hc : ¬ (a1 ≤ 2) := hc
        try rw [if_neg hc] at hv
        refine jG.blk (st_M_lines) 1 (pc1 := 22) (L1 := [(0, (2, ((24 : Nat) : Int))), (1, (0, a1))]) (st1 := [(0, (-1))]) (h1 := jup h 24 0 0) rfl ?_
        cases hv
        exact jT.iret (st_M_lines) rfl trivial
def f_M_mates (h : jH) : Option (Int × jH) := if (jup h 24 0 0) 24 8 = 0 then some ((-1), jup h 24 0 0) else (f_M_behindAll (jup h 24 0 0) 1).bind fun v1 => some (v1.1, v1.2)
set_option maxRecDepth 100000 in
set_option maxHeartbeats 4000000 in
theorem C_M_mates {E : jE} {h : jH} {res : Int × jH} (hv : f_M_mates h = some res) : jC E M_M_mates [(2, ((24 : Nat) : Int))] h (some (0, res.1)) res.2 := by
  refine jC.of ok_M_mates.1 (by rw [jlg]; exact Nat.le_of_ble_eq_true rfl) ?_
  show jG E _ 0 [(0, (2, ((24 : Nat) : Int)))] [] h _ _
  unfold f_M_mates at hv
  refine jG.blk (st_M_mates) 5 (pc1 := 9) (L1 := [(0, (2, ((24 : Nat) : Int)))]) (st1 := [(0, (jup h 24 0 0) 24 8)]) (h1 := jup h 24 0 0) rfl ?_
  refine jT.if1 (st_M_mates) rfl (tgt := 20) (by decide) (fun hc => ?_) (fun hc => ?_)
  · have hc : (jup h 24 0 0) 24 8 = 0 := hc
    try rw [if_pos hc] at hv
    refine jG.blk (st_M_mates) 1 (pc1 := 21) (L1 := [(0, (2, ((24 : Nat) : Int)))]) (st1 := [(0, (-1))]) (h1 := jup h 24 0 0) rfl ?_
    cases hv
    exact jT.iret (st_M_mates) rfl trivial
  · have hc : ¬ ((jup h 24 0 0) 24 8 = 0) := hc
    try rw [if_neg hc] at hv
    refine jG.blk (st_M_mates) 2 (pc1 := 14) (L1 := [(0, (2, ((24 : Nat) : Int)))]) (st1 := [(0, 1), (2, ((24 : Nat) : Int))]) (h1 := jup h 24 0 0) rfl ?_
    obtain ⟨v1, hq, hv⟩ := Option.bind_eq_some_iff.mp hv
    refine jT.cV (M1 := M_M_behindAll) (2, ((24 : Nat) : Int)) [(0, 1)] [] (st_M_mates) rfl rfl ok_M_behindAll rfl (Or.inl ⟨rfl, _, _, _, rfl, rfl⟩) (Nat.le_of_ble_eq_true rfl) (Nat.le_of_ble_eq_true rfl) rfl (Nat.le_of_ble_eq_true rfl) (C_M_behindAll hq) ?_
    show jG E _ 17 [(0, (2, ((24 : Nat) : Int)))] [(0, v1.1)] v1.2 _ _
    refine jT.goto (st_M_mates) rfl (tgt := 21) (by decide) ?_
    cases hv
    exact jT.iret (st_M_mates) rfl trivial
def f_M_type_lp37 (h12 : jH) (x10 : Int) (x11 : Int) (k : Int → Int → Option (Int × jH)) : Nat → Int → Int → Option (Int × jH)
  | 0, _, _ => none
  | n + 1, l8, l9 => if l8 = 0 then k l8 l9 else if x11 ≤ l9 then k l8 l9 else f_M_type_lp37 h12 x10 x11 k n (if jcmp (jland (jlshr x10 (jmul 8 l9)) 255) 32 < 0 then 0 else if 0 < jcmp (jland (jlshr x10 (jmul 8 l9)) 255) 126 then 0 else 1) (jadd l9 1)
def f_M_type_lp104 (x20 : Int) (k : Int → jH → Option (Int × jH)) : Nat → Int → jH → Option (Int × jH)
  | 0, _, _ => none
  | n + 1, l19, h21 => if l19 < 0 then k l19 h21 else jgd (0 ≤ h21 24 10 ∧ h21 24 10 < 100) (f_M_type_lp104 x20 k n (jadd l19 (-1)) (jup (jup h21 31 (h21 24 10).toNat (jl2i (jland (jlshr x20 (jmul 8 l19)) 255))) 24 10 (jadd ((jup h21 31 (h21 24 10).toNat (jl2i (jland (jlshr x20 (jmul 8 l19)) 255))) 24 10) 1)))
def f_M_type_j92 (h18 : jH) (l15 : Int) (l16 : Int) (l17 : Int) : Option (Int × jH) := if l17 = 0 then some ((-1), h18) else f_M_type_lp104 l15 (fun l22 h23 => some (h23 24 10, h23)) 1000 (jsub l16 1) h18
def f_M_type_j32 (h7 : jH) (l4 : Int) (l5 : Int) (s6 : Int) : Option (Int × jH) := f_M_type_lp37 h7 l4 l5 (fun l13 l14 => f_M_type_j92 h7 l4 l5 l13) 1000 s6 0
def f_M_type_j31 (h3 : jH) (l1 : Int) (l2 : Int) : Option (Int × jH) := f_M_type_j32 h3 l1 l2 0
def f_M_type (h : jH) (a1 : Int) (a2 : Int) : Option (Int × jH) := if a2 < 1 then f_M_type_j31 (jup h 24 0 0) a1 a2 else if 8 < a2 then f_M_type_j31 (jup h 24 0 0) a1 a2 else if 100 < jadd ((jup h 24 0 0) 24 10) a2 then f_M_type_j31 (jup h 24 0 0) a1 a2 else f_M_type_j32 (jup h 24 0 0) a1 a2 1
set_option maxRecDepth 100000 in
set_option maxHeartbeats 4000000 in
theorem f_M_type_lp37_ok (E : jE) {h12 : jH} {x10 : Int} {x11 : Int} {k : Int → Int → Option (Int × jH)} (hk : ∀ (l8 : Int) (l9 : Int) (res : Int × jH), k l8 l9 = some res → jG E M_M_type 92 [(0, (2, ((24 : Nat) : Int))), (1, (1, x10)), (3, (0, x11)), (4, (0, l8))] [] h12 (some (0, res.1)) res.2) : ∀ (n : Nat) (l8 : Int) (l9 : Int) (res : Int × jH), f_M_type_lp37 h12 x10 x11 k n l8 l9 = some res → jG E M_M_type 37 [(0, (2, ((24 : Nat) : Int))), (1, (1, x10)), (3, (0, x11)), (4, (0, l8)), (5, (0, l9))] [] h12 (some (0, res.1)) res.2 := by
  intro n
  induction n with
  | zero => intro l8 l9 res hv; cases hv
  | succ n ih =>
    intro l8 l9 res hv
    rw [f_M_type_lp37] at hv
    refine jG.blk (st_M_type) 1 (pc1 := 39) (L1 := [(0, (2, ((24 : Nat) : Int))), (1, (1, x10)), (3, (0, x11)), (4, (0, l8)), (5, (0, l9))]) (st1 := [(0, l8)]) (h1 := h12) rfl ?_
    refine jT.if1 (st_M_type) rfl (tgt := 92) (by decide) (fun hc => ?_) (fun hc => ?_)
    · have hc : l8 = 0 := hc
      try rw [if_pos hc] at hv
      refine jG.subp [0, 1, 2, 3] (L1 := [(0, (2, ((24 : Nat) : Int))), (1, (1, x10)), (3, (0, x11)), (4, (0, l8))]) rfl ?_
      exact hk _ _ _ hv
    · have hc : ¬ (l8 = 0) := hc
      try rw [if_neg hc] at hv
      refine jG.blk (st_M_type) 2 (pc1 := 45) (L1 := [(0, (2, ((24 : Nat) : Int))), (1, (1, x10)), (3, (0, x11)), (4, (0, l8)), (5, (0, l9))]) (st1 := [(0, x11), (0, l9)]) (h1 := h12) rfl ?_
      refine jT.if2 (st_M_type) rfl (tgt := 92) (by decide) (fun hc => ?_) (fun hc => ?_)
      · have hc : x11 ≤ l9 := hc
        try rw [if_pos hc] at hv
        refine jG.subp [0, 1, 2, 3] (L1 := [(0, (2, ((24 : Nat) : Int))), (1, (1, x10)), (3, (0, x11)), (4, (0, l8))]) rfl ?_
        exact hk _ _ _ hv
      · have hc : ¬ (x11 ≤ l9) := hc
        try rw [if_neg hc] at hv
        refine jG.blk (st_M_type) 11 (pc1 := 67) (L1 := [(6, (1, jland (jlshr x10 (jmul 8 l9)) 255)), (0, (2, ((24 : Nat) : Int))), (1, (1, x10)), (3, (0, x11)), (4, (0, l8)), (5, (0, l9))]) (st1 := [(0, jcmp (jland (jlshr x10 (jmul 8 l9)) 255) 32)]) (h1 := h12) rfl ?_
        refine jT.if1 (st_M_type) rfl (tgt := 83) (by decide) (fun hc => ?_) (fun hc => ?_)
        · have hc : jcmp (jland (jlshr x10 (jmul 8 l9)) 255) 32 < 0 := hc
          try rw [if_pos hc] at hv
          refine jG.blk (st_M_type) 3 (pc1 := 89) (L1 := [(5, (0, jadd l9 1)), (4, (0, 0)), (6, (1, jland (jlshr x10 (jmul 8 l9)) 255)), (0, (2, ((24 : Nat) : Int))), (1, (1, x10)), (3, (0, x11))]) (st1 := []) (h1 := h12) rfl ?_
          refine jT.goto (st_M_type) rfl (tgt := 37) (by decide) ?_
          refine jG.subp [3, 4, 5, 1, 0] (L1 := [(0, (2, ((24 : Nat) : Int))), (1, (1, x10)), (3, (0, x11)), (4, (0, 0)), (5, (0, jadd l9 1))]) rfl ?_
          exact ih _ _ _ hv
        · have hc : ¬ (jcmp (jland (jlshr x10 (jmul 8 l9)) 255) 32 < 0) := hc
          try rw [if_neg hc] at hv
          refine jG.blk (st_M_type) 3 (pc1 := 76) (L1 := [(6, (1, jland (jlshr x10 (jmul 8 l9)) 255)), (0, (2, ((24 : Nat) : Int))), (1, (1, x10)), (3, (0, x11)), (4, (0, l8)), (5, (0, l9))]) (st1 := [(0, jcmp (jland (jlshr x10 (jmul 8 l9)) 255) 126)]) (h1 := h12) rfl ?_
          refine jT.if1 (st_M_type) rfl (tgt := 83) (by decide) (fun hc => ?_) (fun hc => ?_)
          · have hc : 0 < jcmp (jland (jlshr x10 (jmul 8 l9)) 255) 126 := hc
            try rw [if_pos hc] at hv
            refine jG.blk (st_M_type) 3 (pc1 := 89) (L1 := [(5, (0, jadd l9 1)), (4, (0, 0)), (6, (1, jland (jlshr x10 (jmul 8 l9)) 255)), (0, (2, ((24 : Nat) : Int))), (1, (1, x10)), (3, (0, x11))]) (st1 := []) (h1 := h12) rfl ?_
            refine jT.goto (st_M_type) rfl (tgt := 37) (by decide) ?_
            refine jG.subp [3, 4, 5, 1, 0] (L1 := [(0, (2, ((24 : Nat) : Int))), (1, (1, x10)), (3, (0, x11)), (4, (0, 0)), (5, (0, jadd l9 1))]) rfl ?_
            exact ih _ _ _ hv
          · have hc : ¬ (0 < jcmp (jland (jlshr x10 (jmul 8 l9)) 255) 126) := hc
            try rw [if_neg hc] at hv
            refine jG.blk (st_M_type) 1 (pc1 := 80) (L1 := [(6, (1, jland (jlshr x10 (jmul 8 l9)) 255)), (0, (2, ((24 : Nat) : Int))), (1, (1, x10)), (3, (0, x11)), (4, (0, l8)), (5, (0, l9))]) (st1 := [(0, 1)]) (h1 := h12) rfl ?_
            refine jT.goto (st_M_type) rfl (tgt := 84) (by decide) ?_
            refine jG.blk (st_M_type) 2 (pc1 := 89) (L1 := [(5, (0, jadd l9 1)), (4, (0, 1)), (6, (1, jland (jlshr x10 (jmul 8 l9)) 255)), (0, (2, ((24 : Nat) : Int))), (1, (1, x10)), (3, (0, x11))]) (st1 := []) (h1 := h12) rfl ?_
            refine jT.goto (st_M_type) rfl (tgt := 37) (by decide) ?_
            refine jG.subp [3, 4, 5, 1, 0] (L1 := [(0, (2, ((24 : Nat) : Int))), (1, (1, x10)), (3, (0, x11)), (4, (0, 1)), (5, (0, jadd l9 1))]) rfl ?_
            exact ih _ _ _ hv
set_option maxRecDepth 100000 in
set_option maxHeartbeats 4000000 in
theorem f_M_type_lp104_ok (E : jE) {x20 : Int} {k : Int → jH → Option (Int × jH)} (hk : ∀ (l19 : Int) (h21 : jH) (res : Int × jH), k l19 h21 = some res → jG E M_M_type 146 [(0, (2, ((24 : Nat) : Int)))] [] h21 (some (0, res.1)) res.2) : ∀ (n : Nat) (l19 : Int) (h21 : jH) (res : Int × jH), f_M_type_lp104 x20 k n l19 h21 = some res → jG E M_M_type 104 [(0, (2, ((24 : Nat) : Int))), (1, (1, x20)), (5, (0, l19))] [] h21 (some (0, res.1)) res.2 := by
  intro n
  induction n with
  | zero => intro l19 h21 res hv; cases hv
  | succ n ih =>
    intro l19 h21 res hv
    rw [f_M_type_lp104] at hv
    refine jG.blk (st_M_type) 1 (pc1 := 106) (L1 := [(0, (2, ((24 : Nat) : Int))), (1, (1, x20)), (5, (0, l19))]) (st1 := [(0, l19)]) (h1 := h21) rfl ?_
    refine jT.if1 (st_M_type) rfl (tgt := 146) (by decide) (fun hc => ?_) (fun hc => ?_)
    · have hc : l19 < 0 := hc
      try rw [if_pos hc] at hv
      refine jG.subp [0] (L1 := [(0, (2, ((24 : Nat) : Int)))]) rfl ?_
      exact hk _ _ _ hv
    · have hc : ¬ (l19 < 0) := hc
      try rw [if_neg hc] at hv
      refine jG.blk (st_M_type) 12 (pc1 := 129) (L1 := [(0, (2, ((24 : Nat) : Int))), (1, (1, x20)), (5, (0, l19))]) (st1 := [(0, jl2i (jland (jlshr x20 (jmul 8 l19)) 255)), (0, h21 24 10), (2, ((31 : Nat) : Int))]) (h1 := h21) rfl ?_
      obtain ⟨hg, hv⟩ := jgd_some hv
      refine jT.iast (a := 31) (st_M_type) rfl rfl (by decide) hg.1 hg.2 ?_
      refine jG.blk (st_M_type) 7 (pc1 := 143) (L1 := [(5, (0, jadd l19 (-1))), (0, (2, ((24 : Nat) : Int))), (1, (1, x20))]) (st1 := []) (h1 := jup (jup h21 31 (h21 24 10).toNat (jl2i (jland (jlshr x20 (jmul 8 l19)) 255))) 24 10 (jadd ((jup h21 31 (h21 24 10).toNat (jl2i (jland (jlshr x20 (jmul 8 l19)) 255))) 24 10) 1)) rfl ?_
      refine jT.goto (st_M_type) rfl (tgt := 104) (by decide) ?_
      refine jG.subp [1, 2, 0] (L1 := [(0, (2, ((24 : Nat) : Int))), (1, (1, x20)), (5, (0, jadd l19 (-1)))]) rfl ?_
      exact ih _ _ _ hv
set_option maxRecDepth 100000 in
set_option maxHeartbeats 4000000 in
theorem f_M_type_j92_ok (E : jE) {h18 : jH} {l15 : Int} {l16 : Int} {l17 : Int} {res : Int × jH} (hv : f_M_type_j92 h18 l15 l16 l17 = some res) : jG E M_M_type 92 [(0, (2, ((24 : Nat) : Int))), (1, (1, l15)), (3, (0, l16)), (4, (0, l17))] [] h18 (some (0, res.1)) res.2 := by
  unfold f_M_type_j92 at hv
  refine jG.blk (st_M_type) 1 (pc1 := 94) (L1 := [(0, (2, ((24 : Nat) : Int))), (1, (1, l15)), (3, (0, l16)), (4, (0, l17))]) (st1 := [(0, l17)]) (h1 := h18) rfl ?_
  refine jT.if1 (st_M_type) rfl (tgt := 99) (by decide) (fun hc => ?_) (fun hc => ?_)
  · have hc : ¬ (l17 = 0) := hc
    try rw [if_neg hc] at hv
    refine jG.blk (st_M_type) 4 (pc1 := 104) (L1 := [(5, (0, jsub l16 1)), (0, (2, ((24 : Nat) : Int))), (1, (1, l15)), (3, (0, l16)), (4, (0, l17))]) (st1 := []) (h1 := h18) rfl ?_
    refine jG.subp [1, 2, 0] (L1 := [(0, (2, ((24 : Nat) : Int))), (1, (1, l15)), (5, (0, jsub l16 1))]) rfl ?_
    refine f_M_type_lp104_ok E (fun l22 h23 res hv => ?_) 1000 _ _ _ hv
    · refine jG.blk (st_M_type) 2 (pc1 := 150) (L1 := [(0, (2, ((24 : Nat) : Int)))]) (st1 := [(0, h23 24 10)]) (h1 := h23) rfl ?_
      cases hv
      exact jT.iret (st_M_type) rfl trivial
  · have hc : l17 = 0 := Decidable.not_not.mp hc
    try rw [if_pos hc] at hv
    refine jG.blk (st_M_type) 1 (pc1 := 98) (L1 := [(0, (2, ((24 : Nat) : Int))), (1, (1, l15)), (3, (0, l16)), (4, (0, l17))]) (st1 := [(0, (-1))]) (h1 := h18) rfl ?_
    cases hv
    exact jT.iret (st_M_type) rfl trivial
set_option maxRecDepth 100000 in
set_option maxHeartbeats 4000000 in
theorem f_M_type_j32_ok (E : jE) {h7 : jH} {l4 : Int} {l5 : Int} {s6 : Int} {res : Int × jH} (hv : f_M_type_j32 h7 l4 l5 s6 = some res) : jG E M_M_type 32 [(0, (2, ((24 : Nat) : Int))), (1, (1, l4)), (3, (0, l5))] [(0, s6)] h7 (some (0, res.1)) res.2 := by
  unfold f_M_type_j32 at hv
  refine jG.blk (st_M_type) 3 (pc1 := 37) (L1 := [(5, (0, 0)), (4, (0, s6)), (0, (2, ((24 : Nat) : Int))), (1, (1, l4)), (3, (0, l5))]) (st1 := []) (h1 := h7) rfl ?_
  refine jG.subp [2, 3, 4, 1, 0] (L1 := [(0, (2, ((24 : Nat) : Int))), (1, (1, l4)), (3, (0, l5)), (4, (0, s6)), (5, (0, 0))]) rfl ?_
  refine f_M_type_lp37_ok E (fun l13 l14 res hv => ?_) 1000 _ _ _ hv
  · exact f_M_type_j92_ok E hv
set_option maxRecDepth 100000 in
set_option maxHeartbeats 4000000 in
theorem f_M_type_j31_ok (E : jE) {h3 : jH} {l1 : Int} {l2 : Int} {res : Int × jH} (hv : f_M_type_j31 h3 l1 l2 = some res) : jG E M_M_type 31 [(0, (2, ((24 : Nat) : Int))), (1, (1, l1)), (3, (0, l2))] [] h3 (some (0, res.1)) res.2 := by
  unfold f_M_type_j31 at hv
  refine jG.blk (st_M_type) 1 (pc1 := 32) (L1 := [(0, (2, ((24 : Nat) : Int))), (1, (1, l1)), (3, (0, l2))]) (st1 := [(0, 0)]) (h1 := h3) rfl ?_
  exact f_M_type_j32_ok E hv
set_option maxRecDepth 100000 in
set_option maxHeartbeats 4000000 in
theorem C_M_type {E : jE} {h : jH} {a1 : Int} {a2 : Int} {res : Int × jH} (hv : f_M_type h a1 a2 = some res) : jC E M_M_type [(2, ((24 : Nat) : Int)), (1, a1), (0, a2)] h (some (0, res.1)) res.2 := by
  refine jC.of ok_M_type.1 (by rw [jlg]; exact Nat.le_of_ble_eq_true rfl) ?_
  show jG E _ 0 [(0, (2, ((24 : Nat) : Int))), (1, (1, a1)), (3, (0, a2))] [] h _ _
  unfold f_M_type at hv
  refine jG.blk (st_M_type) 5 (pc1 := 7) (L1 := [(0, (2, ((24 : Nat) : Int))), (1, (1, a1)), (3, (0, a2))]) (st1 := [(0, 1), (0, a2)]) (h1 := jup h 24 0 0) rfl ?_
  refine jT.if2 (st_M_type) rfl (tgt := 31) (by decide) (fun hc => ?_) (fun hc => ?_)
  · have hc : a2 < 1 := hc
    try rw [if_pos hc] at hv
    exact f_M_type_j31_ok E hv
  · have hc : ¬ (a2 < 1) := hc
    try rw [if_neg hc] at hv
    refine jG.blk (st_M_type) 2 (pc1 := 13) (L1 := [(0, (2, ((24 : Nat) : Int))), (1, (1, a1)), (3, (0, a2))]) (st1 := [(0, 8), (0, a2)]) (h1 := jup h 24 0 0) rfl ?_
    refine jT.if2 (st_M_type) rfl (tgt := 31) (by decide) (fun hc => ?_) (fun hc => ?_)
    · have hc : 8 < a2 := hc
      try rw [if_pos hc] at hv
      exact f_M_type_j31_ok E hv
    · have hc : ¬ (8 < a2) := hc
      try rw [if_neg hc] at hv
      refine jG.blk (st_M_type) 5 (pc1 := 24) (L1 := [(0, (2, ((24 : Nat) : Int))), (1, (1, a1)), (3, (0, a2))]) (st1 := [(0, 100), (0, jadd ((jup h 24 0 0) 24 10) a2)]) (h1 := jup h 24 0 0) rfl ?_
      refine jT.if2 (st_M_type) rfl (tgt := 31) (by decide) (fun hc => ?_) (fun hc => ?_)
      · have hc : 100 < jadd ((jup h 24 0 0) 24 10) a2 := hc
        try rw [if_pos hc] at hv
        exact f_M_type_j31_ok E hv
      · have hc : ¬ (100 < jadd ((jup h 24 0 0) 24 10) a2) := hc
        try rw [if_neg hc] at hv
        refine jG.blk (st_M_type) 1 (pc1 := 28) (L1 := [(0, (2, ((24 : Nat) : Int))), (1, (1, a1)), (3, (0, a2))]) (st1 := [(0, 1)]) (h1 := jup h 24 0 0) rfl ?_
        refine jT.goto (st_M_type) rfl (tgt := 32) (by decide) ?_
        exact f_M_type_j32_ok E hv
