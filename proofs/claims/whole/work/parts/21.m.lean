def f_M_isBehind_j39 (h : jH) (l3 : Int) (l4 : Int) (l5 : Int) (s6 : Int) (s7 : Int) : Option (Int) := jgd (0 ≤ l3 ∧ l3 < 304) (if s7 = jadd s6 (h 28 l3.toNat) then (f_M_doesAttack h l3 l4 l5).bind fun v8 => some (if v8 = 0 then 0 else 1) else some 0)
def f_M_isBehind (h : jH) (a1 : Int) (a2 : Int) (a3 : Int) : Option (Int) := (f_M_piece h a1 a2).bind fun v1 => (f_M_kindOf h v1).bind fun v2 => if v2 = 1 then jgd (0 ≤ a1 ∧ a1 < 304) (if h 28 a1.toNat < 0 then some 0 else jgd (0 ≤ a1 ∧ a1 < 304) (f_M_isBehind_j39 h a1 a2 a3 (if h 26 a1.toNat = 0 then 40 else 16) a3)) else some 0
set_option maxRecDepth 100000 in
set_option maxHeartbeats 4000000 in
theorem f_M_isBehind_j39_ok (E : jE) {h : jH} {l3 : Int} {l4 : Int} {l5 : Int} {s6 : Int} {s7 : Int} {res : Int} (hv : f_M_isBehind_j39 h l3 l4 l5 s6 s7 = some res) : jG E M_M_isBehind 39 [(0, (2, ((24 : Nat) : Int))), (1, (0, l3)), (2, (0, l4)), (3, (0, l5))] [(0, s6), (0, s7)] h (some (0, res)) h := by
  unfold f_M_isBehind_j39 at hv
  refine jG.blk (st_M_isBehind) 3 (pc1 := 44) (L1 := [(0, (2, ((24 : Nat) : Int))), (1, (0, l3)), (2, (0, l4)), (3, (0, l5))]) (st1 := [(0, l3), (2, ((28 : Nat) : Int)), (0, s6), (0, s7)]) (h1 := h) rfl ?_
  obtain ⟨hg, hv⟩ := jgd_some hv
  refine jT.iald (a := 28) (st_M_isBehind) rfl rfl (by decide) hg.1 hg.2 ?_
  refine jG.blk (st_M_isBehind) 1 (pc1 := 46) (L1 := [(0, (2, ((24 : Nat) : Int))), (1, (0, l3)), (2, (0, l4)), (3, (0, l5))]) (st1 := [(0, jadd s6 (h 28 l3.toNat)), (0, s7)]) (h1 := h) rfl ?_
  refine jT.if2 (st_M_isBehind) rfl (tgt := 63) (by decide) (fun hc => ?_) (fun hc => ?_)
  · have hc : ¬ (s7 = jadd s6 (h 28 l3.toNat)) := hc
    try rw [if_neg hc] at hv
    refine jG.blk (st_M_isBehind) 1 (pc1 := 64) (L1 := [(0, (2, ((24 : Nat) : Int))), (1, (0, l3)), (2, (0, l4)), (3, (0, l5))]) (st1 := [(0, 0)]) (h1 := h) rfl ?_
    cases hv
    exact jT.iret (st_M_isBehind) rfl (Or.inl rfl)
  · have hc : s7 = jadd s6 (h 28 l3.toNat) := Decidable.not_not.mp hc
    try rw [if_pos hc] at hv
    refine jG.blk (st_M_isBehind) 4 (pc1 := 53) (L1 := [(0, (2, ((24 : Nat) : Int))), (1, (0, l3)), (2, (0, l4)), (3, (0, l5))]) (st1 := [(0, l5), (0, l4), (0, l3), (2, ((24 : Nat) : Int))]) (h1 := h) rfl ?_
    obtain ⟨v8, hq, hv⟩ := Option.bind_eq_some_iff.mp hv
    refine jT.cV (M1 := M_M_doesAttack) (2, ((24 : Nat) : Int)) [(0, l3), (0, l4), (0, l5)] [] (st_M_isBehind) rfl rfl ok_M_doesAttack rfl (Or.inl ⟨rfl, _, _, _, rfl, rfl⟩) (Nat.le_of_ble_eq_true rfl) (Nat.le_of_ble_eq_true rfl) rfl (Nat.le_of_ble_eq_true rfl) (C_M_doesAttack hq) ?_
    show jG E _ 56 [(0, (2, ((24 : Nat) : Int))), (1, (0, l3)), (2, (0, l4)), (3, (0, l5))] [(0, v8)] h _ _
    refine jT.if1 (st_M_isBehind) rfl (tgt := 63) (by decide) (fun hc => ?_) (fun hc => ?_)
    · have hc : v8 = 0 := hc
      try rw [if_pos hc] at hv
      refine jG.blk (st_M_isBehind) 1 (pc1 := 64) (L1 := [(0, (2, ((24 : Nat) : Int))), (1, (0, l3)), (2, (0, l4)), (3, (0, l5))]) (st1 := [(0, 0)]) (h1 := h) rfl ?_
      cases hv
      exact jT.iret (st_M_isBehind) rfl (Or.inl rfl)
    · have hc : ¬ (v8 = 0) := hc
      try rw [if_neg hc] at hv
      refine jG.blk (st_M_isBehind) 1 (pc1 := 60) (L1 := [(0, (2, ((24 : Nat) : Int))), (1, (0, l3)), (2, (0, l4)), (3, (0, l5))]) (st1 := [(0, 1)]) (h1 := h) rfl ?_
      refine jT.goto (st_M_isBehind) rfl (tgt := 64) (by decide) ?_
      cases hv
      exact jT.iret (st_M_isBehind) rfl (Or.inr rfl)
set_option maxRecDepth 100000 in
set_option maxHeartbeats 4000000 in
theorem C_M_isBehind {E : jE} {h : jH} {a1 : Int} {a2 : Int} {a3 : Int} {res : Int} (hv : f_M_isBehind h a1 a2 a3 = some res) : jC E M_M_isBehind [(2, ((24 : Nat) : Int)), (0, a1), (0, a2), (0, a3)] h (some (0, res)) h := by
  refine jC.of ok_M_isBehind.1 (by rw [jlg]; exact Nat.le_of_ble_eq_true rfl) ?_
  show jG E _ 0 [(0, (2, ((24 : Nat) : Int))), (1, (0, a1)), (2, (0, a2)), (3, (0, a3))] [] h _ _
  unfold f_M_isBehind at hv
  refine jG.blk (st_M_isBehind) 3 (pc1 := 3) (L1 := [(0, (2, ((24 : Nat) : Int))), (1, (0, a1)), (2, (0, a2)), (3, (0, a3))]) (st1 := [(0, a2), (0, a1), (2, ((24 : Nat) : Int))]) (h1 := h) rfl ?_
  obtain ⟨v1, hq, hv⟩ := Option.bind_eq_some_iff.mp hv
  refine jT.cV (M1 := M_M_piece) (2, ((24 : Nat) : Int)) [(0, a1), (0, a2)] [] (st_M_isBehind) rfl rfl ok_M_piece rfl (Or.inl ⟨rfl, _, _, _, rfl, rfl⟩) (Nat.le_of_ble_eq_true rfl) (Nat.le_of_ble_eq_true rfl) rfl (Nat.le_of_ble_eq_true rfl) (C_M_piece hq) ?_
  show jG E _ 6 [(0, (2, ((24 : Nat) : Int))), (1, (0, a1)), (2, (0, a2)), (3, (0, a3))] [(0, v1)] h _ _
  obtain ⟨v2, hq, hv⟩ := Option.bind_eq_some_iff.mp hv
  refine jT.cS (M1 := M_M_kindOf) [(0, v1)] [] (st_M_isBehind) rfl rfl ok_M_kindOf rfl (Nat.le_of_ble_eq_true rfl) (Nat.le_of_ble_eq_true rfl) rfl (Nat.le_of_ble_eq_true rfl) (C_M_kindOf hq) ?_
  show jG E _ 9 [(0, (2, ((24 : Nat) : Int))), (1, (0, a1)), (2, (0, a2)), (3, (0, a3))] [(0, v2)] h _ _
  refine jG.blk (st_M_isBehind) 1 (pc1 := 10) (L1 := [(0, (2, ((24 : Nat) : Int))), (1, (0, a1)), (2, (0, a2)), (3, (0, a3))]) (st1 := [(0, 1), (0, v2)]) (h1 := h) rfl ?_
  refine jT.if2 (st_M_isBehind) rfl (tgt := 63) (by decide) (fun hc => ?_) (fun hc => ?_)
  · have hc : ¬ (v2 = 1) := hc
    try rw [if_neg hc] at hv
    refine jG.blk (st_M_isBehind) 1 (pc1 := 64) (L1 := [(0, (2, ((24 : Nat) : Int))), (1, (0, a1)), (2, (0, a2)), (3, (0, a3))]) (st1 := [(0, 0)]) (h1 := h) rfl ?_
    cases hv
    exact jT.iret (st_M_isBehind) rfl (Or.inl rfl)
  · have hc : v2 = 1 := Decidable.not_not.mp hc
    try rw [if_pos hc] at hv
    refine jG.blk (st_M_isBehind) 3 (pc1 := 18) (L1 := [(0, (2, ((24 : Nat) : Int))), (1, (0, a1)), (2, (0, a2)), (3, (0, a3))]) (st1 := [(0, a1), (2, ((28 : Nat) : Int))]) (h1 := h) rfl ?_
    obtain ⟨hg, hv⟩ := jgd_some hv
    refine jT.iald (a := 28) (st_M_isBehind) rfl rfl (by decide) hg.1 hg.2 ?_
    refine jT.if1 (st_M_isBehind) rfl (tgt := 63) (by decide) (fun hc => ?_) (fun hc => ?_)
    · have hc : h 28 a1.toNat < 0 := hc
      try rw [if_pos hc] at hv
      refine jG.blk (st_M_isBehind) 1 (pc1 := 64) (L1 := [(0, (2, ((24 : Nat) : Int))), (1, (0, a1)), (2, (0, a2)), (3, (0, a3))]) (st1 := [(0, 0)]) (h1 := h) rfl ?_
      cases hv
      exact jT.iret (st_M_isBehind) rfl (Or.inl rfl)
    · have hc : ¬ (h 28 a1.toNat < 0) := hc
      try rw [if_neg hc] at hv
      refine jG.blk (st_M_isBehind) 4 (pc1 := 28) (L1 := [(0, (2, ((24 : Nat) : Int))), (1, (0, a1)), (2, (0, a2)), (3, (0, a3))]) (st1 := [(0, a1), (2, ((26 : Nat) : Int)), (0, a3)]) (h1 := h) rfl ?_
      obtain ⟨hg, hv⟩ := jgd_some hv
      refine jT.iald (a := 26) (st_M_isBehind) rfl rfl (by decide) hg.1 hg.2 ?_
      refine jT.if1 (st_M_isBehind) rfl (tgt := 37) (by decide) (fun hc => ?_) (fun hc => ?_)
      · have hc : ¬ (h 26 a1.toNat = 0) := hc
        try rw [if_neg hc] at hv
        refine jG.blk (st_M_isBehind) 1 (pc1 := 39) (L1 := [(0, (2, ((24 : Nat) : Int))), (1, (0, a1)), (2, (0, a2)), (3, (0, a3))]) (st1 := [(0, 16), (0, a3)]) (h1 := h) rfl ?_
        exact f_M_isBehind_j39_ok E hv
      · have hc : h 26 a1.toNat = 0 := Decidable.not_not.mp hc
        try rw [if_pos hc] at hv
        refine jG.blk (st_M_isBehind) 1 (pc1 := 34) (L1 := [(0, (2, ((24 : Nat) : Int))), (1, (0, a1)), (2, (0, a2)), (3, (0, a3))]) (st1 := [(0, 40), (0, a3)]) (h1 := h) rfl ?_
        refine jT.goto (st_M_isBehind) rfl (tgt := 39) (by decide) ?_
        exact f_M_isBehind_j39_ok E hv
def f_M_lay (h : jH) (a1 : Int) (a2 : Int) (a3 : Int) : Option (jH) := jgd (0 ≤ jadd (jmul 64 a1) a2 ∧ jadd (jmul 64 a1) a2 < 19456 ∧ -128 ≤ ji2b a3 ∧ ji2b a3 < 128) (some (jup h 25 (jadd (jmul 64 a1) a2).toNat (ji2b a3)))
set_option maxRecDepth 100000 in
set_option maxHeartbeats 4000000 in
theorem C_M_lay {E : jE} {h : jH} {a1 : Int} {a2 : Int} {a3 : Int} {res : jH} (hv : f_M_lay h a1 a2 a3 = some res) : jC E M_M_lay [(2, ((24 : Nat) : Int)), (0, a1), (0, a2), (0, a3)] h none res := by
  refine jC.of ok_M_lay.1 (by rw [jlg]; exact Nat.le_of_ble_eq_true rfl) ?_
  show jG E _ 0 [(0, (2, ((24 : Nat) : Int))), (1, (0, a1)), (2, (0, a2)), (3, (0, a3))] [] h _ _
  unfold f_M_lay at hv
  refine jG.blk (st_M_lay) 9 (pc1 := 12) (L1 := [(0, (2, ((24 : Nat) : Int))), (1, (0, a1)), (2, (0, a2)), (3, (0, a3))]) (st1 := [(0, ji2b a3), (0, jadd (jmul 64 a1) a2), (2, ((25 : Nat) : Int))]) (h1 := h) rfl ?_
  obtain ⟨hg, hv⟩ := jgd_some hv
  refine jT.bast (a := 25) (st_M_lay) rfl rfl (by decide) hg.1 hg.2.1 hg.2.2.1 hg.2.2.2 ?_
  cases hv
  exact jT.vret (st_M_lay) rfl trivial
def f_M_isSafe_j122 (h43 : jH) (l35 : Int) (l36 : Int) (l37 : Int) (l38 : Int) (l39 : Int) (l40 : Int) (l41 : Int) (s42 : Int) : Option (Int × jH) := (f_M_lay h43 l35 l36 l38).bind fun v44 => (f_M_lay v44 l35 l37 l39).bind fun v45 => if l40 < 0 then jgd (s42 = 0 ∨ s42 = 1) (some (s42, v45)) else (f_M_lay v45 l35 l40 l41).bind fun v46 => jgd (s42 = 0 ∨ s42 = 1) (some (s42, v46))
def f_M_isSafe_j98 (h32 : jH) (l24 : Int) (l25 : Int) (l26 : Int) (l27 : Int) (l28 : Int) (l29 : Int) (l30 : Int) (l31 : Int) : Option (Int × jH) := (f_M_kingOf h32 l24 l27).bind fun v33 => (f_M_isAttacked h32 l24 v33 (jsub 1 l27)).bind fun v34 => f_M_isSafe_j122 h32 l24 l25 l26 l28 l29 l30 l31 (if v34 = 0 then 1 else 0)
def f_M_isSafe_j68 (h21 : jH) (l13 : Int) (l14 : Int) (l15 : Int) (l16 : Int) (l17 : Int) (l18 : Int) (l19 : Int) (s20 : Int) : Option (Int × jH) := (f_M_lay h21 l13 l14 0).bind fun v22 => (f_M_lay v22 l13 l15 l17).bind fun v23 => if l19 < 0 then f_M_isSafe_j98 v23 l13 l14 l15 l16 l17 l18 l19 s20 else (f_M_lay v23 l13 l19 0).bind fun v47 => f_M_isSafe_j98 v47 l13 l14 l15 l16 l17 l18 l19 s20
def f_M_isSafe_j50 (h11 : jH) (l4 : Int) (l5 : Int) (l6 : Int) (l7 : Int) (l8 : Int) (l9 : Int) (s10 : Int) : Option (Int × jH) := if 0 ≤ s10 then (f_M_piece h11 l4 s10).bind fun v12 => f_M_isSafe_j68 h11 l4 l5 l6 l7 l8 l9 s10 v12 else f_M_isSafe_j68 h11 l4 l5 l6 l7 l8 l9 s10 0
def f_M_isSafe (h : jH) (a1 : Int) (a2 : Int) (a3 : Int) (a4 : Int) : Option (Int × jH) := jgd (0 ≤ a1 ∧ a1 < 304) ((f_M_piece h a1 a2).bind fun v1 => (f_M_piece h a1 a3).bind fun v2 => (f_M_isBehind h a1 a2 a3).bind fun v3 => f_M_isSafe_j50 h a1 a2 a3 (h 26 a1.toNat) v1 v2 (if v3 = 0 then (-1) else jadd (jmul (jdiv a2 8) 8) (jrem a3 8)))
set_option maxRecDepth 100000 in
set_option maxHeartbeats 4000000 in
theorem f_M_isSafe_j122_ok (E : jE) {h43 : jH} {l35 : Int} {l36 : Int} {l37 : Int} {l38 : Int} {l39 : Int} {l40 : Int} {l41 : Int} {s42 : Int} {res : Int × jH} (hv : f_M_isSafe_j122 h43 l35 l36 l37 l38 l39 l40 l41 s42 = some res) : jG E M_M_isSafe 122 [(0, (2, ((24 : Nat) : Int))), (1, (0, l35)), (2, (0, l36)), (3, (0, l37)), (6, (0, l38)), (7, (0, l39)), (8, (0, l40)), (9, (0, l41))] [(0, s42)] h43 (some (0, res.1)) res.2 := by
  unfold f_M_isSafe_j122 at hv
  refine jG.blk (st_M_isSafe) 5 (pc1 := 129) (L1 := [(10, (0, s42)), (0, (2, ((24 : Nat) : Int))), (1, (0, l35)), (2, (0, l36)), (3, (0, l37)), (6, (0, l38)), (7, (0, l39)), (8, (0, l40)), (9, (0, l41))]) (st1 := [(0, l38), (0, l36), (0, l35), (2, ((24 : Nat) : Int))]) (h1 := h43) rfl ?_
  obtain ⟨v44, hq, hv⟩ := Option.bind_eq_some_iff.mp hv
  refine jT.cV (M1 := M_M_lay) (2, ((24 : Nat) : Int)) [(0, l35), (0, l36), (0, l38)] [] (st_M_isSafe) rfl rfl ok_M_lay rfl (Or.inl ⟨rfl, _, _, _, rfl, rfl⟩) (Nat.le_of_ble_eq_true rfl) (Nat.le_of_ble_eq_true rfl) rfl (Nat.le_of_ble_eq_true rfl) (C_M_lay hq) ?_
  show jG E _ 132 [(10, (0, s42)), (0, (2, ((24 : Nat) : Int))), (1, (0, l35)), (2, (0, l36)), (3, (0, l37)), (6, (0, l38)), (7, (0, l39)), (8, (0, l40)), (9, (0, l41))] [] v44 _ _
  refine jG.blk (st_M_isSafe) 4 (pc1 := 137) (L1 := [(10, (0, s42)), (0, (2, ((24 : Nat) : Int))), (1, (0, l35)), (2, (0, l36)), (3, (0, l37)), (6, (0, l38)), (7, (0, l39)), (8, (0, l40)), (9, (0, l41))]) (st1 := [(0, l39), (0, l37), (0, l35), (2, ((24 : Nat) : Int))]) (h1 := v44) rfl ?_
  obtain ⟨v45, hq, hv⟩ := Option.bind_eq_some_iff.mp hv
  refine jT.cV (M1 := M_M_lay) (2, ((24 : Nat) : Int)) [(0, l35), (0, l37), (0, l39)] [] (st_M_isSafe) rfl rfl ok_M_lay rfl (Or.inl ⟨rfl, _, _, _, rfl, rfl⟩) (Nat.le_of_ble_eq_true rfl) (Nat.le_of_ble_eq_true rfl) rfl (Nat.le_of_ble_eq_true rfl) (C_M_lay hq) ?_
  show jG E _ 140 [(10, (0, s42)), (0, (2, ((24 : Nat) : Int))), (1, (0, l35)), (2, (0, l36)), (3, (0, l37)), (6, (0, l38)), (7, (0, l39)), (8, (0, l40)), (9, (0, l41))] [] v45 _ _
  refine jG.blk (st_M_isSafe) 1 (pc1 := 142) (L1 := [(10, (0, s42)), (0, (2, ((24 : Nat) : Int))), (1, (0, l35)), (2, (0, l36)), (3, (0, l37)), (6, (0, l38)), (7, (0, l39)), (8, (0, l40)), (9, (0, l41))]) (st1 := [(0, l40)]) (h1 := v45) rfl ?_
  refine jT.if1 (st_M_isSafe) rfl (tgt := 154) (by decide) (fun hc => ?_) (fun hc => ?_)
  · have hc : l40 < 0 := hc
    try rw [if_pos hc] at hv
    refine jG.blk (st_M_isSafe) 1 (pc1 := 156) (L1 := [(10, (0, s42)), (0, (2, ((24 : Nat) : Int))), (1, (0, l35)), (2, (0, l36)), (3, (0, l37)), (6, (0, l38)), (7, (0, l39)), (8, (0, l40)), (9, (0, l41))]) (st1 := [(0, s42)]) (h1 := v45) rfl ?_
    obtain ⟨hg, hv⟩ := jgd_some hv
    cases hv
    exact jT.iret (st_M_isSafe) rfl hg
  · have hc : ¬ (l40 < 0) := hc
    try rw [if_neg hc] at hv
    refine jG.blk (st_M_isSafe) 4 (pc1 := 151) (L1 := [(10, (0, s42)), (0, (2, ((24 : Nat) : Int))), (1, (0, l35)), (2, (0, l36)), (3, (0, l37)), (6, (0, l38)), (7, (0, l39)), (8, (0, l40)), (9, (0, l41))]) (st1 := [(0, l41), (0, l40), (0, l35), (2, ((24 : Nat) : Int))]) (h1 := v45) rfl ?_
    obtain ⟨v46, hq, hv⟩ := Option.bind_eq_some_iff.mp hv
    refine jT.cV (M1 := M_M_lay) (2, ((24 : Nat) : Int)) [(0, l35), (0, l40), (0, l41)] [] (st_M_isSafe) rfl rfl ok_M_lay rfl (Or.inl ⟨rfl, _, _, _, rfl, rfl⟩) (Nat.le_of_ble_eq_true rfl) (Nat.le_of_ble_eq_true rfl) rfl (Nat.le_of_ble_eq_true rfl) (C_M_lay hq) ?_
    show jG E _ 154 [(10, (0, s42)), (0, (2, ((24 : Nat) : Int))), (1, (0, l35)), (2, (0, l36)), (3, (0, l37)), (6, (0, l38)), (7, (0, l39)), (8, (0, l40)), (9, (0, l41))] [] v46 _ _
    refine jG.blk (st_M_isSafe) 1 (pc1 := 156) (L1 := [(10, (0, s42)), (0, (2, ((24 : Nat) : Int))), (1, (0, l35)), (2, (0, l36)), (3, (0, l37)), (6, (0, l38)), (7, (0, l39)), (8, (0, l40)), (9, (0, l41))]) (st1 := [(0, s42)]) (h1 := v46) rfl ?_
    obtain ⟨hg, hv⟩ := jgd_some hv
    cases hv
    exact jT.iret (st_M_isSafe) rfl hg
set_option maxRecDepth 100000 in
set_option maxHeartbeats 4000000 in
theorem f_M_isSafe_j98_ok (E : jE) {h32 : jH} {l24 : Int} {l25 : Int} {l26 : Int} {l27 : Int} {l28 : Int} {l29 : Int} {l30 : Int} {l31 : Int} {res : Int × jH} (hv : f_M_isSafe_j98 h32 l24 l25 l26 l27 l28 l29 l30 l31 = some res) : jG E M_M_isSafe 98 [(0, (2, ((24 : Nat) : Int))), (1, (0, l24)), (2, (0, l25)), (3, (0, l26)), (5, (0, l27)), (6, (0, l28)), (7, (0, l29)), (8, (0, l30)), (9, (0, l31))] [] h32 (some (0, res.1)) res.2 := by
  unfold f_M_isSafe_j98 at hv
  refine jG.blk (st_M_isSafe) 5 (pc1 := 104) (L1 := [(0, (2, ((24 : Nat) : Int))), (1, (0, l24)), (2, (0, l25)), (3, (0, l26)), (5, (0, l27)), (6, (0, l28)), (7, (0, l29)), (8, (0, l30)), (9, (0, l31))]) (st1 := [(0, l27), (0, l24), (2, ((24 : Nat) : Int)), (0, l24), (2, ((24 : Nat) : Int))]) (h1 := h32) rfl ?_
  obtain ⟨v33, hq, hv⟩ := Option.bind_eq_some_iff.mp hv
  refine jT.cV (M1 := M_M_kingOf) (2, ((24 : Nat) : Int)) [(0, l24), (0, l27)] [(0, l24), (2, ((24 : Nat) : Int))] (st_M_isSafe) rfl rfl ok_M_kingOf rfl (Or.inl ⟨rfl, _, _, _, rfl, rfl⟩) (Nat.le_of_ble_eq_true rfl) (Nat.le_of_ble_eq_true rfl) rfl (Nat.le_of_ble_eq_true rfl) (C_M_kingOf hq) ?_
  show jG E _ 107 [(0, (2, ((24 : Nat) : Int))), (1, (0, l24)), (2, (0, l25)), (3, (0, l26)), (5, (0, l27)), (6, (0, l28)), (7, (0, l29)), (8, (0, l30)), (9, (0, l31))] [(0, v33), (0, l24), (2, ((24 : Nat) : Int))] h32 _ _
  refine jG.blk (st_M_isSafe) 3 (pc1 := 111) (L1 := [(0, (2, ((24 : Nat) : Int))), (1, (0, l24)), (2, (0, l25)), (3, (0, l26)), (5, (0, l27)), (6, (0, l28)), (7, (0, l29)), (8, (0, l30)), (9, (0, l31))]) (st1 := [(0, jsub 1 l27), (0, v33), (0, l24), (2, ((24 : Nat) : Int))]) (h1 := h32) rfl ?_
  obtain ⟨v34, hq, hv⟩ := Option.bind_eq_some_iff.mp hv
  refine jT.cV (M1 := M_M_isAttacked) (2, ((24 : Nat) : Int)) [(0, l24), (0, v33), (0, jsub 1 l27)] [] (st_M_isSafe) rfl rfl ok_M_isAttacked rfl (Or.inl ⟨rfl, _, _, _, rfl, rfl⟩) (Nat.le_of_ble_eq_true rfl) (Nat.le_of_ble_eq_true rfl) rfl (Nat.le_of_ble_eq_true rfl) (C_M_isAttacked hq) ?_
  show jG E _ 114 [(0, (2, ((24 : Nat) : Int))), (1, (0, l24)), (2, (0, l25)), (3, (0, l26)), (5, (0, l27)), (6, (0, l28)), (7, (0, l29)), (8, (0, l30)), (9, (0, l31))] [(0, v34)] h32 _ _
  refine jT.if1 (st_M_isSafe) rfl (tgt := 121) (by decide) (fun hc => ?_) (fun hc => ?_)
  · have hc : ¬ (v34 = 0) := hc
    try rw [if_neg hc] at hv
    refine jG.blk (st_M_isSafe) 1 (pc1 := 122) (L1 := [(0, (2, ((24 : Nat) : Int))), (1, (0, l24)), (2, (0, l25)), (3, (0, l26)), (5, (0, l27)), (6, (0, l28)), (7, (0, l29)), (8, (0, l30)), (9, (0, l31))]) (st1 := [(0, 0)]) (h1 := h32) rfl ?_
    refine jG.subp [0, 1, 2, 3, 5, 6, 7, 8] (L1 := [(0, (2, ((24 : Nat) : Int))), (1, (0, l24)), (2, (0, l25)), (3, (0, l26)), (6, (0, l28)), (7, (0, l29)), (8, (0, l30)), (9, (0, l31))]) rfl ?_
    exact f_M_isSafe_j122_ok E hv
  · have hc : v34 = 0 := Decidable.not_not.mp hc
    try rw [if_pos hc] at hv
    refine jG.blk (st_M_isSafe) 1 (pc1 := 118) (L1 := [(0, (2, ((24 : Nat) : Int))), (1, (0, l24)), (2, (0, l25)), (3, (0, l26)), (5, (0, l27)), (6, (0, l28)), (7, (0, l29)), (8, (0, l30)), (9, (0, l31))]) (st1 := [(0, 1)]) (h1 := h32) rfl ?_
    refine jT.goto (st_M_isSafe) rfl (tgt := 122) (by decide) ?_
    refine jG.subp [0, 1, 2, 3, 5, 6, 7, 8] (L1 := [(0, (2, ((24 : Nat) : Int))), (1, (0, l24)), (2, (0, l25)), (3, (0, l26)), (6, (0, l28)), (7, (0, l29)), (8, (0, l30)), (9, (0, l31))]) rfl ?_
    exact f_M_isSafe_j122_ok E hv
set_option maxRecDepth 100000 in
set_option maxHeartbeats 4000000 in
theorem f_M_isSafe_j68_ok (E : jE) {h21 : jH} {l13 : Int} {l14 : Int} {l15 : Int} {l16 : Int} {l17 : Int} {l18 : Int} {l19 : Int} {s20 : Int} {res : Int × jH} (hv : f_M_isSafe_j68 h21 l13 l14 l15 l16 l17 l18 l19 s20 = some res) : jG E M_M_isSafe 68 [(0, (2, ((24 : Nat) : Int))), (1, (0, l13)), (2, (0, l14)), (3, (0, l15)), (5, (0, l16)), (6, (0, l17)), (7, (0, l18)), (8, (0, l19))] [(0, s20)] h21 (some (0, res.1)) res.2 := by
  unfold f_M_isSafe_j68 at hv
  refine jG.blk (st_M_isSafe) 5 (pc1 := 74) (L1 := [(9, (0, s20)), (0, (2, ((24 : Nat) : Int))), (1, (0, l13)), (2, (0, l14)), (3, (0, l15)), (5, (0, l16)), (6, (0, l17)), (7, (0, l18)), (8, (0, l19))]) (st1 := [(0, 0), (0, l14), (0, l13), (2, ((24 : Nat) : Int))]) (h1 := h21) rfl ?_
  obtain ⟨v22, hq, hv⟩ := Option.bind_eq_some_iff.mp hv
  refine jT.cV (M1 := M_M_lay) (2, ((24 : Nat) : Int)) [(0, l13), (0, l14), (0, 0)] [] (st_M_isSafe) rfl rfl ok_M_lay rfl (Or.inl ⟨rfl, _, _, _, rfl, rfl⟩) (Nat.le_of_ble_eq_true rfl) (Nat.le_of_ble_eq_true rfl) rfl (Nat.le_of_ble_eq_true rfl) (C_M_lay hq) ?_
  show jG E _ 77 [(9, (0, s20)), (0, (2, ((24 : Nat) : Int))), (1, (0, l13)), (2, (0, l14)), (3, (0, l15)), (5, (0, l16)), (6, (0, l17)), (7, (0, l18)), (8, (0, l19))] [] v22 _ _
  refine jG.blk (st_M_isSafe) 4 (pc1 := 82) (L1 := [(9, (0, s20)), (0, (2, ((24 : Nat) : Int))), (1, (0, l13)), (2, (0, l14)), (3, (0, l15)), (5, (0, l16)), (6, (0, l17)), (7, (0, l18)), (8, (0, l19))]) (st1 := [(0, l17), (0, l15), (0, l13), (2, ((24 : Nat) : Int))]) (h1 := v22) rfl ?_
  obtain ⟨v23, hq, hv⟩ := Option.bind_eq_some_iff.mp hv
  refine jT.cV (M1 := M_M_lay) (2, ((24 : Nat) : Int)) [(0, l13), (0, l15), (0, l17)] [] (st_M_isSafe) rfl rfl ok_M_lay rfl (Or.inl ⟨rfl, _, _, _, rfl, rfl⟩) (Nat.le_of_ble_eq_true rfl) (Nat.le_of_ble_eq_true rfl) rfl (Nat.le_of_ble_eq_true rfl) (C_M_lay hq) ?_
  show jG E _ 85 [(9, (0, s20)), (0, (2, ((24 : Nat) : Int))), (1, (0, l13)), (2, (0, l14)), (3, (0, l15)), (5, (0, l16)), (6, (0, l17)), (7, (0, l18)), (8, (0, l19))] [] v23 _ _
  refine jG.blk (st_M_isSafe) 1 (pc1 := 87) (L1 := [(9, (0, s20)), (0, (2, ((24 : Nat) : Int))), (1, (0, l13)), (2, (0, l14)), (3, (0, l15)), (5, (0, l16)), (6, (0, l17)), (7, (0, l18)), (8, (0, l19))]) (st1 := [(0, l19)]) (h1 := v23) rfl ?_
  refine jT.if1 (st_M_isSafe) rfl (tgt := 98) (by decide) (fun hc => ?_) (fun hc => ?_)
  · have hc : l19 < 0 := hc
    try rw [if_pos hc] at hv
    refine jG.subp [1, 2, 3, 4, 5, 6, 7, 8, 0] (L1 := [(0, (2, ((24 : Nat) : Int))), (1, (0, l13)), (2, (0, l14)), (3, (0, l15)), (5, (0, l16)), (6, (0, l17)), (7, (0, l18)), (8, (0, l19)), (9, (0, s20))]) rfl ?_
    exact f_M_isSafe_j98_ok E hv
  · have hc : ¬ (l19 < 0) := hc
    try rw [if_neg hc] at hv
    refine jG.blk (st_M_isSafe) 4 (pc1 := 95) (L1 := [(9, (0, s20)), (0, (2, ((24 : Nat) : Int))), (1, (0, l13)), (2, (0, l14)), (3, (0, l15)), (5, (0, l16)), (6, (0, l17)), (7, (0, l18)), (8, (0, l19))]) (st1 := [(0, 0), (0, l19), (0, l13), (2, ((24 : Nat) : Int))]) (h1 := v23) rfl ?_
    obtain ⟨v47, hq, hv⟩ := Option.bind_eq_some_iff.mp hv
    refine jT.cV (M1 := M_M_lay) (2, ((24 : Nat) : Int)) [(0, l13), (0, l19), (0, 0)] [] (st_M_isSafe) rfl rfl ok_M_lay rfl (Or.inl ⟨rfl, _, _, _, rfl, rfl⟩) (Nat.le_of_ble_eq_true rfl) (Nat.le_of_ble_eq_true rfl) rfl (Nat.le_of_ble_eq_true rfl) (C_M_lay hq) ?_
    show jG E _ 98 [(9, (0, s20)), (0, (2, ((24 : Nat) : Int))), (1, (0, l13)), (2, (0, l14)), (3, (0, l15)), (5, (0, l16)), (6, (0, l17)), (7, (0, l18)), (8, (0, l19))] [] v47 _ _
    refine jG.subp [1, 2, 3, 4, 5, 6, 7, 8, 0] (L1 := [(0, (2, ((24 : Nat) : Int))), (1, (0, l13)), (2, (0, l14)), (3, (0, l15)), (5, (0, l16)), (6, (0, l17)), (7, (0, l18)), (8, (0, l19)), (9, (0, s20))]) rfl ?_
    exact f_M_isSafe_j98_ok E hv
set_option maxRecDepth 100000 in
set_option maxHeartbeats 4000000 in
theorem f_M_isSafe_j50_ok (E : jE) {h11 : jH} {l4 : Int} {l5 : Int} {l6 : Int} {l7 : Int} {l8 : Int} {l9 : Int} {s10 : Int} {res : Int × jH} (hv : f_M_isSafe_j50 h11 l4 l5 l6 l7 l8 l9 s10 = some res) : jG E M_M_isSafe 50 [(0, (2, ((24 : Nat) : Int))), (1, (0, l4)), (2, (0, l5)), (3, (0, l6)), (5, (0, l7)), (6, (0, l8)), (7, (0, l9))] [(0, s10)] h11 (some (0, res.1)) res.2 := by
  unfold f_M_isSafe_j50 at hv
  refine jG.blk (st_M_isSafe) 2 (pc1 := 54) (L1 := [(8, (0, s10)), (0, (2, ((24 : Nat) : Int))), (1, (0, l4)), (2, (0, l5)), (3, (0, l6)), (5, (0, l7)), (6, (0, l8)), (7, (0, l9))]) (st1 := [(0, s10)]) (h1 := h11) rfl ?_
  refine jT.if1 (st_M_isSafe) rfl (tgt := 61) (by decide) (fun hc => ?_) (fun hc => ?_)
  · have hc : 0 ≤ s10 := hc
    try rw [if_pos hc] at hv
    refine jG.blk (st_M_isSafe) 3 (pc1 := 65) (L1 := [(8, (0, s10)), (0, (2, ((24 : Nat) : Int))), (1, (0, l4)), (2, (0, l5)), (3, (0, l6)), (5, (0, l7)), (6, (0, l8)), (7, (0, l9))]) (st1 := [(0, s10), (0, l4), (2, ((24 : Nat) : Int))]) (h1 := h11) rfl ?_
    obtain ⟨v12, hq, hv⟩ := Option.bind_eq_some_iff.mp hv
    refine jT.cV (M1 := M_M_piece) (2, ((24 : Nat) : Int)) [(0, l4), (0, s10)] [] (st_M_isSafe) rfl rfl ok_M_piece rfl (Or.inl ⟨rfl, _, _, _, rfl, rfl⟩) (Nat.le_of_ble_eq_true rfl) (Nat.le_of_ble_eq_true rfl) rfl (Nat.le_of_ble_eq_true rfl) (C_M_piece hq) ?_
    show jG E _ 68 [(8, (0, s10)), (0, (2, ((24 : Nat) : Int))), (1, (0, l4)), (2, (0, l5)), (3, (0, l6)), (5, (0, l7)), (6, (0, l8)), (7, (0, l9))] [(0, v12)] h11 _ _
    refine jG.subp [1, 2, 3, 4, 5, 6, 7, 0] (L1 := [(0, (2, ((24 : Nat) : Int))), (1, (0, l4)), (2, (0, l5)), (3, (0, l6)), (5, (0, l7)), (6, (0, l8)), (7, (0, l9)), (8, (0, s10))]) rfl ?_
    exact f_M_isSafe_j68_ok E hv
  · have hc : ¬ (0 ≤ s10) := hc
    try rw [if_neg hc] at hv
    refine jG.blk (st_M_isSafe) 1 (pc1 := 58) (L1 := [(8, (0, s10)), (0, (2, ((24 : Nat) : Int))), (1, (0, l4)), (2, (0, l5)), (3, (0, l6)), (5, (0, l7)), (6, (0, l8)), (7, (0, l9))]) (st1 := [(0, 0)]) (h1 := h11) rfl ?_
    refine jT.goto (st_M_isSafe) rfl (tgt := 68) (by decide) ?_
    refine jG.subp [1, 2, 3, 4, 5, 6, 7, 0] (L1 := [(0, (2, ((24 : Nat) : Int))), (1, (0, l4)), (2, (0, l5)), (3, (0, l6)), (5, (0, l7)), (6, (0, l8)), (7, (0, l9)), (8, (0, s10))]) rfl ?_
    exact f_M_isSafe_j68_ok E hv
set_option maxRecDepth 100000 in
set_option maxHeartbeats 4000000 in
theorem C_M_isSafe {E : jE} {h : jH} {a1 : Int} {a2 : Int} {a3 : Int} {a4 : Int} {res : Int × jH} (hv : f_M_isSafe h a1 a2 a3 a4 = some res) : jC E M_M_isSafe [(2, ((24 : Nat) : Int)), (0, a1), (0, a2), (0, a3), (0, a4)] h (some (0, res.1)) res.2 := by
  refine jC.of ok_M_isSafe.1 (by rw [jlg]; exact Nat.le_of_ble_eq_true rfl) ?_
  show jG E _ 0 [(0, (2, ((24 : Nat) : Int))), (1, (0, a1)), (2, (0, a2)), (3, (0, a3)), (4, (0, a4))] [] h _ _
  unfold f_M_isSafe at hv
  refine jG.blk (st_M_isSafe) 3 (pc1 := 5) (L1 := [(0, (2, ((24 : Nat) : Int))), (1, (0, a1)), (2, (0, a2)), (3, (0, a3)), (4, (0, a4))]) (st1 := [(0, a1), (2, ((26 : Nat) : Int))]) (h1 := h) rfl ?_
  obtain ⟨hg, hv⟩ := jgd_some hv
  refine jT.iald (a := 26) (st_M_isSafe) rfl rfl (by decide) hg.1 hg.2 ?_
  refine jG.blk (st_M_isSafe) 4 (pc1 := 11) (L1 := [(5, (0, h 26 a1.toNat)), (0, (2, ((24 : Nat) : Int))), (1, (0, a1)), (2, (0, a2)), (3, (0, a3)), (4, (0, a4))]) (st1 := [(0, a2), (0, a1), (2, ((24 : Nat) : Int))]) (h1 := h) rfl ?_
  obtain ⟨v1, hq, hv⟩ := Option.bind_eq_some_iff.mp hv
  refine jT.cV (M1 := M_M_piece) (2, ((24 : Nat) : Int)) [(0, a1), (0, a2)] [] (st_M_isSafe) rfl rfl ok_M_piece rfl (Or.inl ⟨rfl, _, _, _, rfl, rfl⟩) (Nat.le_of_ble_eq_true rfl) (Nat.le_of_ble_eq_true rfl) rfl (Nat.le_of_ble_eq_true rfl) (C_M_piece hq) ?_
  show jG E _ 14 [(5, (0, h 26 a1.toNat)), (0, (2, ((24 : Nat) : Int))), (1, (0, a1)), (2, (0, a2)), (3, (0, a3)), (4, (0, a4))] [(0, v1)] h _ _
  refine jG.blk (st_M_isSafe) 4 (pc1 := 19) (L1 := [(6, (0, v1)), (5, (0, h 26 a1.toNat)), (0, (2, ((24 : Nat) : Int))), (1, (0, a1)), (2, (0, a2)), (3, (0, a3)), (4, (0, a4))]) (st1 := [(0, a3), (0, a1), (2, ((24 : Nat) : Int))]) (h1 := h) rfl ?_
  obtain ⟨v2, hq, hv⟩ := Option.bind_eq_some_iff.mp hv
  refine jT.cV (M1 := M_M_piece) (2, ((24 : Nat) : Int)) [(0, a1), (0, a3)] [] (st_M_isSafe) rfl rfl ok_M_piece rfl (Or.inl ⟨rfl, _, _, _, rfl, rfl⟩) (Nat.le_of_ble_eq_true rfl) (Nat.le_of_ble_eq_true rfl) rfl (Nat.le_of_ble_eq_true rfl) (C_M_piece hq) ?_
  show jG E _ 22 [(6, (0, v1)), (5, (0, h 26 a1.toNat)), (0, (2, ((24 : Nat) : Int))), (1, (0, a1)), (2, (0, a2)), (3, (0, a3)), (4, (0, a4))] [(0, v2)] h _ _
  refine jG.blk (st_M_isSafe) 5 (pc1 := 28) (L1 := [(7, (0, v2)), (6, (0, v1)), (5, (0, h 26 a1.toNat)), (0, (2, ((24 : Nat) : Int))), (1, (0, a1)), (2, (0, a2)), (3, (0, a3)), (4, (0, a4))]) (st1 := [(0, a3), (0, a2), (0, a1), (2, ((24 : Nat) : Int))]) (h1 := h) rfl ?_
  obtain ⟨v3, hq, hv⟩ := Option.bind_eq_some_iff.mp hv
  refine jT.cV (M1 := M_M_isBehind) (2, ((24 : Nat) : Int)) [(0, a1), (0, a2), (0, a3)] [] (st_M_isSafe) rfl rfl ok_M_isBehind rfl (Or.inl ⟨rfl, _, _, _, rfl, rfl⟩) (Nat.le_of_ble_eq_true rfl) (Nat.le_of_ble_eq_true rfl) rfl (Nat.le_of_ble_eq_true rfl) (C_M_isBehind hq) ?_
  show jG E _ 31 [(7, (0, v2)), (6, (0, v1)), (5, (0, h 26 a1.toNat)), (0, (2, ((24 : Nat) : Int))), (1, (0, a1)), (2, (0, a2)), (3, (0, a3)), (4, (0, a4))] [(0, v3)] h _ _
  refine jT.if1 (st_M_isSafe) rfl (tgt := 49) (by decide) (fun hc => ?_) (fun hc => ?_)
  · have hc : v3 = 0 := hc
    try rw [if_pos hc] at hv
    refine jG.blk (st_M_isSafe) 1 (pc1 := 50) (L1 := [(7, (0, v2)), (6, (0, v1)), (5, (0, h 26 a1.toNat)), (0, (2, ((24 : Nat) : Int))), (1, (0, a1)), (2, (0, a2)), (3, (0, a3)), (4, (0, a4))]) (st1 := [(0, (-1))]) (h1 := h) rfl ?_
    refine jG.subp [3, 4, 5, 6, 2, 1, 0] (L1 := [(0, (2, ((24 : Nat) : Int))), (1, (0, a1)), (2, (0, a2)), (3, (0, a3)), (5, (0, h 26 a1.toNat)), (6, (0, v1)), (7, (0, v2))]) rfl ?_
    exact f_M_isSafe_j50_ok E hv
  · have hc : ¬ (v3 = 0) := hc
    try rw [if_neg hc] at hv
    refine jG.blk (st_M_isSafe) 9 (pc1 := 46) (L1 := [(7, (0, v2)), (6, (0, v1)), (5, (0, h 26 a1.toNat)), (0, (2, ((24 : Nat) : Int))), (1, (0, a1)), (2, (0, a2)), (3, (0, a3)), (4, (0, a4))]) (st1 := [(0, jadd (jmul (jdiv a2 8) 8) (jrem a3 8))]) (h1 := h) rfl ?_
    refine jT.goto (st_M_isSafe) rfl (tgt := 50) (by decide) ?_
    refine jG.subp [3, 4, 5, 6, 2, 1, 0] (L1 := [(0, (2, ((24 : Nat) : Int))), (1, (0, a1)), (2, (0, a2)), (3, (0, a3)), (5, (0, h 26 a1.toNat)), (6, (0, v1)), (7, (0, v2))]) rfl ?_
    exact f_M_isSafe_j50_ok E hv
def f_M_findTakers_j133_46 (rc : Int → jH → Option (jH)) (k : Int → jH → Option (jH)) (h10 : jH) (h20 : jH) (x8 : Int) (x9 : Int) (l17 : Int) (s18 : Int) (s19 : Int) : Option (jH) := jgd (0 ≤ s19 ∧ s19 < 304) (rc (jadd l17 1) (jup h20 30 s19.toNat s18))
def f_M_findTakers_j102_46 (rc : Int → jH → Option (jH)) (k : Int → jH → Option (jH)) (h10 : jH) (h16 : jH) (x8 : Int) (x9 : Int) (l14 : Int) (s15 : Int) : Option (jH) := if s15 = 0 then jgd (0 ≤ x8 ∧ x8 < 304) (f_M_findTakers_j133_46 rc k h10 h16 x8 x9 l14 (h16 30 x8.toNat) x8) else jgd (0 ≤ x8 ∧ x8 < 304) (f_M_findTakers_j133_46 rc k h10 h16 x8 x9 l14 (jlor (h16 30 x8.toNat) (jlshl 1 l14)) x8)
def f_M_findTakers_j101_46 (rc : Int → jH → Option (jH)) (k : Int → jH → Option (jH)) (h10 : jH) (h13 : jH) (x8 : Int) (x9 : Int) (l12 : Int) : Option (jH) := f_M_findTakers_j102_46 rc k h10 h13 x8 x9 l12 0
def f_M_findTakers_lp46 (x8 : Int) (x9 : Int) (k : Int → jH → Option (jH)) : Nat → Int → jH → Option (jH)
  | 0, _, _ => none
  | n + 1, l7, h10 => if 64 ≤ l7 then k l7 h10 else jgd (0 ≤ x8 ∧ x8 < 304) (if h10 28 x8.toNat < 0 then k l7 h10 else jgd (0 ≤ x8 ∧ x8 < 304) ((f_M_isOf h10 x8 l7 (h10 26 x8.toNat)).bind fun v11 => if v11 = 0 then f_M_findTakers_j101_46 (f_M_findTakers_lp46 x8 x9 k n) k h10 h10 x8 x9 l7 else (f_M_isBehind h10 x8 l7 x9).bind fun v21 => if v21 = 0 then f_M_findTakers_j101_46 (f_M_findTakers_lp46 x8 x9 k n) k h10 h10 x8 x9 l7 else (f_M_isSafe h10 x8 l7 x9 0).bind fun v22 => if v22.1 = 0 then f_M_findTakers_j101_46 (f_M_findTakers_lp46 x8 x9 k n) k h10 v22.2 x8 x9 l7 else f_M_findTakers_j102_46 (f_M_findTakers_lp46 x8 x9 k n) k h10 v22.2 x8 x9 l7 1))
def f_M_findTakers_j43 (h6 : jH) (l4 : Int) (s5 : Int) : Option (jH) := f_M_findTakers_lp46 l4 s5 (fun l23 h24 => some h24) 1000 0 h6
def f_M_findTakers_j36 (h3 : jH) (l1 : Int) (s2 : Int) : Option (jH) := jgd (0 ≤ l1 ∧ l1 < 304) (f_M_findTakers_j43 h3 l1 (jadd s2 (h3 28 l1.toNat)))
def f_M_findTakers (h : jH) (a1 : Int) : Option (jH) := jgd (0 ≤ a1 ∧ a1 < 304) (jgd (0 ≤ a1 ∧ a1 < 304) (if 0 ≤ (jup h 30 a1.toNat 0) 28 a1.toNat then jgd (0 ≤ a1 ∧ a1 < 304) (f_M_findTakers_j36 (jup h 30 a1.toNat 0) a1 (if (jup h 30 a1.toNat 0) 26 a1.toNat = 0 then 40 else 16)) else f_M_findTakers_j43 (jup h 30 a1.toNat 0) a1 0))
set_option maxRecDepth 100000 in
set_option maxHeartbeats 4000000 in
theorem f_M_findTakers_j133_46_ok (E : jE) {rc : Int → jH → Option (jH)} {k : Int → jH → Option (jH)} {h10 : jH} {h20 : jH} {x8 : Int} {x9 : Int} (hrc : ∀ (l7 : Int) (h10 : jH) (res : jH), rc l7 h10 = some res → jG E M_M_findTakers 46 [(0, (2, ((24 : Nat) : Int))), (1, (0, x8)), (2, (0, x9)), (3, (0, l7))] [] h10 none res) (hk : ∀ (l7 : Int) (h10 : jH) (res : jH), k l7 h10 = some res → jG E M_M_findTakers 140 [] [] h10 none res) {l17 : Int} {s18 : Int} {s19 : Int} {res : jH} (hv : f_M_findTakers_j133_46 rc k h10 h20 x8 x9 l17 s18 s19 = some res) : jG E M_M_findTakers 133 [(0, (2, ((24 : Nat) : Int))), (1, (0, x8)), (2, (0, x9)), (3, (0, l17))] [(1, s18), (0, s19), (2, ((30 : Nat) : Int))] h20 none res := by
  unfold f_M_findTakers_j133_46 at hv
  obtain ⟨hg, hv⟩ := jgd_some hv
  refine jT.last (a := 30) (st_M_findTakers) rfl rfl (by decide) hg.1 hg.2 ?_
  refine jG.blk (st_M_findTakers) 1 (pc1 := 137) (L1 := [(3, (0, jadd l17 1)), (0, (2, ((24 : Nat) : Int))), (1, (0, x8)), (2, (0, x9))]) (st1 := []) (h1 := jup h20 30 s19.toNat s18) rfl ?_
  refine jT.goto (st_M_findTakers) rfl (tgt := 46) (by decide) ?_
  refine jG.subp [1, 2, 3, 0] (L1 := [(0, (2, ((24 : Nat) : Int))), (1, (0, x8)), (2, (0, x9)), (3, (0, jadd l17 1))]) rfl ?_
  exact hrc _ _ _ hv
set_option maxRecDepth 100000 in
set_option maxHeartbeats 4000000 in
theorem f_M_findTakers_j102_46_ok (E : jE) {rc : Int → jH → Option (jH)} {k : Int → jH → Option (jH)} {h10 : jH} {h16 : jH} {x8 : Int} {x9 : Int} (hrc : ∀ (l7 : Int) (h10 : jH) (res : jH), rc l7 h10 = some res → jG E M_M_findTakers 46 [(0, (2, ((24 : Nat) : Int))), (1, (0, x8)), (2, (0, x9)), (3, (0, l7))] [] h10 none res) (hk : ∀ (l7 : Int) (h10 : jH) (res : jH), k l7 h10 = some res → jG E M_M_findTakers 140 [] [] h10 none res) {l14 : Int} {s15 : Int} {res : jH} (hv : f_M_findTakers_j102_46 rc k h10 h16 x8 x9 l14 s15 = some res) : jG E M_M_findTakers 102 [(0, (2, ((24 : Nat) : Int))), (1, (0, x8)), (2, (0, x9)), (3, (0, l14))] [(0, s15)] h16 none res := by
  unfold f_M_findTakers_j102_46 at hv
  refine jG.blk (st_M_findTakers) 5 (pc1 := 111) (L1 := [(4, (0, s15)), (0, (2, ((24 : Nat) : Int))), (1, (0, x8)), (2, (0, x9)), (3, (0, l14))]) (st1 := [(0, s15), (0, x8), (2, ((30 : Nat) : Int))]) (h1 := h16) rfl ?_
  refine jT.if1 (st_M_findTakers) rfl (tgt := 127) (by decide) (fun hc => ?_) (fun hc => ?_)
  · have hc : s15 = 0 := hc
    try rw [if_pos hc] at hv
    refine jG.blk (st_M_findTakers) 3 (pc1 := 132) (L1 := [(4, (0, s15)), (0, (2, ((24 : Nat) : Int))), (1, (0, x8)), (2, (0, x9)), (3, (0, l14))]) (st1 := [(0, x8), (2, ((30 : Nat) : Int)), (0, x8), (2, ((30 : Nat) : Int))]) (h1 := h16) rfl ?_
    obtain ⟨hg, hv⟩ := jgd_some hv
    refine jT.lald (a := 30) (st_M_findTakers) rfl rfl (by decide) hg.1 hg.2 ?_
    refine jG.subp [1, 2, 3, 4] (L1 := [(0, (2, ((24 : Nat) : Int))), (1, (0, x8)), (2, (0, x9)), (3, (0, l14))]) rfl ?_
    exact f_M_findTakers_j133_46_ok E hrc hk hv
  · have hc : ¬ (s15 = 0) := hc
    try rw [if_neg hc] at hv
    refine jG.blk (st_M_findTakers) 3 (pc1 := 119) (L1 := [(4, (0, s15)), (0, (2, ((24 : Nat) : Int))), (1, (0, x8)), (2, (0, x9)), (3, (0, l14))]) (st1 := [(0, x8), (2, ((30 : Nat) : Int)), (0, x8), (2, ((30 : Nat) : Int))]) (h1 := h16) rfl ?_
    obtain ⟨hg, hv⟩ := jgd_some hv
    refine jT.lald (a := 30) (st_M_findTakers) rfl rfl (by decide) hg.1 hg.2 ?_
    refine jG.blk (st_M_findTakers) 4 (pc1 := 124) (L1 := [(4, (0, s15)), (0, (2, ((24 : Nat) : Int))), (1, (0, x8)), (2, (0, x9)), (3, (0, l14))]) (st1 := [(1, jlor (h16 30 x8.toNat) (jlshl 1 l14)), (0, x8), (2, ((30 : Nat) : Int))]) (h1 := h16) rfl ?_
    refine jT.goto (st_M_findTakers) rfl (tgt := 133) (by decide) ?_
    refine jG.subp [1, 2, 3, 4] (L1 := [(0, (2, ((24 : Nat) : Int))), (1, (0, x8)), (2, (0, x9)), (3, (0, l14))]) rfl ?_
    exact f_M_findTakers_j133_46_ok E hrc hk hv
set_option maxRecDepth 100000 in
set_option maxHeartbeats 4000000 in
theorem f_M_findTakers_j101_46_ok (E : jE) {rc : Int → jH → Option (jH)} {k : Int → jH → Option (jH)} {h10 : jH} {h13 : jH} {x8 : Int} {x9 : Int} (hrc : ∀ (l7 : Int) (h10 : jH) (res : jH), rc l7 h10 = some res → jG E M_M_findTakers 46 [(0, (2, ((24 : Nat) : Int))), (1, (0, x8)), (2, (0, x9)), (3, (0, l7))] [] h10 none res) (hk : ∀ (l7 : Int) (h10 : jH) (res : jH), k l7 h10 = some res → jG E M_M_findTakers 140 [] [] h10 none res) {l12 : Int} {res : jH} (hv : f_M_findTakers_j101_46 rc k h10 h13 x8 x9 l12 = some res) : jG E M_M_findTakers 101 [(0, (2, ((24 : Nat) : Int))), (1, (0, x8)), (2, (0, x9)), (3, (0, l12))] [] h13 none res := by
  unfold f_M_findTakers_j101_46 at hv
  refine jG.blk (st_M_findTakers) 1 (pc1 := 102) (L1 := [(0, (2, ((24 : Nat) : Int))), (1, (0, x8)), (2, (0, x9)), (3, (0, l12))]) (st1 := [(0, 0)]) (h1 := h13) rfl ?_
  exact f_M_findTakers_j102_46_ok E hrc hk hv
set_option maxRecDepth 100000 in
set_option maxHeartbeats 4000000 in
theorem f_M_findTakers_lp46_ok (E : jE) {x8 : Int} {x9 : Int} {k : Int → jH → Option (jH)} (hk : ∀ (l7 : Int) (h10 : jH) (res : jH), k l7 h10 = some res → jG E M_M_findTakers 140 [] [] h10 none res) : ∀ (n : Nat) (l7 : Int) (h10 : jH) (res : jH), f_M_findTakers_lp46 x8 x9 k n l7 h10 = some res → jG E M_M_findTakers 46 [(0, (2, ((24 : Nat) : Int))), (1, (0, x8)), (2, (0, x9)), (3, (0, l7))] [] h10 none res := by
  intro n
  induction n with
  | zero => intro l7 h10 res hv; cases hv
  | succ n ih =>
    intro l7 h10 res hv
    rw [f_M_findTakers_lp46] at hv
    refine jG.blk (st_M_findTakers) 2 (pc1 := 49) (L1 := [(0, (2, ((24 : Nat) : Int))), (1, (0, x8)), (2, (0, x9)), (3, (0, l7))]) (st1 := [(0, 64), (0, l7)]) (h1 := h10) rfl ?_
    refine jT.if2 (st_M_findTakers) rfl (tgt := 140) (by decide) (fun hc => ?_) (fun hc => ?_)
    · have hc : 64 ≤ l7 := hc
      try rw [if_pos hc] at hv
      refine jG.subp [] (L1 := []) rfl ?_
      exact hk _ _ _ hv
    · have hc : ¬ (64 ≤ l7) := hc
      try rw [if_neg hc] at hv
      refine jG.blk (st_M_findTakers) 3 (pc1 := 57) (L1 := [(0, (2, ((24 : Nat) : Int))), (1, (0, x8)), (2, (0, x9)), (3, (0, l7))]) (st1 := [(0, x8), (2, ((28 : Nat) : Int))]) (h1 := h10) rfl ?_
      obtain ⟨hg, hv⟩ := jgd_some hv
      refine jT.iald (a := 28) (st_M_findTakers) rfl rfl (by decide) hg.1 hg.2 ?_
      refine jT.if1 (st_M_findTakers) rfl (tgt := 140) (by decide) (fun hc => ?_) (fun hc => ?_)
      · have hc : h10 28 x8.toNat < 0 := hc
        try rw [if_pos hc] at hv
        refine jG.subp [] (L1 := []) rfl ?_
        exact hk _ _ _ hv
      · have hc : ¬ (h10 28 x8.toNat < 0) := hc
        try rw [if_neg hc] at hv
        refine jG.blk (st_M_findTakers) 6 (pc1 := 69) (L1 := [(0, (2, ((24 : Nat) : Int))), (1, (0, x8)), (2, (0, x9)), (3, (0, l7))]) (st1 := [(0, x8), (2, ((26 : Nat) : Int)), (0, l7), (0, x8), (2, ((24 : Nat) : Int))]) (h1 := h10) rfl ?_
        obtain ⟨hg, hv⟩ := jgd_some hv
        refine jT.iald (a := 26) (st_M_findTakers) rfl rfl (by decide) hg.1 hg.2 ?_
        obtain ⟨v11, hq, hv⟩ := Option.bind_eq_some_iff.mp hv
        refine jT.cV (M1 := M_M_isOf) (2, ((24 : Nat) : Int)) [(0, x8), (0, l7), (0, h10 26 x8.toNat)] [] (st_M_findTakers) rfl rfl ok_M_isOf rfl (Or.inl ⟨rfl, _, _, _, rfl, rfl⟩) (Nat.le_of_ble_eq_true rfl) (Nat.le_of_ble_eq_true rfl) rfl (Nat.le_of_ble_eq_true rfl) (C_M_isOf hq) ?_
        show jG E _ 73 [(0, (2, ((24 : Nat) : Int))), (1, (0, x8)), (2, (0, x9)), (3, (0, l7))] [(0, v11)] h10 _ _
        refine jT.if1 (st_M_findTakers) rfl (tgt := 101) (by decide) (fun hc => ?_) (fun hc => ?_)
        · have hc : v11 = 0 := hc
          try rw [if_pos hc] at hv
          exact f_M_findTakers_j101_46_ok E ih hk hv
        · have hc : ¬ (v11 = 0) := hc
          try rw [if_neg hc] at hv
          refine jG.blk (st_M_findTakers) 4 (pc1 := 80) (L1 := [(0, (2, ((24 : Nat) : Int))), (1, (0, x8)), (2, (0, x9)), (3, (0, l7))]) (st1 := [(0, x9), (0, l7), (0, x8), (2, ((24 : Nat) : Int))]) (h1 := h10) rfl ?_
          obtain ⟨v21, hq, hv⟩ := Option.bind_eq_some_iff.mp hv
          refine jT.cV (M1 := M_M_isBehind) (2, ((24 : Nat) : Int)) [(0, x8), (0, l7), (0, x9)] [] (st_M_findTakers) rfl rfl ok_M_isBehind rfl (Or.inl ⟨rfl, _, _, _, rfl, rfl⟩) (Nat.le_of_ble_eq_true rfl) (Nat.le_of_ble_eq_true rfl) rfl (Nat.le_of_ble_eq_true rfl) (C_M_isBehind hq) ?_
          show jG E _ 83 [(0, (2, ((24 : Nat) : Int))), (1, (0, x8)), (2, (0, x9)), (3, (0, l7))] [(0, v21)] h10 _ _
          refine jT.if1 (st_M_findTakers) rfl (tgt := 101) (by decide) (fun hc => ?_) (fun hc => ?_)
          · have hc : v21 = 0 := hc
            try rw [if_pos hc] at hv
            exact f_M_findTakers_j101_46_ok E ih hk hv
          · have hc : ¬ (v21 = 0) := hc
            try rw [if_neg hc] at hv
            refine jG.blk (st_M_findTakers) 5 (pc1 := 91) (L1 := [(0, (2, ((24 : Nat) : Int))), (1, (0, x8)), (2, (0, x9)), (3, (0, l7))]) (st1 := [(0, 0), (0, x9), (0, l7), (0, x8), (2, ((24 : Nat) : Int))]) (h1 := h10) rfl ?_
            obtain ⟨v22, hq, hv⟩ := Option.bind_eq_some_iff.mp hv
            refine jT.cV (M1 := M_M_isSafe) (2, ((24 : Nat) : Int)) [(0, x8), (0, l7), (0, x9), (0, 0)] [] (st_M_findTakers) rfl rfl ok_M_isSafe rfl (Or.inl ⟨rfl, _, _, _, rfl, rfl⟩) (Nat.le_of_ble_eq_true rfl) (Nat.le_of_ble_eq_true rfl) rfl (Nat.le_of_ble_eq_true rfl) (C_M_isSafe hq) ?_
            show jG E _ 94 [(0, (2, ((24 : Nat) : Int))), (1, (0, x8)), (2, (0, x9)), (3, (0, l7))] [(0, v22.1)] v22.2 _ _
            refine jT.if1 (st_M_findTakers) rfl (tgt := 101) (by decide) (fun hc => ?_) (fun hc => ?_)
            · have hc : v22.1 = 0 := hc
              try rw [if_pos hc] at hv
              exact f_M_findTakers_j101_46_ok E ih hk hv
            · have hc : ¬ (v22.1 = 0) := hc
              try rw [if_neg hc] at hv
              refine jG.blk (st_M_findTakers) 1 (pc1 := 98) (L1 := [(0, (2, ((24 : Nat) : Int))), (1, (0, x8)), (2, (0, x9)), (3, (0, l7))]) (st1 := [(0, 1)]) (h1 := v22.2) rfl ?_
              refine jT.goto (st_M_findTakers) rfl (tgt := 102) (by decide) ?_
              exact f_M_findTakers_j102_46_ok E ih hk hv
set_option maxRecDepth 100000 in
set_option maxHeartbeats 4000000 in
theorem f_M_findTakers_j43_ok (E : jE) {h6 : jH} {l4 : Int} {s5 : Int} {res : jH} (hv : f_M_findTakers_j43 h6 l4 s5 = some res) : jG E M_M_findTakers 43 [(0, (2, ((24 : Nat) : Int))), (1, (0, l4))] [(0, s5)] h6 none res := by
  unfold f_M_findTakers_j43 at hv
  refine jG.blk (st_M_findTakers) 3 (pc1 := 46) (L1 := [(3, (0, 0)), (2, (0, s5)), (0, (2, ((24 : Nat) : Int))), (1, (0, l4))]) (st1 := []) (h1 := h6) rfl ?_
  refine jG.subp [2, 3, 1, 0] (L1 := [(0, (2, ((24 : Nat) : Int))), (1, (0, l4)), (2, (0, s5)), (3, (0, 0))]) rfl ?_
  refine f_M_findTakers_lp46_ok E (fun l23 h24 res hv => ?_) 1000 _ _ _ hv
  · cases hv
    exact jT.vret (st_M_findTakers) rfl trivial
set_option maxRecDepth 100000 in
set_option maxHeartbeats 4000000 in
theorem f_M_findTakers_j36_ok (E : jE) {h3 : jH} {l1 : Int} {s2 : Int} {res : jH} (hv : f_M_findTakers_j36 h3 l1 s2 = some res) : jG E M_M_findTakers 36 [(0, (2, ((24 : Nat) : Int))), (1, (0, l1))] [(0, s2)] h3 none res := by
  unfold f_M_findTakers_j36 at hv
  refine jG.blk (st_M_findTakers) 3 (pc1 := 41) (L1 := [(0, (2, ((24 : Nat) : Int))), (1, (0, l1))]) (st1 := [(0, l1), (2, ((28 : Nat) : Int)), (0, s2)]) (h1 := h3) rfl ?_
  obtain ⟨hg, hv⟩ := jgd_some hv
  refine jT.iald (a := 28) (st_M_findTakers) rfl rfl (by decide) hg.1 hg.2 ?_
  refine jG.blk (st_M_findTakers) 1 (pc1 := 43) (L1 := [(0, (2, ((24 : Nat) : Int))), (1, (0, l1))]) (st1 := [(0, jadd s2 (h3 28 l1.toNat))]) (h1 := h3) rfl ?_
  exact f_M_findTakers_j43_ok E hv
set_option maxRecDepth 100000 in
set_option maxHeartbeats 4000000 in
theorem C_M_findTakers {E : jE} {h : jH} {a1 : Int} {res : jH} (hv : f_M_findTakers h a1 = some res) : jC E M_M_findTakers [(2, ((24 : Nat) : Int)), (0, a1)] h none res := by
  refine jC.of ok_M_findTakers.1 (by rw [jlg]; exact Nat.le_of_ble_eq_true rfl) ?_
  show jG E _ 0 [(0, (2, ((24 : Nat) : Int))), (1, (0, a1))] [] h _ _
  unfold f_M_findTakers at hv
  refine jG.blk (st_M_findTakers) 4 (pc1 := 6) (L1 := [(0, (2, ((24 : Nat) : Int))), (1, (0, a1))]) (st1 := [(1, 0), (0, a1), (2, ((30 : Nat) : Int))]) (h1 := h) rfl ?_
  obtain ⟨hg, hv⟩ := jgd_some hv
  refine jT.last (a := 30) (st_M_findTakers) rfl rfl (by decide) hg.1 hg.2 ?_
  refine jG.blk (st_M_findTakers) 3 (pc1 := 12) (L1 := [(0, (2, ((24 : Nat) : Int))), (1, (0, a1))]) (st1 := [(0, a1), (2, ((28 : Nat) : Int))]) (h1 := jup h 30 a1.toNat 0) rfl ?_
  obtain ⟨hg, hv⟩ := jgd_some hv
  refine jT.iald (a := 28) (st_M_findTakers) rfl rfl (by decide) hg.1 hg.2 ?_
  refine jT.if1 (st_M_findTakers) rfl (tgt := 20) (by decide) (fun hc => ?_) (fun hc => ?_)
  · have hc : 0 ≤ (jup h 30 a1.toNat 0) 28 a1.toNat := hc
    try rw [if_pos hc] at hv
    refine jG.blk (st_M_findTakers) 3 (pc1 := 25) (L1 := [(0, (2, ((24 : Nat) : Int))), (1, (0, a1))]) (st1 := [(0, a1), (2, ((26 : Nat) : Int))]) (h1 := jup h 30 a1.toNat 0) rfl ?_
    obtain ⟨hg, hv⟩ := jgd_some hv
    refine jT.iald (a := 26) (st_M_findTakers) rfl rfl (by decide) hg.1 hg.2 ?_
    refine jT.if1 (st_M_findTakers) rfl (tgt := 34) (by decide) (fun hc => ?_) (fun hc => ?_)
    · have hc : ¬ ((jup h 30 a1.toNat 0) 26 a1.toNat = 0) := hc
      try rw [if_neg hc] at hv
      refine jG.blk (st_M_findTakers) 1 (pc1 := 36) (L1 := [(0, (2, ((24 : Nat) : Int))), (1, (0, a1))]) (st1 := [(0, 16)]) (h1 := jup h 30 a1.toNat 0) rfl ?_
      exact f_M_findTakers_j36_ok E hv
    · have hc : (jup h 30 a1.toNat 0) 26 a1.toNat = 0 := Decidable.not_not.mp hc
      try rw [if_pos hc] at hv
      refine jG.blk (st_M_findTakers) 1 (pc1 := 31) (L1 := [(0, (2, ((24 : Nat) : Int))), (1, (0, a1))]) (st1 := [(0, 40)]) (h1 := jup h 30 a1.toNat 0) rfl ?_
      refine jT.goto (st_M_findTakers) rfl (tgt := 36) (by decide) ?_
      exact f_M_findTakers_j36_ok E hv
  · have hc : ¬ (0 ≤ (jup h 30 a1.toNat 0) 28 a1.toNat) := hc
    try rw [if_neg hc] at hv
    refine jG.blk (st_M_findTakers) 1 (pc1 := 17) (L1 := [(0, (2, ((24 : Nat) : Int))), (1, (0, a1))]) (st1 := [(0, 0)]) (h1 := jup h 30 a1.toNat 0) rfl ?_
    refine jT.goto (st_M_findTakers) rfl (tgt := 43) (by decide) ?_
    exact f_M_findTakers_j43_ok E hv
def f_M_begin (h : jH) : Option (jH) := (f_M_copy h 303 0).bind fun v1 => (f_M_findTakers (jup (jup v1 24 7 0) 24 8 1) 0).bind fun v2 => some v2
set_option maxRecDepth 100000 in
set_option maxHeartbeats 4000000 in
theorem C_M_begin {E : jE} {h : jH} {res : jH} (hv : f_M_begin h = some res) : jC E M_M_begin [(2, ((24 : Nat) : Int))] h none res := by
  refine jC.of ok_M_begin.1 (by rw [jlg]; exact Nat.le_of_ble_eq_true rfl) ?_
  show jG E _ 0 [(0, (2, ((24 : Nat) : Int)))] [] h _ _
  unfold f_M_begin at hv
  refine jG.blk (st_M_begin) 3 (pc1 := 5) (L1 := [(0, (2, ((24 : Nat) : Int)))]) (st1 := [(0, 0), (0, 303), (2, ((24 : Nat) : Int))]) (h1 := h) rfl ?_
  obtain ⟨v1, hq, hv⟩ := Option.bind_eq_some_iff.mp hv
  refine jT.cV (M1 := M_M_copy) (2, ((24 : Nat) : Int)) [(0, 303), (0, 0)] [] (st_M_begin) rfl rfl ok_M_copy rfl (Or.inl ⟨rfl, _, _, _, rfl, rfl⟩) (Nat.le_of_ble_eq_true rfl) (Nat.le_of_ble_eq_true rfl) rfl (Nat.le_of_ble_eq_true rfl) (C_M_copy hq) ?_
  show jG E _ 8 [(0, (2, ((24 : Nat) : Int)))] [] v1 _ _
  refine jG.blk (st_M_begin) 8 (pc1 := 20) (L1 := [(0, (2, ((24 : Nat) : Int)))]) (st1 := [(0, 0), (2, ((24 : Nat) : Int))]) (h1 := jup (jup v1 24 7 0) 24 8 1) rfl ?_
  obtain ⟨v2, hq, hv⟩ := Option.bind_eq_some_iff.mp hv
  refine jT.cV (M1 := M_M_findTakers) (2, ((24 : Nat) : Int)) [(0, 0)] [] (st_M_begin) rfl rfl ok_M_findTakers rfl (Or.inl ⟨rfl, _, _, _, rfl, rfl⟩) (Nat.le_of_ble_eq_true rfl) (Nat.le_of_ble_eq_true rfl) rfl (Nat.le_of_ble_eq_true rfl) (C_M_findTakers hq) ?_
  show jG E _ 23 [(0, (2, ((24 : Nat) : Int)))] [] v2 _ _
  cases hv
  exact jT.vret (st_M_begin) rfl trivial
def f_M_set (h : jH) (a1 : Int) (a2 : Int) (a3 : Int) (a4 : Int) : Option (Int × jH) := if a1 < 0 then some (0, jup h 24 0 0) else if 1 < a1 then some (0, jup h 24 0 0) else if a2 < 0 then some (0, jup h 24 0 0) else if 15 < a2 then some (0, jup h 24 0 0) else if a3 < (-1) then some (0, jup h 24 0 0) else if 7 < a3 then some (0, jup h 24 0 0) else if a4 < 0 then some (0, jup h 24 0 0) else if a4 ≤ 150 then (f_M_copy (jup h 24 0 0) ((jup h 24 0 0) 24 7) 303).bind fun v1 => jgd (0 ≤ (303 : Int) ∧ (303 : Int) < 304) (jgd (0 ≤ (303 : Int) ∧ (303 : Int) < 304) (jgd (0 ≤ (303 : Int) ∧ (303 : Int) < 304) (jgd (0 ≤ (303 : Int) ∧ (303 : Int) < 304) ((f_M_isGood (jup (jup (jup (jup v1 26 303 a1) 27 303 a2) 28 303 a3) 29 303 a4) 303).bind fun v2 => if v2 = 0 then some (0, jup (jup (jup (jup v1 26 303 a1) 27 303 a2) 28 303 a3) 29 303 a4) else (f_M_begin (jup (jup (jup (jup v1 26 303 a1) 27 303 a2) 28 303 a3) 29 303 a4)).bind fun v3 => some (1, v3))))) else some (0, jup h 24 0 0)
set_option maxRecDepth 100000 in
set_option maxHeartbeats 4000000 in
theorem C_M_set {E : jE} {h : jH} {a1 : Int} {a2 : Int} {a3 : Int} {a4 : Int} {res : Int × jH} (hv : f_M_set h a1 a2 a3 a4 = some res) : jC E M_M_set [(2, ((24 : Nat) : Int)), (0, a1), (0, a2), (0, a3), (0, a4)] h (some (0, res.1)) res.2 := by
  refine jC.of ok_M_set.1 (by rw [jlg]; exact Nat.le_of_ble_eq_true rfl) ?_
  show jG E _ 0 [(0, (2, ((24 : Nat) : Int))), (1, (0, a1)), (2, (0, a2)), (3, (0, a3)), (4, (0, a4))] [] h _ _
  unfold f_M_set at hv
  refine jG.blk (st_M_set) 4 (pc1 := 6) (L1 := [(0, (2, ((24 : Nat) : Int))), (1, (0, a1)), (2, (0, a2)), (3, (0, a3)), (4, (0, a4))]) (st1 := [(0, a1)]) (h1 := jup h 24 0 0) rfl ?_
  refine jT.if1 (st_M_set) rfl (tgt := 48) (by decide) (fun hc => ?_) (fun hc => ?_)
  · have hc : a1 < 0 := hc
    try rw [if_pos hc] at hv
    refine jG.blk (st_M_set) 1 (pc1 := 49) (L1 := [(0, (2, ((24 : Nat) : Int))), (1, (0, a1)), (2, (0, a2)), (3, (0, a3)), (4, (0, a4))]) (st1 := [(0, 0)]) (h1 := jup h 24 0 0) rfl ?_
    cases hv
    exact jT.iret (st_M_set) rfl trivial
  · have hc : ¬ (a1 < 0) := hc
    try rw [if_neg hc] at hv
    refine jG.blk (st_M_set) 2 (pc1 := 11) (L1 := [(0, (2, ((24 : Nat) : Int))), (1, (0, a1)), (2, (0, a2)), (3, (0, a3)), (4, (0, a4))]) (st1 := [(0, 1), (0, a1)]) (h1 := jup h 24 0 0) rfl ?_
    refine jT.if2 (st_M_set) rfl (tgt := 48) (by decide) (fun hc => ?_) (fun hc => ?_)
    · have hc : 1 < a1 := hc
      try rw [if_pos hc] at hv
      refine jG.blk (st_M_set) 1 (pc1 := 49) (L1 := [(0, (2, ((24 : Nat) : Int))), (1, (0, a1)), (2, (0, a2)), (3, (0, a3)), (4, (0, a4))]) (st1 := [(0, 0)]) (h1 := jup h 24 0 0) rfl ?_
      cases hv
      exact jT.iret (st_M_set) rfl trivial
    · have hc : ¬ (1 < a1) := hc
      try rw [if_neg hc] at hv
      refine jG.blk (st_M_set) 1 (pc1 := 15) (L1 := [(0, (2, ((24 : Nat) : Int))), (1, (0, a1)), (2, (0, a2)), (3, (0, a3)), (4, (0, a4))]) (st1 := [(0, a2)]) (h1 := jup h 24 0 0) rfl ?_
      refine jT.if1 (st_M_set) rfl (tgt := 48) (by decide) (fun hc => ?_) (fun hc => ?_)
      · have hc : a2 < 0 := hc
        try rw [if_pos hc] at hv
        refine jG.blk (st_M_set) 1 (pc1 := 49) (L1 := [(0, (2, ((24 : Nat) : Int))), (1, (0, a1)), (2, (0, a2)), (3, (0, a3)), (4, (0, a4))]) (st1 := [(0, 0)]) (h1 := jup h 24 0 0) rfl ?_
        cases hv
        exact jT.iret (st_M_set) rfl trivial
      · have hc : ¬ (a2 < 0) := hc
        try rw [if_neg hc] at hv
        refine jG.blk (st_M_set) 2 (pc1 := 21) (L1 := [(0, (2, ((24 : Nat) : Int))), (1, (0, a1)), (2, (0, a2)), (3, (0, a3)), (4, (0, a4))]) (st1 := [(0, 15), (0, a2)]) (h1 := jup h 24 0 0) rfl ?_
        refine jT.if2 (st_M_set) rfl (tgt := 48) (by decide) (fun hc => ?_) (fun hc => ?_)
        · have hc : 15 < a2 := hc
          try rw [if_pos hc] at hv
          refine jG.blk (st_M_set) 1 (pc1 := 49) (L1 := [(0, (2, ((24 : Nat) : Int))), (1, (0, a1)), (2, (0, a2)), (3, (0, a3)), (4, (0, a4))]) (st1 := [(0, 0)]) (h1 := jup h 24 0 0) rfl ?_
          cases hv
          exact jT.iret (st_M_set) rfl trivial
        · have hc : ¬ (15 < a2) := hc
          try rw [if_neg hc] at hv
          refine jG.blk (st_M_set) 2 (pc1 := 26) (L1 := [(0, (2, ((24 : Nat) : Int))), (1, (0, a1)), (2, (0, a2)), (3, (0, a3)), (4, (0, a4))]) (st1 := [(0, (-1)), (0, a3)]) (h1 := jup h 24 0 0) rfl ?_
          refine jT.if2 (st_M_set) rfl (tgt := 48) (by decide) (fun hc => ?_) (fun hc => ?_)
          · have hc : a3 < (-1) := hc
            try rw [if_pos hc] at hv
            refine jG.blk (st_M_set) 1 (pc1 := 49) (L1 := [(0, (2, ((24 : Nat) : Int))), (1, (0, a1)), (2, (0, a2)), (3, (0, a3)), (4, (0, a4))]) (st1 := [(0, 0)]) (h1 := jup h 24 0 0) rfl ?_
            cases hv
            exact jT.iret (st_M_set) rfl trivial
          · have hc : ¬ (a3 < (-1)) := hc
            try rw [if_neg hc] at hv
            refine jG.blk (st_M_set) 2 (pc1 := 32) (L1 := [(0, (2, ((24 : Nat) : Int))), (1, (0, a1)), (2, (0, a2)), (3, (0, a3)), (4, (0, a4))]) (st1 := [(0, 7), (0, a3)]) (h1 := jup h 24 0 0) rfl ?_
            refine jT.if2 (st_M_set) rfl (tgt := 48) (by decide) (fun hc => ?_) (fun hc => ?_)
            · have hc : 7 < a3 := hc
              try rw [if_pos hc] at hv
              refine jG.blk (st_M_set) 1 (pc1 := 49) (L1 := [(0, (2, ((24 : Nat) : Int))), (1, (0, a1)), (2, (0, a2)), (3, (0, a3)), (4, (0, a4))]) (st1 := [(0, 0)]) (h1 := jup h 24 0 0) rfl ?_
              cases hv
              exact jT.iret (st_M_set) rfl trivial
            · have hc : ¬ (7 < a3) := hc
              try rw [if_neg hc] at hv
              refine jG.blk (st_M_set) 1 (pc1 := 37) (L1 := [(0, (2, ((24 : Nat) : Int))), (1, (0, a1)), (2, (0, a2)), (3, (0, a3)), (4, (0, a4))]) (st1 := [(0, a4)]) (h1 := jup h 24 0 0) rfl ?_
              refine jT.if1 (st_M_set) rfl (tgt := 48) (by decide) (fun hc => ?_) (fun hc => ?_)
              · have hc : a4 < 0 := hc
                try rw [if_pos hc] at hv
                refine jG.blk (st_M_set) 1 (pc1 := 49) (L1 := [(0, (2, ((24 : Nat) : Int))), (1, (0, a1)), (2, (0, a2)), (3, (0, a3)), (4, (0, a4))]) (st1 := [(0, 0)]) (h1 := jup h 24 0 0) rfl ?_
                cases hv
                exact jT.iret (st_M_set) rfl trivial
              · have hc : ¬ (a4 < 0) := hc
                try rw [if_neg hc] at hv
                refine jG.blk (st_M_set) 2 (pc1 := 45) (L1 := [(0, (2, ((24 : Nat) : Int))), (1, (0, a1)), (2, (0, a2)), (3, (0, a3)), (4, (0, a4))]) (st1 := [(0, 150), (0, a4)]) (h1 := jup h 24 0 0) rfl ?_
                refine jT.if2 (st_M_set) rfl (tgt := 50) (by decide) (fun hc => ?_) (fun hc => ?_)
                · have hc : a4 ≤ 150 := hc
                  try rw [if_pos hc] at hv
                  refine jG.blk (st_M_set) 4 (pc1 := 58) (L1 := [(0, (2, ((24 : Nat) : Int))), (1, (0, a1)), (2, (0, a2)), (3, (0, a3)), (4, (0, a4))]) (st1 := [(0, 303), (0, (jup h 24 0 0) 24 7), (2, ((24 : Nat) : Int))]) (h1 := jup h 24 0 0) rfl ?_
                  obtain ⟨v1, hq, hv⟩ := Option.bind_eq_some_iff.mp hv
                  refine jT.cV (M1 := M_M_copy) (2, ((24 : Nat) : Int)) [(0, (jup h 24 0 0) 24 7), (0, 303)] [] (st_M_set) rfl rfl ok_M_copy rfl (Or.inl ⟨rfl, _, _, _, rfl, rfl⟩) (Nat.le_of_ble_eq_true rfl) (Nat.le_of_ble_eq_true rfl) rfl (Nat.le_of_ble_eq_true rfl) (C_M_copy hq) ?_
                  show jG E _ 61 [(0, (2, ((24 : Nat) : Int))), (1, (0, a1)), (2, (0, a2)), (3, (0, a3)), (4, (0, a4))] [] v1 _ _
                  refine jG.blk (st_M_set) 4 (pc1 := 69) (L1 := [(0, (2, ((24 : Nat) : Int))), (1, (0, a1)), (2, (0, a2)), (3, (0, a3)), (4, (0, a4))]) (st1 := [(0, a1), (0, 303), (2, ((26 : Nat) : Int))]) (h1 := v1) rfl ?_
                  obtain ⟨hg, hv⟩ := jgd_some hv
                  refine jT.iast (a := 26) (st_M_set) rfl rfl (by decide) hg.1 hg.2 ?_
                  refine jG.blk (st_M_set) 4 (pc1 := 78) (L1 := [(0, (2, ((24 : Nat) : Int))), (1, (0, a1)), (2, (0, a2)), (3, (0, a3)), (4, (0, a4))]) (st1 := [(0, a2), (0, 303), (2, ((27 : Nat) : Int))]) (h1 := jup v1 26 303 a1) rfl ?_
                  obtain ⟨hg, hv⟩ := jgd_some hv
                  refine jT.iast (a := 27) (st_M_set) rfl rfl (by decide) hg.1 hg.2 ?_
                  refine jG.blk (st_M_set) 4 (pc1 := 87) (L1 := [(0, (2, ((24 : Nat) : Int))), (1, (0, a1)), (2, (0, a2)), (3, (0, a3)), (4, (0, a4))]) (st1 := [(0, a3), (0, 303), (2, ((28 : Nat) : Int))]) (h1 := jup (jup v1 26 303 a1) 27 303 a2) rfl ?_
                  obtain ⟨hg, hv⟩ := jgd_some hv
                  refine jT.iast (a := 28) (st_M_set) rfl rfl (by decide) hg.1 hg.2 ?_
                  refine jG.blk (st_M_set) 4 (pc1 := 97) (L1 := [(0, (2, ((24 : Nat) : Int))), (1, (0, a1)), (2, (0, a2)), (3, (0, a3)), (4, (0, a4))]) (st1 := [(0, a4), (0, 303), (2, ((29 : Nat) : Int))]) (h1 := jup (jup (jup v1 26 303 a1) 27 303 a2) 28 303 a3) rfl ?_
                  obtain ⟨hg, hv⟩ := jgd_some hv
                  refine jT.iast (a := 29) (st_M_set) rfl rfl (by decide) hg.1 hg.2 ?_
                  refine jG.blk (st_M_set) 2 (pc1 := 102) (L1 := [(0, (2, ((24 : Nat) : Int))), (1, (0, a1)), (2, (0, a2)), (3, (0, a3)), (4, (0, a4))]) (st1 := [(0, 303), (2, ((24 : Nat) : Int))]) (h1 := jup (jup (jup (jup v1 26 303 a1) 27 303 a2) 28 303 a3) 29 303 a4) rfl ?_
                  obtain ⟨v2, hq, hv⟩ := Option.bind_eq_some_iff.mp hv
                  refine jT.cV (M1 := M_M_isGood) (2, ((24 : Nat) : Int)) [(0, 303)] [] (st_M_set) rfl rfl ok_M_isGood rfl (Or.inl ⟨rfl, _, _, _, rfl, rfl⟩) (Nat.le_of_ble_eq_true rfl) (Nat.le_of_ble_eq_true rfl) rfl (Nat.le_of_ble_eq_true rfl) (C_M_isGood hq) ?_
                  show jG E _ 105 [(0, (2, ((24 : Nat) : Int))), (1, (0, a1)), (2, (0, a2)), (3, (0, a3)), (4, (0, a4))] [(0, v2)] (jup (jup (jup (jup v1 26 303 a1) 27 303 a2) 28 303 a3) 29 303 a4) _ _
                  refine jT.if1 (st_M_set) rfl (tgt := 110) (by decide) (fun hc => ?_) (fun hc => ?_)
                  · have hc : ¬ (v2 = 0) := hc
                    try rw [if_neg hc] at hv
                    refine jG.blk (st_M_set) 1 (pc1 := 111) (L1 := [(0, (2, ((24 : Nat) : Int))), (1, (0, a1)), (2, (0, a2)), (3, (0, a3)), (4, (0, a4))]) (st1 := [(2, ((24 : Nat) : Int))]) (h1 := jup (jup (jup (jup v1 26 303 a1) 27 303 a2) 28 303 a3) 29 303 a4) rfl ?_
                    obtain ⟨v3, hq, hv⟩ := Option.bind_eq_some_iff.mp hv
                    refine jT.cV (M1 := M_M_begin) (2, ((24 : Nat) : Int)) [] [] (st_M_set) rfl rfl ok_M_begin rfl (Or.inl ⟨rfl, _, _, _, rfl, rfl⟩) (Nat.le_of_ble_eq_true rfl) (Nat.le_of_ble_eq_true rfl) rfl (Nat.le_of_ble_eq_true rfl) (C_M_begin hq) ?_
                    show jG E _ 114 [(0, (2, ((24 : Nat) : Int))), (1, (0, a1)), (2, (0, a2)), (3, (0, a3)), (4, (0, a4))] [] v3 _ _
                    refine jG.blk (st_M_set) 1 (pc1 := 115) (L1 := [(0, (2, ((24 : Nat) : Int))), (1, (0, a1)), (2, (0, a2)), (3, (0, a3)), (4, (0, a4))]) (st1 := [(0, 1)]) (h1 := v3) rfl ?_
                    cases hv
                    exact jT.iret (st_M_set) rfl trivial
                  · have hc : v2 = 0 := Decidable.not_not.mp hc
                    try rw [if_pos hc] at hv
                    refine jG.blk (st_M_set) 1 (pc1 := 109) (L1 := [(0, (2, ((24 : Nat) : Int))), (1, (0, a1)), (2, (0, a2)), (3, (0, a3)), (4, (0, a4))]) (st1 := [(0, 0)]) (h1 := jup (jup (jup (jup v1 26 303 a1) 27 303 a2) 28 303 a3) 29 303 a4) rfl ?_
                    cases hv
                    exact jT.iret (st_M_set) rfl trivial
                · have hc : ¬ (a4 ≤ 150) := hc
                  try rw [if_neg hc] at hv
                  refine jG.blk (st_M_set) 1 (pc1 := 49) (L1 := [(0, (2, ((24 : Nat) : Int))), (1, (0, a1)), (2, (0, a2)), (3, (0, a3)), (4, (0, a4))]) (st1 := [(0, 0)]) (h1 := jup h 24 0 0) rfl ?_
                  cases hv
                  exact jT.iret (st_M_set) rfl trivial
def f_M_at (h : jH) (a1 : Int) : Option (Int × jH) := if a1 < 0 then some ((-1), jup h 24 0 0) else if 64 ≤ a1 then some ((-1), jup h 24 0 0) else (f_M_piece (jup h 24 0 0) ((jup h 24 0 0) 24 7) a1).bind fun v1 => some (v1, jup h 24 0 0)
set_option maxRecDepth 100000 in
set_option maxHeartbeats 4000000 in
theorem C_M_at {E : jE} {h : jH} {a1 : Int} {res : Int × jH} (hv : f_M_at h a1 = some res) : jC E M_M_at [(2, ((24 : Nat) : Int)), (0, a1)] h (some (0, res.1)) res.2 := by
  refine jC.of ok_M_at.1 (by rw [jlg]; exact Nat.le_of_ble_eq_true rfl) ?_
  show jG E _ 0 [(0, (2, ((24 : Nat) : Int))), (1, (0, a1))] [] h _ _
  unfold f_M_at at hv
  refine jG.blk (st_M_at) 4 (pc1 := 6) (L1 := [(0, (2, ((24 : Nat) : Int))), (1, (0, a1))]) (st1 := [(0, a1)]) (h1 := jup h 24 0 0) rfl ?_
  refine jT.if1 (st_M_at) rfl (tgt := 27) (by decide) (fun hc => ?_) (fun hc => ?_)
  · have hc : a1 < 0 := hc
    try rw [if_pos hc] at hv
    refine jG.blk (st_M_at) 1 (pc1 := 28) (L1 := [(0, (2, ((24 : Nat) : Int))), (1, (0, a1))]) (st1 := [(0, (-1))]) (h1 := jup h 24 0 0) rfl ?_
    cases hv
    exact jT.iret (st_M_at) rfl trivial
  · have hc : ¬ (a1 < 0) := hc
    try rw [if_neg hc] at hv
    refine jG.blk (st_M_at) 2 (pc1 := 12) (L1 := [(0, (2, ((24 : Nat) : Int))), (1, (0, a1))]) (st1 := [(0, 64), (0, a1)]) (h1 := jup h 24 0 0) rfl ?_
    refine jT.if2 (st_M_at) rfl (tgt := 27) (by decide) (fun hc => ?_) (fun hc => ?_)
    · have hc : 64 ≤ a1 := hc
      try rw [if_pos hc] at hv
      refine jG.blk (st_M_at) 1 (pc1 := 28) (L1 := [(0, (2, ((24 : Nat) : Int))), (1, (0, a1))]) (st1 := [(0, (-1))]) (h1 := jup h 24 0 0) rfl ?_
      cases hv
      exact jT.iret (st_M_at) rfl trivial
    · have hc : ¬ (64 ≤ a1) := hc
      try rw [if_neg hc] at hv
      refine jG.blk (st_M_at) 4 (pc1 := 21) (L1 := [(0, (2, ((24 : Nat) : Int))), (1, (0, a1))]) (st1 := [(0, a1), (0, (jup h 24 0 0) 24 7), (2, ((24 : Nat) : Int))]) (h1 := jup h 24 0 0) rfl ?_
      obtain ⟨v1, hq, hv⟩ := Option.bind_eq_some_iff.mp hv
      refine jT.cV (M1 := M_M_piece) (2, ((24 : Nat) : Int)) [(0, (jup h 24 0 0) 24 7), (0, a1)] [] (st_M_at) rfl rfl ok_M_piece rfl (Or.inl ⟨rfl, _, _, _, rfl, rfl⟩) (Nat.le_of_ble_eq_true rfl) (Nat.le_of_ble_eq_true rfl) rfl (Nat.le_of_ble_eq_true rfl) (C_M_piece hq) ?_
      show jG E _ 24 [(0, (2, ((24 : Nat) : Int))), (1, (0, a1))] [(0, v1)] (jup h 24 0 0) _ _
      refine jT.goto (st_M_at) rfl (tgt := 28) (by decide) ?_
      cases hv
      exact jT.iret (st_M_at) rfl trivial
def f_M_state (h : jH) (a1 : Int) : Option (Int × jH) := if (jup h 24 0 0) 24 8 = 0 then some ((-2), jup h 24 0 0) else if a1 = 0 then jgd (0 ≤ (jup h 24 0 0) 24 7 ∧ (jup h 24 0 0) 24 7 < 304) (some ((jup h 24 0 0) 26 ((jup h 24 0 0) 24 7).toNat, jup h 24 0 0)) else if a1 = 1 then jgd (0 ≤ (jup h 24 0 0) 24 7 ∧ (jup h 24 0 0) 24 7 < 304) (some ((jup h 24 0 0) 27 ((jup h 24 0 0) 24 7).toNat, jup h 24 0 0)) else if a1 = 2 then jgd (0 ≤ (jup h 24 0 0) 24 7 ∧ (jup h 24 0 0) 24 7 < 304) (some ((jup h 24 0 0) 28 ((jup h 24 0 0) 24 7).toNat, jup h 24 0 0)) else if a1 = 3 then jgd (0 ≤ (jup h 24 0 0) 24 7 ∧ (jup h 24 0 0) 24 7 < 304) (some ((jup h 24 0 0) 29 ((jup h 24 0 0) 24 7).toNat, jup h 24 0 0)) else some (if a1 = 4 then ((jup h 24 0 0) 24 7, jup h 24 0 0) else ((-2), jup h 24 0 0))
set_option maxRecDepth 100000 in
set_option maxHeartbeats 4000000 in
theorem C_M_state {E : jE} {h : jH} {a1 : Int} {res : Int × jH} (hv : f_M_state h a1 = some res) : jC E M_M_state [(2, ((24 : Nat) : Int)), (0, a1)] h (some (0, res.1)) res.2 := by
  refine jC.of ok_M_state.1 (by rw [jlg]; exact Nat.le_of_ble_eq_true rfl) ?_
  show jG E _ 0 [(0, (2, ((24 : Nat) : Int))), (1, (0, a1))] [] h _ _
  unfold f_M_state at hv
  refine jG.blk (st_M_state) 5 (pc1 := 9) (L1 := [(0, (2, ((24 : Nat) : Int))), (1, (0, a1))]) (st1 := [(0, (jup h 24 0 0) 24 8)]) (h1 := jup h 24 0 0) rfl ?_
  refine jT.if1 (st_M_state) rfl (tgt := 15) (by decide) (fun hc => ?_) (fun hc => ?_)
  · have hc : ¬ ((jup h 24 0 0) 24 8 = 0) := hc
    try rw [if_neg hc] at hv
    refine jG.blk (st_M_state) 1 (pc1 := 16) (L1 := [(0, (2, ((24 : Nat) : Int))), (1, (0, a1))]) (st1 := [(0, a1)]) (h1 := jup h 24 0 0) rfl ?_
    refine jT.if1 (st_M_state) rfl (tgt := 31) (by decide) (fun hc => ?_) (fun hc => ?_)
    · have hc : ¬ (a1 = 0) := hc
      try rw [if_neg hc] at hv
      refine jG.blk (st_M_state) 2 (pc1 := 33) (L1 := [(0, (2, ((24 : Nat) : Int))), (1, (0, a1))]) (st1 := [(0, 1), (0, a1)]) (h1 := jup h 24 0 0) rfl ?_
      refine jT.if2 (st_M_state) rfl (tgt := 48) (by decide) (fun hc => ?_) (fun hc => ?_)
      · have hc : ¬ (a1 = 1) := hc
        try rw [if_neg hc] at hv
        refine jG.blk (st_M_state) 2 (pc1 := 50) (L1 := [(0, (2, ((24 : Nat) : Int))), (1, (0, a1))]) (st1 := [(0, 2), (0, a1)]) (h1 := jup h 24 0 0) rfl ?_
        refine jT.if2 (st_M_state) rfl (tgt := 65) (by decide) (fun hc => ?_) (fun hc => ?_)
        · have hc : ¬ (a1 = 2) := hc
          try rw [if_neg hc] at hv
          refine jG.blk (st_M_state) 2 (pc1 := 67) (L1 := [(0, (2, ((24 : Nat) : Int))), (1, (0, a1))]) (st1 := [(0, 3), (0, a1)]) (h1 := jup h 24 0 0) rfl ?_
          refine jT.if2 (st_M_state) rfl (tgt := 82) (by decide) (fun hc => ?_) (fun hc => ?_)
          · have hc : ¬ (a1 = 3) := hc
            try rw [if_neg hc] at hv
            refine jG.blk (st_M_state) 2 (pc1 := 84) (L1 := [(0, (2, ((24 : Nat) : Int))), (1, (0, a1))]) (st1 := [(0, 4), (0, a1)]) (h1 := jup h 24 0 0) rfl ?_
            refine jT.if2 (st_M_state) rfl (tgt := 94) (by decide) (fun hc => ?_) (fun hc => ?_)
            · have hc : ¬ (a1 = 4) := hc
              try rw [if_neg hc] at hv
              refine jG.blk (st_M_state) 1 (pc1 := 96) (L1 := [(0, (2, ((24 : Nat) : Int))), (1, (0, a1))]) (st1 := [(0, (-2))]) (h1 := jup h 24 0 0) rfl ?_
              cases hv
              exact jT.iret (st_M_state) rfl trivial
            · have hc : a1 = 4 := Decidable.not_not.mp hc
              try rw [if_pos hc] at hv
              refine jG.blk (st_M_state) 2 (pc1 := 91) (L1 := [(0, (2, ((24 : Nat) : Int))), (1, (0, a1))]) (st1 := [(0, (jup h 24 0 0) 24 7)]) (h1 := jup h 24 0 0) rfl ?_
              refine jT.goto (st_M_state) rfl (tgt := 96) (by decide) ?_
              cases hv
              exact jT.iret (st_M_state) rfl trivial
          · have hc : a1 = 3 := Decidable.not_not.mp hc
            try rw [if_pos hc] at hv
            refine jG.blk (st_M_state) 4 (pc1 := 78) (L1 := [(0, (2, ((24 : Nat) : Int))), (1, (0, a1))]) (st1 := [(0, (jup h 24 0 0) 24 7), (2, ((29 : Nat) : Int))]) (h1 := jup h 24 0 0) rfl ?_
            obtain ⟨hg, hv⟩ := jgd_some hv
            refine jT.iald (a := 29) (st_M_state) rfl rfl (by decide) hg.1 hg.2 ?_
            refine jT.goto (st_M_state) rfl (tgt := 96) (by decide) ?_
            cases hv
            exact jT.iret (st_M_state) rfl trivial
        · have hc : a1 = 2 := Decidable.not_not.mp hc
          try rw [if_pos hc] at hv
          refine jG.blk (st_M_state) 4 (pc1 := 61) (L1 := [(0, (2, ((24 : Nat) : Int))), (1, (0, a1))]) (st1 := [(0, (jup h 24 0 0) 24 7), (2, ((28 : Nat) : Int))]) (h1 := jup h 24 0 0) rfl ?_
          obtain ⟨hg, hv⟩ := jgd_some hv
          refine jT.iald (a := 28) (st_M_state) rfl rfl (by decide) hg.1 hg.2 ?_
          refine jT.goto (st_M_state) rfl (tgt := 96) (by decide) ?_
          cases hv
          exact jT.iret (st_M_state) rfl trivial
      · have hc : a1 = 1 := Decidable.not_not.mp hc
        try rw [if_pos hc] at hv
        refine jG.blk (st_M_state) 4 (pc1 := 44) (L1 := [(0, (2, ((24 : Nat) : Int))), (1, (0, a1))]) (st1 := [(0, (jup h 24 0 0) 24 7), (2, ((27 : Nat) : Int))]) (h1 := jup h 24 0 0) rfl ?_
        obtain ⟨hg, hv⟩ := jgd_some hv
        refine jT.iald (a := 27) (st_M_state) rfl rfl (by decide) hg.1 hg.2 ?_
        refine jT.goto (st_M_state) rfl (tgt := 96) (by decide) ?_
        cases hv
        exact jT.iret (st_M_state) rfl trivial
    · have hc : a1 = 0 := Decidable.not_not.mp hc
      try rw [if_pos hc] at hv
      refine jG.blk (st_M_state) 4 (pc1 := 27) (L1 := [(0, (2, ((24 : Nat) : Int))), (1, (0, a1))]) (st1 := [(0, (jup h 24 0 0) 24 7), (2, ((26 : Nat) : Int))]) (h1 := jup h 24 0 0) rfl ?_
      obtain ⟨hg, hv⟩ := jgd_some hv
      refine jT.iald (a := 26) (st_M_state) rfl rfl (by decide) hg.1 hg.2 ?_
      refine jT.goto (st_M_state) rfl (tgt := 96) (by decide) ?_
      cases hv
      exact jT.iret (st_M_state) rfl trivial
  · have hc : (jup h 24 0 0) 24 8 = 0 := Decidable.not_not.mp hc
    try rw [if_pos hc] at hv
    refine jG.blk (st_M_state) 1 (pc1 := 14) (L1 := [(0, (2, ((24 : Nat) : Int))), (1, (0, a1))]) (st1 := [(0, (-2))]) (h1 := jup h 24 0 0) rfl ?_
    cases hv
    exact jT.iret (st_M_state) rfl trivial
def f_M_isLast (h : jH) (a1 : Int) (a2 : Int) (a3 : Int) : Option (Int) := (f_M_piece h a1 a2).bind fun v1 => (f_M_kindOf h v1).bind fun v2 => some (if v2 = 1 then if a3 < 8 then 1 else if a3 ≤ 55 then 0 else 1 else 0)
set_option maxRecDepth 100000 in
set_option maxHeartbeats 4000000 in
theorem C_M_isLast {E : jE} {h : jH} {a1 : Int} {a2 : Int} {a3 : Int} {res : Int} (hv : f_M_isLast h a1 a2 a3 = some res) : jC E M_M_isLast [(2, ((24 : Nat) : Int)), (0, a1), (0, a2), (0, a3)] h (some (0, res)) h := by
  refine jC.of ok_M_isLast.1 (by rw [jlg]; exact Nat.le_of_ble_eq_true rfl) ?_
  show jG E _ 0 [(0, (2, ((24 : Nat) : Int))), (1, (0, a1)), (2, (0, a2)), (3, (0, a3))] [] h _ _
  unfold f_M_isLast at hv
  refine jG.blk (st_M_isLast) 3 (pc1 := 3) (L1 := [(0, (2, ((24 : Nat) : Int))), (1, (0, a1)), (2, (0, a2)), (3, (0, a3))]) (st1 := [(0, a2), (0, a1), (2, ((24 : Nat) : Int))]) (h1 := h) rfl ?_
  obtain ⟨v1, hq, hv⟩ := Option.bind_eq_some_iff.mp hv
  refine jT.cV (M1 := M_M_piece) (2, ((24 : Nat) : Int)) [(0, a1), (0, a2)] [] (st_M_isLast) rfl rfl ok_M_piece rfl (Or.inl ⟨rfl, _, _, _, rfl, rfl⟩) (Nat.le_of_ble_eq_true rfl) (Nat.le_of_ble_eq_true rfl) rfl (Nat.le_of_ble_eq_true rfl) (C_M_piece hq) ?_
  show jG E _ 6 [(0, (2, ((24 : Nat) : Int))), (1, (0, a1)), (2, (0, a2)), (3, (0, a3))] [(0, v1)] h _ _
  obtain ⟨v2, hq, hv⟩ := Option.bind_eq_some_iff.mp hv
  refine jT.cS (M1 := M_M_kindOf) [(0, v1)] [] (st_M_isLast) rfl rfl ok_M_kindOf rfl (Nat.le_of_ble_eq_true rfl) (Nat.le_of_ble_eq_true rfl) rfl (Nat.le_of_ble_eq_true rfl) (C_M_kindOf hq) ?_
  show jG E _ 9 [(0, (2, ((24 : Nat) : Int))), (1, (0, a1)), (2, (0, a2)), (3, (0, a3))] [(0, v2)] h _ _
  refine jG.blk (st_M_isLast) 1 (pc1 := 10) (L1 := [(0, (2, ((24 : Nat) : Int))), (1, (0, a1)), (2, (0, a2)), (3, (0, a3))]) (st1 := [(0, 1), (0, v2)]) (h1 := h) rfl ?_
  refine jT.if2 (st_M_isLast) rfl (tgt := 29) (by decide) (fun hc => ?_) (fun hc => ?_)
  · have hc : ¬ (v2 = 1) := hc
    try rw [if_neg hc] at hv
    refine jG.blk (st_M_isLast) 1 (pc1 := 30) (L1 := [(0, (2, ((24 : Nat) : Int))), (1, (0, a1)), (2, (0, a2)), (3, (0, a3))]) (st1 := [(0, 0)]) (h1 := h) rfl ?_
    cases hv
    exact jT.iret (st_M_isLast) rfl (Or.inl rfl)
  · have hc : v2 = 1 := Decidable.not_not.mp hc
    try rw [if_pos hc] at hv
    refine jG.blk (st_M_isLast) 2 (pc1 := 16) (L1 := [(0, (2, ((24 : Nat) : Int))), (1, (0, a1)), (2, (0, a2)), (3, (0, a3))]) (st1 := [(0, 8), (0, a3)]) (h1 := h) rfl ?_
    refine jT.if2 (st_M_isLast) rfl (tgt := 25) (by decide) (fun hc => ?_) (fun hc => ?_)
    · have hc : a3 < 8 := hc
      try rw [if_pos hc] at hv
      refine jG.blk (st_M_isLast) 1 (pc1 := 26) (L1 := [(0, (2, ((24 : Nat) : Int))), (1, (0, a1)), (2, (0, a2)), (3, (0, a3))]) (st1 := [(0, 1)]) (h1 := h) rfl ?_
      refine jT.goto (st_M_isLast) rfl (tgt := 30) (by decide) ?_
      cases hv
      exact jT.iret (st_M_isLast) rfl (Or.inr rfl)
    · have hc : ¬ (a3 < 8) := hc
      try rw [if_neg hc] at hv
      refine jG.blk (st_M_isLast) 2 (pc1 := 22) (L1 := [(0, (2, ((24 : Nat) : Int))), (1, (0, a1)), (2, (0, a2)), (3, (0, a3))]) (st1 := [(0, 55), (0, a3)]) (h1 := h) rfl ?_
      refine jT.if2 (st_M_isLast) rfl (tgt := 29) (by decide) (fun hc => ?_) (fun hc => ?_)
      · have hc : a3 ≤ 55 := hc
        try rw [if_pos hc] at hv
        refine jG.blk (st_M_isLast) 1 (pc1 := 30) (L1 := [(0, (2, ((24 : Nat) : Int))), (1, (0, a1)), (2, (0, a2)), (3, (0, a3))]) (st1 := [(0, 0)]) (h1 := h) rfl ?_
        cases hv
        exact jT.iret (st_M_isLast) rfl (Or.inl rfl)
      · have hc : ¬ (a3 ≤ 55) := hc
        try rw [if_neg hc] at hv
        refine jG.blk (st_M_isLast) 1 (pc1 := 26) (L1 := [(0, (2, ((24 : Nat) : Int))), (1, (0, a1)), (2, (0, a2)), (3, (0, a3))]) (st1 := [(0, 1)]) (h1 := h) rfl ?_
        refine jT.goto (st_M_isLast) rfl (tgt := 30) (by decide) ?_
        cases hv
        exact jT.iret (st_M_isLast) rfl (Or.inr rfl)
def f_M_mayPawn_j181 (h : jH) (l49 : Int) (s50 : Int) : Option (Int) := some (if l49 = 0 then if s50 = 0 then 0 else 1 else 1)
def f_M_mayPawn_j180 (h : jH) (l48 : Int) : Option (Int) := f_M_mayPawn_j181 h l48 0
def f_M_mayPawn_j142 (h : jH) (l41 : Int) (l42 : Int) (l43 : Int) (l44 : Int) (l45 : Int) (s46 : Int) (s47 : Int) : Option (Int) := if s47 = s46 then if l43 = jadd l42 (jmul 2 l44) then (f_M_piece h l41 l43).bind fun v51 => if v51 = 0 then (f_M_piece h l41 (jadd l42 l44)).bind fun v52 => if v52 = 0 then f_M_mayPawn_j181 h l45 1 else f_M_mayPawn_j180 h l45 else f_M_mayPawn_j180 h l45 else f_M_mayPawn_j180 h l45 else f_M_mayPawn_j180 h l45
def f_M_mayPawn_j125 (h : jH) (l35 : Int) (l36 : Int) (l37 : Int) (l38 : Int) (l39 : Int) (s40 : Int) : Option (Int) := f_M_mayPawn_j142 h l35 l36 l37 l39 s40 (if l38 = 0 then 1 else 6) (jdiv l36 8)
def f_M_mayPawn_j124 (h : jH) (l30 : Int) (l31 : Int) (l32 : Int) (l33 : Int) (l34 : Int) : Option (Int) := f_M_mayPawn_j125 h l30 l31 l32 l33 l34 0
def f_M_mayPawn_j59 (h : jH) (l22 : Int) (l23 : Int) (l24 : Int) (l25 : Int) (l26 : Int) (s27 : Int) (s28 : Int) : Option (Int) := if s28 = s27 then (f_M_doesAttack h l22 l23 l24).bind fun v29 => if v29 = 0 then if l24 = jadd l23 l26 then (f_M_piece h l22 l24).bind fun v53 => if v53 = 0 then f_M_mayPawn_j125 h l22 l23 l24 l25 l26 1 else f_M_mayPawn_j124 h l22 l23 l24 l25 l26 else f_M_mayPawn_j124 h l22 l23 l24 l25 l26 else (f_M_isOf h l22 l24 (jsub 1 l25)).bind fun v54 => if v54 = 0 then (f_M_isBehind h l22 l23 l24).bind fun v55 => some (if v55 = 0 then 0 else 1) else some 1 else some 0
def f_M_mayPawn_j45 (h : jH) (l15 : Int) (l16 : Int) (l17 : Int) (l18 : Int) (l19 : Int) (l20 : Int) (s21 : Int) : Option (Int) := f_M_mayPawn_j59 h l15 l16 l17 l19 l20 (if l18 ≤ 0 then 0 else 1) s21
def f_M_mayPawn_j37 (h : jH) (l7 : Int) (l8 : Int) (l9 : Int) (l10 : Int) (l11 : Int) (l12 : Int) (s13 : Int) (s14 : Int) : Option (Int) := f_M_mayPawn_j45 h l7 l8 l9 l10 l11 l12 (if s14 = s13 then 1 else 0)
def f_M_mayPawn_j20 (h : jH) (l1 : Int) (l2 : Int) (l3 : Int) (l4 : Int) (l5 : Int) (s6 : Int) : Option (Int) := f_M_mayPawn_j37 h l1 l2 l3 l4 l5 s6 (if l5 = 0 then 7 else 0) (jdiv l3 8)
def f_M_mayPawn (h : jH) (a1 : Int) (a2 : Int) (a3 : Int) (a4 : Int) : Option (Int) := jgd (0 ≤ a1 ∧ a1 < 304) (f_M_mayPawn_j20 h a1 a2 a3 a4 (h 26 a1.toNat) (if h 26 a1.toNat = 0 then 8 else (-8)))
set_option maxRecDepth 100000 in
set_option maxHeartbeats 4000000 in
theorem f_M_mayPawn_j181_ok (E : jE) {h : jH} {l49 : Int} {s50 : Int} {res : Int} (hv : f_M_mayPawn_j181 h l49 s50 = some res) : jG E M_M_mayPawn 181 [(8, (0, l49))] [(0, s50)] h (some (0, res)) h := by
  unfold f_M_mayPawn_j181 at hv
  refine jG.blk (st_M_mayPawn) 2 (pc1 := 185) (L1 := [(9, (0, s50)), (8, (0, l49))]) (st1 := [(0, l49)]) (h1 := h) rfl ?_
  refine jT.if1 (st_M_mayPawn) rfl (tgt := 193) (by decide) (fun hc => ?_) (fun hc => ?_)
  · have hc : ¬ (l49 = 0) := hc
    try rw [if_neg hc] at hv
    refine jG.blk (st_M_mayPawn) 1 (pc1 := 194) (L1 := [(9, (0, s50)), (8, (0, l49))]) (st1 := [(0, 1)]) (h1 := h) rfl ?_
    refine jT.goto (st_M_mayPawn) rfl (tgt := 198) (by decide) ?_
    cases hv
    exact jT.iret (st_M_mayPawn) rfl (Or.inr rfl)
  · have hc : l49 = 0 := Decidable.not_not.mp hc
    try rw [if_pos hc] at hv
    refine jG.blk (st_M_mayPawn) 1 (pc1 := 190) (L1 := [(9, (0, s50)), (8, (0, l49))]) (st1 := [(0, s50)]) (h1 := h) rfl ?_
    refine jT.if1 (st_M_mayPawn) rfl (tgt := 197) (by decide) (fun hc => ?_) (fun hc => ?_)
    · have hc : s50 = 0 := hc
      try rw [if_pos hc] at hv
      refine jG.blk (st_M_mayPawn) 1 (pc1 := 198) (L1 := [(9, (0, s50)), (8, (0, l49))]) (st1 := [(0, 0)]) (h1 := h) rfl ?_
      cases hv
      exact jT.iret (st_M_mayPawn) rfl (Or.inl rfl)
    · have hc : ¬ (s50 = 0) := hc
      try rw [if_neg hc] at hv
      refine jG.blk (st_M_mayPawn) 1 (pc1 := 194) (L1 := [(9, (0, s50)), (8, (0, l49))]) (st1 := [(0, 1)]) (h1 := h) rfl ?_
      refine jT.goto (st_M_mayPawn) rfl (tgt := 198) (by decide) ?_
      cases hv
      exact jT.iret (st_M_mayPawn) rfl (Or.inr rfl)
set_option maxRecDepth 100000 in
set_option maxHeartbeats 4000000 in
theorem f_M_mayPawn_j180_ok (E : jE) {h : jH} {l48 : Int} {res : Int} (hv : f_M_mayPawn_j180 h l48 = some res) : jG E M_M_mayPawn 180 [(8, (0, l48))] [] h (some (0, res)) h := by
  unfold f_M_mayPawn_j180 at hv
  refine jG.blk (st_M_mayPawn) 1 (pc1 := 181) (L1 := [(8, (0, l48))]) (st1 := [(0, 0)]) (h1 := h) rfl ?_
  exact f_M_mayPawn_j181_ok E hv
set_option maxRecDepth 100000 in
set_option maxHeartbeats 4000000 in
theorem f_M_mayPawn_j142_ok (E : jE) {h : jH} {l41 : Int} {l42 : Int} {l43 : Int} {l44 : Int} {l45 : Int} {s46 : Int} {s47 : Int} {res : Int} (hv : f_M_mayPawn_j142 h l41 l42 l43 l44 l45 s46 s47 = some res) : jG E M_M_mayPawn 142 [(0, (2, ((24 : Nat) : Int))), (1, (0, l41)), (2, (0, l42)), (3, (0, l43)), (6, (0, l44)), (8, (0, l45))] [(0, s46), (0, s47)] h (some (0, res)) h := by
  unfold f_M_mayPawn_j142 at hv
  refine jT.if2 (st_M_mayPawn) rfl (tgt := 180) (by decide) (fun hc => ?_) (fun hc => ?_)
  · have hc : ¬ (s47 = s46) := hc
    try rw [if_neg hc] at hv
    refine jG.subp [5] (L1 := [(8, (0, l45))]) rfl ?_
    exact f_M_mayPawn_j180_ok E hv
  · have hc : s47 = s46 := Decidable.not_not.mp hc
    try rw [if_pos hc] at hv
    refine jG.blk (st_M_mayPawn) 6 (pc1 := 152) (L1 := [(0, (2, ((24 : Nat) : Int))), (1, (0, l41)), (2, (0, l42)), (3, (0, l43)), (6, (0, l44)), (8, (0, l45))]) (st1 := [(0, jadd l42 (jmul 2 l44)), (0, l43)]) (h1 := h) rfl ?_
    refine jT.if2 (st_M_mayPawn) rfl (tgt := 180) (by decide) (fun hc => ?_) (fun hc => ?_)
    · have hc : ¬ (l43 = jadd l42 (jmul 2 l44)) := hc
      try rw [if_neg hc] at hv
      refine jG.subp [5] (L1 := [(8, (0, l45))]) rfl ?_
      exact f_M_mayPawn_j180_ok E hv
    · have hc : l43 = jadd l42 (jmul 2 l44) := Decidable.not_not.mp hc
      try rw [if_pos hc] at hv
      refine jG.blk (st_M_mayPawn) 3 (pc1 := 158) (L1 := [(0, (2, ((24 : Nat) : Int))), (1, (0, l41)), (2, (0, l42)), (3, (0, l43)), (6, (0, l44)), (8, (0, l45))]) (st1 := [(0, l43), (0, l41), (2, ((24 : Nat) : Int))]) (h1 := h) rfl ?_
      obtain ⟨v51, hq, hv⟩ := Option.bind_eq_some_iff.mp hv
      refine jT.cV (M1 := M_M_piece) (2, ((24 : Nat) : Int)) [(0, l41), (0, l43)] [] (st_M_mayPawn) rfl rfl ok_M_piece rfl (Or.inl ⟨rfl, _, _, _, rfl, rfl⟩) (Nat.le_of_ble_eq_true rfl) (Nat.le_of_ble_eq_true rfl) rfl (Nat.le_of_ble_eq_true rfl) (C_M_piece hq) ?_
      show jG E _ 161 [(0, (2, ((24 : Nat) : Int))), (1, (0, l41)), (2, (0, l42)), (3, (0, l43)), (6, (0, l44)), (8, (0, l45))] [(0, v51)] h _ _
      refine jT.if1 (st_M_mayPawn) rfl (tgt := 180) (by decide) (fun hc => ?_) (fun hc => ?_)
      · have hc : ¬ (v51 = 0) := hc
        try rw [if_neg hc] at hv
        refine jG.subp [5] (L1 := [(8, (0, l45))]) rfl ?_
        exact f_M_mayPawn_j180_ok E hv
      · have hc : v51 = 0 := Decidable.not_not.mp hc
        try rw [if_pos hc] at hv
        refine jG.blk (st_M_mayPawn) 5 (pc1 := 170) (L1 := [(0, (2, ((24 : Nat) : Int))), (1, (0, l41)), (2, (0, l42)), (3, (0, l43)), (6, (0, l44)), (8, (0, l45))]) (st1 := [(0, jadd l42 l44), (0, l41), (2, ((24 : Nat) : Int))]) (h1 := h) rfl ?_
        obtain ⟨v52, hq, hv⟩ := Option.bind_eq_some_iff.mp hv
        refine jT.cV (M1 := M_M_piece) (2, ((24 : Nat) : Int)) [(0, l41), (0, jadd l42 l44)] [] (st_M_mayPawn) rfl rfl ok_M_piece rfl (Or.inl ⟨rfl, _, _, _, rfl, rfl⟩) (Nat.le_of_ble_eq_true rfl) (Nat.le_of_ble_eq_true rfl) rfl (Nat.le_of_ble_eq_true rfl) (C_M_piece hq) ?_
        show jG E _ 173 [(0, (2, ((24 : Nat) : Int))), (1, (0, l41)), (2, (0, l42)), (3, (0, l43)), (6, (0, l44)), (8, (0, l45))] [(0, v52)] h _ _
        refine jT.if1 (st_M_mayPawn) rfl (tgt := 180) (by decide) (fun hc => ?_) (fun hc => ?_)
        · have hc : ¬ (v52 = 0) := hc
          try rw [if_neg hc] at hv
          refine jG.subp [5] (L1 := [(8, (0, l45))]) rfl ?_
          exact f_M_mayPawn_j180_ok E hv
        · have hc : v52 = 0 := Decidable.not_not.mp hc
          try rw [if_pos hc] at hv
          refine jG.blk (st_M_mayPawn) 1 (pc1 := 177) (L1 := [(0, (2, ((24 : Nat) : Int))), (1, (0, l41)), (2, (0, l42)), (3, (0, l43)), (6, (0, l44)), (8, (0, l45))]) (st1 := [(0, 1)]) (h1 := h) rfl ?_
          refine jT.goto (st_M_mayPawn) rfl (tgt := 181) (by decide) ?_
          refine jG.subp [5] (L1 := [(8, (0, l45))]) rfl ?_
          exact f_M_mayPawn_j181_ok E hv
set_option maxRecDepth 100000 in
set_option maxHeartbeats 4000000 in
theorem f_M_mayPawn_j125_ok (E : jE) {h : jH} {l35 : Int} {l36 : Int} {l37 : Int} {l38 : Int} {l39 : Int} {s40 : Int} {res : Int} (hv : f_M_mayPawn_j125 h l35 l36 l37 l38 l39 s40 = some res) : jG E M_M_mayPawn 125 [(0, (2, ((24 : Nat) : Int))), (1, (0, l35)), (2, (0, l36)), (3, (0, l37)), (5, (0, l38)), (6, (0, l39))] [(0, s40)] h (some (0, res)) h := by
  unfold f_M_mayPawn_j125 at hv
  refine jG.blk (st_M_mayPawn) 5 (pc1 := 133) (L1 := [(8, (0, s40)), (0, (2, ((24 : Nat) : Int))), (1, (0, l35)), (2, (0, l36)), (3, (0, l37)), (5, (0, l38)), (6, (0, l39))]) (st1 := [(0, l38), (0, jdiv l36 8)]) (h1 := h) rfl ?_
  refine jT.if1 (st_M_mayPawn) rfl (tgt := 140) (by decide) (fun hc => ?_) (fun hc => ?_)
  · have hc : ¬ (l38 = 0) := hc
    try rw [if_neg hc] at hv
    refine jG.blk (st_M_mayPawn) 1 (pc1 := 142) (L1 := [(8, (0, s40)), (0, (2, ((24 : Nat) : Int))), (1, (0, l35)), (2, (0, l36)), (3, (0, l37)), (5, (0, l38)), (6, (0, l39))]) (st1 := [(0, 6), (0, jdiv l36 8)]) (h1 := h) rfl ?_
    refine jG.subp [1, 2, 3, 4, 6, 0] (L1 := [(0, (2, ((24 : Nat) : Int))), (1, (0, l35)), (2, (0, l36)), (3, (0, l37)), (6, (0, l39)), (8, (0, s40))]) rfl ?_
    exact f_M_mayPawn_j142_ok E hv
  · have hc : l38 = 0 := Decidable.not_not.mp hc
    try rw [if_pos hc] at hv
    refine jG.blk (st_M_mayPawn) 1 (pc1 := 137) (L1 := [(8, (0, s40)), (0, (2, ((24 : Nat) : Int))), (1, (0, l35)), (2, (0, l36)), (3, (0, l37)), (5, (0, l38)), (6, (0, l39))]) (st1 := [(0, 1), (0, jdiv l36 8)]) (h1 := h) rfl ?_
    refine jT.goto (st_M_mayPawn) rfl (tgt := 142) (by decide) ?_
    refine jG.subp [1, 2, 3, 4, 6, 0] (L1 := [(0, (2, ((24 : Nat) : Int))), (1, (0, l35)), (2, (0, l36)), (3, (0, l37)), (6, (0, l39)), (8, (0, s40))]) rfl ?_
    exact f_M_mayPawn_j142_ok E hv
set_option maxRecDepth 100000 in
set_option maxHeartbeats 4000000 in
theorem f_M_mayPawn_j124_ok (E : jE) {h : jH} {l30 : Int} {l31 : Int} {l32 : Int} {l33 : Int} {l34 : Int} {res : Int} (hv : f_M_mayPawn_j124 h l30 l31 l32 l33 l34 = some res) : jG E M_M_mayPawn 124 [(0, (2, ((24 : Nat) : Int))), (1, (0, l30)), (2, (0, l31)), (3, (0, l32)), (5, (0, l33)), (6, (0, l34))] [] h (some (0, res)) h := by
  unfold f_M_mayPawn_j124 at hv
  refine jG.blk (st_M_mayPawn) 1 (pc1 := 125) (L1 := [(0, (2, ((24 : Nat) : Int))), (1, (0, l30)), (2, (0, l31)), (3, (0, l32)), (5, (0, l33)), (6, (0, l34))]) (st1 := [(0, 0)]) (h1 := h) rfl ?_
  exact f_M_mayPawn_j125_ok E hv
set_option maxRecDepth 100000 in
set_option maxHeartbeats 4000000 in
theorem f_M_mayPawn_j59_ok (E : jE) {h : jH} {l22 : Int} {l23 : Int} {l24 : Int} {l25 : Int} {l26 : Int} {s27 : Int} {s28 : Int} {res : Int} (hv : f_M_mayPawn_j59 h l22 l23 l24 l25 l26 s27 s28 = some res) : jG E M_M_mayPawn 59 [(0, (2, ((24 : Nat) : Int))), (1, (0, l22)), (2, (0, l23)), (3, (0, l24)), (5, (0, l25)), (6, (0, l26))] [(0, s27), (0, s28)] h (some (0, res)) h := by
  unfold f_M_mayPawn_j59 at hv
  refine jT.if2 (st_M_mayPawn) rfl (tgt := 64) (by decide) (fun hc => ?_) (fun hc => ?_)
  · have hc : s28 = s27 := hc
    try rw [if_pos hc] at hv
    refine jG.blk (st_M_mayPawn) 4 (pc1 := 68) (L1 := [(0, (2, ((24 : Nat) : Int))), (1, (0, l22)), (2, (0, l23)), (3, (0, l24)), (5, (0, l25)), (6, (0, l26))]) (st1 := [(0, l24), (0, l23), (0, l22), (2, ((24 : Nat) : Int))]) (h1 := h) rfl ?_
    obtain ⟨v29, hq, hv⟩ := Option.bind_eq_some_iff.mp hv
    refine jT.cV (M1 := M_M_doesAttack) (2, ((24 : Nat) : Int)) [(0, l22), (0, l23), (0, l24)] [] (st_M_mayPawn) rfl rfl ok_M_doesAttack rfl (Or.inl ⟨rfl, _, _, _, rfl, rfl⟩) (Nat.le_of_ble_eq_true rfl) (Nat.le_of_ble_eq_true rfl) rfl (Nat.le_of_ble_eq_true rfl) (C_M_doesAttack hq) ?_
    show jG E _ 71 [(0, (2, ((24 : Nat) : Int))), (1, (0, l22)), (2, (0, l23)), (3, (0, l24)), (5, (0, l25)), (6, (0, l26))] [(0, v29)] h _ _
    refine jT.if1 (st_M_mayPawn) rfl (tgt := 103) (by decide) (fun hc => ?_) (fun hc => ?_)
    · have hc : v29 = 0 := hc
      try rw [if_pos hc] at hv
      refine jG.blk (st_M_mayPawn) 4 (pc1 := 108) (L1 := [(0, (2, ((24 : Nat) : Int))), (1, (0, l22)), (2, (0, l23)), (3, (0, l24)), (5, (0, l25)), (6, (0, l26))]) (st1 := [(0, jadd l23 l26), (0, l24)]) (h1 := h) rfl ?_
      refine jT.if2 (st_M_mayPawn) rfl (tgt := 124) (by decide) (fun hc => ?_) (fun hc => ?_)
      · have hc : ¬ (l24 = jadd l23 l26) := hc
        try rw [if_neg hc] at hv
        exact f_M_mayPawn_j124_ok E hv
      · have hc : l24 = jadd l23 l26 := Decidable.not_not.mp hc
        try rw [if_pos hc] at hv
        refine jG.blk (st_M_mayPawn) 3 (pc1 := 114) (L1 := [(0, (2, ((24 : Nat) : Int))), (1, (0, l22)), (2, (0, l23)), (3, (0, l24)), (5, (0, l25)), (6, (0, l26))]) (st1 := [(0, l24), (0, l22), (2, ((24 : Nat) : Int))]) (h1 := h) rfl ?_
        obtain ⟨v53, hq, hv⟩ := Option.bind_eq_some_iff.mp hv
        refine jT.cV (M1 := M_M_piece) (2, ((24 : Nat) : Int)) [(0, l22), (0, l24)] [] (st_M_mayPawn) rfl rfl ok_M_piece rfl (Or.inl ⟨rfl, _, _, _, rfl, rfl⟩) (Nat.le_of_ble_eq_true rfl) (Nat.le_of_ble_eq_true rfl) rfl (Nat.le_of_ble_eq_true rfl) (C_M_piece hq) ?_
        show jG E _ 117 [(0, (2, ((24 : Nat) : Int))), (1, (0, l22)), (2, (0, l23)), (3, (0, l24)), (5, (0, l25)), (6, (0, l26))] [(0, v53)] h _ _
        refine jT.if1 (st_M_mayPawn) rfl (tgt := 124) (by decide) (fun hc => ?_) (fun hc => ?_)
        · have hc : ¬ (v53 = 0) := hc
          try rw [if_neg hc] at hv
          exact f_M_mayPawn_j124_ok E hv
        · have hc : v53 = 0 := Decidable.not_not.mp hc
          try rw [if_pos hc] at hv
          refine jG.blk (st_M_mayPawn) 1 (pc1 := 121) (L1 := [(0, (2, ((24 : Nat) : Int))), (1, (0, l22)), (2, (0, l23)), (3, (0, l24)), (5, (0, l25)), (6, (0, l26))]) (st1 := [(0, 1)]) (h1 := h) rfl ?_
          refine jT.goto (st_M_mayPawn) rfl (tgt := 125) (by decide) ?_
          exact f_M_mayPawn_j125_ok E hv
    · have hc : ¬ (v29 = 0) := hc
      try rw [if_neg hc] at hv
      refine jG.blk (st_M_mayPawn) 6 (pc1 := 81) (L1 := [(0, (2, ((24 : Nat) : Int))), (1, (0, l22)), (2, (0, l23)), (3, (0, l24)), (5, (0, l25)), (6, (0, l26))]) (st1 := [(0, jsub 1 l25), (0, l24), (0, l22), (2, ((24 : Nat) : Int))]) (h1 := h) rfl ?_
      obtain ⟨v54, hq, hv⟩ := Option.bind_eq_some_iff.mp hv
      refine jT.cV (M1 := M_M_isOf) (2, ((24 : Nat) : Int)) [(0, l22), (0, l24), (0, jsub 1 l25)] [] (st_M_mayPawn) rfl rfl ok_M_isOf rfl (Or.inl ⟨rfl, _, _, _, rfl, rfl⟩) (Nat.le_of_ble_eq_true rfl) (Nat.le_of_ble_eq_true rfl) rfl (Nat.le_of_ble_eq_true rfl) (C_M_isOf hq) ?_
      show jG E _ 84 [(0, (2, ((24 : Nat) : Int))), (1, (0, l22)), (2, (0, l23)), (3, (0, l24)), (5, (0, l25)), (6, (0, l26))] [(0, v54)] h _ _
      refine jT.if1 (st_M_mayPawn) rfl (tgt := 97) (by decide) (fun hc => ?_) (fun hc => ?_)
      · have hc : ¬ (v54 = 0) := hc
        try rw [if_neg hc] at hv
        refine jG.blk (st_M_mayPawn) 1 (pc1 := 98) (L1 := [(0, (2, ((24 : Nat) : Int))), (1, (0, l22)), (2, (0, l23)), (3, (0, l24)), (5, (0, l25)), (6, (0, l26))]) (st1 := [(0, 1)]) (h1 := h) rfl ?_
        refine jT.goto (st_M_mayPawn) rfl (tgt := 102) (by decide) ?_
        cases hv
        exact jT.iret (st_M_mayPawn) rfl (Or.inr rfl)
      · have hc : v54 = 0 := Decidable.not_not.mp hc
        try rw [if_pos hc] at hv
        refine jG.blk (st_M_mayPawn) 4 (pc1 := 91) (L1 := [(0, (2, ((24 : Nat) : Int))), (1, (0, l22)), (2, (0, l23)), (3, (0, l24)), (5, (0, l25)), (6, (0, l26))]) (st1 := [(0, l24), (0, l23), (0, l22), (2, ((24 : Nat) : Int))]) (h1 := h) rfl ?_
        obtain ⟨v55, hq, hv⟩ := Option.bind_eq_some_iff.mp hv
        refine jT.cV (M1 := M_M_isBehind) (2, ((24 : Nat) : Int)) [(0, l22), (0, l23), (0, l24)] [] (st_M_mayPawn) rfl rfl ok_M_isBehind rfl (Or.inl ⟨rfl, _, _, _, rfl, rfl⟩) (Nat.le_of_ble_eq_true rfl) (Nat.le_of_ble_eq_true rfl) rfl (Nat.le_of_ble_eq_true rfl) (C_M_isBehind hq) ?_
        show jG E _ 94 [(0, (2, ((24 : Nat) : Int))), (1, (0, l22)), (2, (0, l23)), (3, (0, l24)), (5, (0, l25)), (6, (0, l26))] [(0, v55)] h _ _
        refine jT.if1 (st_M_mayPawn) rfl (tgt := 101) (by decide) (fun hc => ?_) (fun hc => ?_)
        · have hc : v55 = 0 := hc
          try rw [if_pos hc] at hv
          refine jG.blk (st_M_mayPawn) 1 (pc1 := 102) (L1 := [(0, (2, ((24 : Nat) : Int))), (1, (0, l22)), (2, (0, l23)), (3, (0, l24)), (5, (0, l25)), (6, (0, l26))]) (st1 := [(0, 0)]) (h1 := h) rfl ?_
          cases hv
          exact jT.iret (st_M_mayPawn) rfl (Or.inl rfl)
        · have hc : ¬ (v55 = 0) := hc
          try rw [if_neg hc] at hv
          refine jG.blk (st_M_mayPawn) 1 (pc1 := 98) (L1 := [(0, (2, ((24 : Nat) : Int))), (1, (0, l22)), (2, (0, l23)), (3, (0, l24)), (5, (0, l25)), (6, (0, l26))]) (st1 := [(0, 1)]) (h1 := h) rfl ?_
          refine jT.goto (st_M_mayPawn) rfl (tgt := 102) (by decide) ?_
          cases hv
          exact jT.iret (st_M_mayPawn) rfl (Or.inr rfl)
  · have hc : ¬ (s28 = s27) := hc
    try rw [if_neg hc] at hv
    refine jG.blk (st_M_mayPawn) 1 (pc1 := 63) (L1 := [(0, (2, ((24 : Nat) : Int))), (1, (0, l22)), (2, (0, l23)), (3, (0, l24)), (5, (0, l25)), (6, (0, l26))]) (st1 := [(0, 0)]) (h1 := h) rfl ?_
    cases hv
    exact jT.iret (st_M_mayPawn) rfl (Or.inl rfl)
set_option maxRecDepth 100000 in
set_option maxHeartbeats 4000000 in
theorem f_M_mayPawn_j45_ok (E : jE) {h : jH} {l15 : Int} {l16 : Int} {l17 : Int} {l18 : Int} {l19 : Int} {l20 : Int} {s21 : Int} {res : Int} (hv : f_M_mayPawn_j45 h l15 l16 l17 l18 l19 l20 s21 = some res) : jG E M_M_mayPawn 45 [(0, (2, ((24 : Nat) : Int))), (1, (0, l15)), (2, (0, l16)), (3, (0, l17)), (4, (0, l18)), (5, (0, l19)), (6, (0, l20))] [(0, s21)] h (some (0, res)) h := by
  unfold f_M_mayPawn_j45 at hv
  refine jG.blk (st_M_mayPawn) 3 (pc1 := 51) (L1 := [(7, (0, s21)), (0, (2, ((24 : Nat) : Int))), (1, (0, l15)), (2, (0, l16)), (3, (0, l17)), (4, (0, l18)), (5, (0, l19)), (6, (0, l20))]) (st1 := [(0, l18), (0, s21)]) (h1 := h) rfl ?_
  refine jT.if1 (st_M_mayPawn) rfl (tgt := 58) (by decide) (fun hc => ?_) (fun hc => ?_)
  · have hc : l18 ≤ 0 := hc
    try rw [if_pos hc] at hv
    refine jG.blk (st_M_mayPawn) 1 (pc1 := 59) (L1 := [(7, (0, s21)), (0, (2, ((24 : Nat) : Int))), (1, (0, l15)), (2, (0, l16)), (3, (0, l17)), (4, (0, l18)), (5, (0, l19)), (6, (0, l20))]) (st1 := [(0, 0), (0, s21)]) (h1 := h) rfl ?_
    refine jG.subp [1, 2, 3, 4, 6, 7] (L1 := [(0, (2, ((24 : Nat) : Int))), (1, (0, l15)), (2, (0, l16)), (3, (0, l17)), (5, (0, l19)), (6, (0, l20))]) rfl ?_
    exact f_M_mayPawn_j59_ok E hv
  · have hc : ¬ (l18 ≤ 0) := hc
    try rw [if_neg hc] at hv
    refine jG.blk (st_M_mayPawn) 1 (pc1 := 55) (L1 := [(7, (0, s21)), (0, (2, ((24 : Nat) : Int))), (1, (0, l15)), (2, (0, l16)), (3, (0, l17)), (4, (0, l18)), (5, (0, l19)), (6, (0, l20))]) (st1 := [(0, 1), (0, s21)]) (h1 := h) rfl ?_
    refine jT.goto (st_M_mayPawn) rfl (tgt := 59) (by decide) ?_
    refine jG.subp [1, 2, 3, 4, 6, 7] (L1 := [(0, (2, ((24 : Nat) : Int))), (1, (0, l15)), (2, (0, l16)), (3, (0, l17)), (5, (0, l19)), (6, (0, l20))]) rfl ?_
    exact f_M_mayPawn_j59_ok E hv
set_option maxRecDepth 100000 in
set_option maxHeartbeats 4000000 in
theorem f_M_mayPawn_j37_ok (E : jE) {h : jH} {l7 : Int} {l8 : Int} {l9 : Int} {l10 : Int} {l11 : Int} {l12 : Int} {s13 : Int} {s14 : Int} {res : Int} (hv : f_M_mayPawn_j37 h l7 l8 l9 l10 l11 l12 s13 s14 = some res) : jG E M_M_mayPawn 37 [(0, (2, ((24 : Nat) : Int))), (1, (0, l7)), (2, (0, l8)), (3, (0, l9)), (4, (0, l10)), (5, (0, l11)), (6, (0, l12))] [(0, s13), (0, s14)] h (some (0, res)) h := by
  unfold f_M_mayPawn_j37 at hv
  refine jT.if2 (st_M_mayPawn) rfl (tgt := 44) (by decide) (fun hc => ?_) (fun hc => ?_)
  · have hc : ¬ (s14 = s13) := hc
    try rw [if_neg hc] at hv
    refine jG.blk (st_M_mayPawn) 1 (pc1 := 45) (L1 := [(0, (2, ((24 : Nat) : Int))), (1, (0, l7)), (2, (0, l8)), (3, (0, l9)), (4, (0, l10)), (5, (0, l11)), (6, (0, l12))]) (st1 := [(0, 0)]) (h1 := h) rfl ?_
    exact f_M_mayPawn_j45_ok E hv
  · have hc : s14 = s13 := Decidable.not_not.mp hc
    try rw [if_pos hc] at hv
    refine jG.blk (st_M_mayPawn) 1 (pc1 := 41) (L1 := [(0, (2, ((24 : Nat) : Int))), (1, (0, l7)), (2, (0, l8)), (3, (0, l9)), (4, (0, l10)), (5, (0, l11)), (6, (0, l12))]) (st1 := [(0, 1)]) (h1 := h) rfl ?_
    refine jT.goto (st_M_mayPawn) rfl (tgt := 45) (by decide) ?_
    exact f_M_mayPawn_j45_ok E hv
set_option maxRecDepth 100000 in
set_option maxHeartbeats 4000000 in
theorem f_M_mayPawn_j20_ok (E : jE) {h : jH} {l1 : Int} {l2 : Int} {l3 : Int} {l4 : Int} {l5 : Int} {s6 : Int} {res : Int} (hv : f_M_mayPawn_j20 h l1 l2 l3 l4 l5 s6 = some res) : jG E M_M_mayPawn 20 [(0, (2, ((24 : Nat) : Int))), (1, (0, l1)), (2, (0, l2)), (3, (0, l3)), (4, (0, l4)), (5, (0, l5))] [(0, s6)] h (some (0, res)) h := by
  unfold f_M_mayPawn_j20 at hv
  refine jG.blk (st_M_mayPawn) 5 (pc1 := 28) (L1 := [(6, (0, s6)), (0, (2, ((24 : Nat) : Int))), (1, (0, l1)), (2, (0, l2)), (3, (0, l3)), (4, (0, l4)), (5, (0, l5))]) (st1 := [(0, l5), (0, jdiv l3 8)]) (h1 := h) rfl ?_
  refine jT.if1 (st_M_mayPawn) rfl (tgt := 36) (by decide) (fun hc => ?_) (fun hc => ?_)
  · have hc : ¬ (l5 = 0) := hc
    try rw [if_neg hc] at hv
    refine jG.blk (st_M_mayPawn) 1 (pc1 := 37) (L1 := [(6, (0, s6)), (0, (2, ((24 : Nat) : Int))), (1, (0, l1)), (2, (0, l2)), (3, (0, l3)), (4, (0, l4)), (5, (0, l5))]) (st1 := [(0, 0), (0, jdiv l3 8)]) (h1 := h) rfl ?_
    refine jG.subp [1, 2, 3, 4, 5, 6, 0] (L1 := [(0, (2, ((24 : Nat) : Int))), (1, (0, l1)), (2, (0, l2)), (3, (0, l3)), (4, (0, l4)), (5, (0, l5)), (6, (0, s6))]) rfl ?_
    exact f_M_mayPawn_j37_ok E hv
  · have hc : l5 = 0 := Decidable.not_not.mp hc
    try rw [if_pos hc] at hv
    refine jG.blk (st_M_mayPawn) 1 (pc1 := 33) (L1 := [(6, (0, s6)), (0, (2, ((24 : Nat) : Int))), (1, (0, l1)), (2, (0, l2)), (3, (0, l3)), (4, (0, l4)), (5, (0, l5))]) (st1 := [(0, 7), (0, jdiv l3 8)]) (h1 := h) rfl ?_
    refine jT.goto (st_M_mayPawn) rfl (tgt := 37) (by decide) ?_
    refine jG.subp [1, 2, 3, 4, 5, 6, 0] (L1 := [(0, (2, ((24 : Nat) : Int))), (1, (0, l1)), (2, (0, l2)), (3, (0, l3)), (4, (0, l4)), (5, (0, l5)), (6, (0, s6))]) rfl ?_
    exact f_M_mayPawn_j37_ok E hv
set_option maxRecDepth 100000 in
set_option maxHeartbeats 4000000 in
theorem C_M_mayPawn {E : jE} {h : jH} {a1 : Int} {a2 : Int} {a3 : Int} {a4 : Int} {res : Int} (hv : f_M_mayPawn h a1 a2 a3 a4 = some res) : jC E M_M_mayPawn [(2, ((24 : Nat) : Int)), (0, a1), (0, a2), (0, a3), (0, a4)] h (some (0, res)) h := by
  refine jC.of ok_M_mayPawn.1 (by rw [jlg]; exact Nat.le_of_ble_eq_true rfl) ?_
  show jG E _ 0 [(0, (2, ((24 : Nat) : Int))), (1, (0, a1)), (2, (0, a2)), (3, (0, a3)), (4, (0, a4))] [] h _ _
  unfold f_M_mayPawn at hv
  refine jG.blk (st_M_mayPawn) 3 (pc1 := 5) (L1 := [(0, (2, ((24 : Nat) : Int))), (1, (0, a1)), (2, (0, a2)), (3, (0, a3)), (4, (0, a4))]) (st1 := [(0, a1), (2, ((26 : Nat) : Int))]) (h1 := h) rfl ?_
  obtain ⟨hg, hv⟩ := jgd_some hv
  refine jT.iald (a := 26) (st_M_mayPawn) rfl rfl (by decide) hg.1 hg.2 ?_
  refine jG.blk (st_M_mayPawn) 2 (pc1 := 10) (L1 := [(5, (0, h 26 a1.toNat)), (0, (2, ((24 : Nat) : Int))), (1, (0, a1)), (2, (0, a2)), (3, (0, a3)), (4, (0, a4))]) (st1 := [(0, h 26 a1.toNat)]) (h1 := h) rfl ?_
  refine jT.if1 (st_M_mayPawn) rfl (tgt := 18) (by decide) (fun hc => ?_) (fun hc => ?_)
  · have hc : ¬ (h 26 a1.toNat = 0) := hc
    try rw [if_neg hc] at hv
    refine jG.blk (st_M_mayPawn) 1 (pc1 := 20) (L1 := [(5, (0, h 26 a1.toNat)), (0, (2, ((24 : Nat) : Int))), (1, (0, a1)), (2, (0, a2)), (3, (0, a3)), (4, (0, a4))]) (st1 := [(0, (-8))]) (h1 := h) rfl ?_
    refine jG.subp [1, 2, 3, 4, 5, 0] (L1 := [(0, (2, ((24 : Nat) : Int))), (1, (0, a1)), (2, (0, a2)), (3, (0, a3)), (4, (0, a4)), (5, (0, h 26 a1.toNat))]) rfl ?_
    exact f_M_mayPawn_j20_ok E hv
  · have hc : h 26 a1.toNat = 0 := Decidable.not_not.mp hc
    try rw [if_pos hc] at hv
    refine jG.blk (st_M_mayPawn) 1 (pc1 := 15) (L1 := [(5, (0, h 26 a1.toNat)), (0, (2, ((24 : Nat) : Int))), (1, (0, a1)), (2, (0, a2)), (3, (0, a3)), (4, (0, a4))]) (st1 := [(0, 8)]) (h1 := h) rfl ?_
    refine jT.goto (st_M_mayPawn) rfl (tgt := 20) (by decide) ?_
    refine jG.subp [1, 2, 3, 4, 5, 0] (L1 := [(0, (2, ((24 : Nat) : Int))), (1, (0, a1)), (2, (0, a2)), (3, (0, a3)), (4, (0, a4)), (5, (0, h 26 a1.toNat))]) rfl ?_
    exact f_M_mayPawn_j20_ok E hv
def f_M_mayCastle_j84 (h : jH) (l24 : Int) (l25 : Int) (l26 : Int) (l27 : Int) (l28 : Int) (s29 : Int) : Option (Int) := jgd (0 ≤ l24 ∧ l24 < 304) (if jand (jshr (h 27 l24.toNat) l28) 1 = 1 then (f_M_isClear h l24 l25 s29).bind fun v30 => if v30 = 0 then some 0 else (f_M_isAttacked h l24 l25 (jsub 1 l27)).bind fun v31 => if v31 = 0 then (f_M_isAttacked h l24 (jdiv (jadd l25 l26) 2) (jsub 1 l27)).bind fun v32 => some (if v32 = 0 then 1 else 0) else some 0 else some 0)
def f_M_mayCastle_j65 (h : jH) (l17 : Int) (l18 : Int) (l19 : Int) (l20 : Int) (l21 : Int) (s22 : Int) (s23 : Int) : Option (Int) := f_M_mayCastle_j84 h l17 l18 l19 l20 (jadd s23 s22) (if l19 ≤ l18 then jsub l21 4 else jadd l21 3)
def f_M_mayCastle_j55 (h : jH) (l11 : Int) (l12 : Int) (l13 : Int) (l14 : Int) (l15 : Int) (s16 : Int) : Option (Int) := f_M_mayCastle_j65 h l11 l12 l13 l14 l15 (if l13 ≤ l12 then 1 else 0) s16
def f_M_mayCastle_j45 (h : jH) (l6 : Int) (l7 : Int) (l8 : Int) (l9 : Int) (l10 : Int) : Option (Int) := f_M_mayCastle_j55 h l6 l7 l8 l9 l10 (if l9 = 0 then 0 else 2)
def f_M_mayCastle_j19 (h : jH) (l1 : Int) (l2 : Int) (l3 : Int) (l4 : Int) (s5 : Int) : Option (Int) := if l2 = s5 then if l3 = jadd s5 2 then f_M_mayCastle_j45 h l1 l2 l3 l4 s5 else if l3 = jsub s5 2 then f_M_mayCastle_j45 h l1 l2 l3 l4 s5 else some 0 else some 0
def f_M_mayCastle (h : jH) (a1 : Int) (a2 : Int) (a3 : Int) : Option (Int) := jgd (0 ≤ a1 ∧ a1 < 304) (f_M_mayCastle_j19 h a1 a2 a3 (h 26 a1.toNat) (if h 26 a1.toNat = 0 then 4 else 60))
set_option maxRecDepth 100000 in
set_option maxHeartbeats 4000000 in
theorem f_M_mayCastle_j84_ok (E : jE) {h : jH} {l24 : Int} {l25 : Int} {l26 : Int} {l27 : Int} {l28 : Int} {s29 : Int} {res : Int} (hv : f_M_mayCastle_j84 h l24 l25 l26 l27 l28 s29 = some res) : jG E M_M_mayCastle 84 [(0, (2, ((24 : Nat) : Int))), (1, (0, l24)), (2, (0, l25)), (3, (0, l26)), (4, (0, l27)), (6, (0, l28))] [(0, s29)] h (some (0, res)) h := by
  unfold f_M_mayCastle_j84 at hv
  refine jG.blk (st_M_mayCastle) 4 (pc1 := 91) (L1 := [(7, (0, s29)), (0, (2, ((24 : Nat) : Int))), (1, (0, l24)), (2, (0, l25)), (3, (0, l26)), (4, (0, l27)), (6, (0, l28))]) (st1 := [(0, l24), (2, ((27 : Nat) : Int))]) (h1 := h) rfl ?_
  obtain ⟨hg, hv⟩ := jgd_some hv
  refine jT.iald (a := 27) (st_M_mayCastle) rfl rfl (by decide) hg.1 hg.2 ?_
  refine jG.blk (st_M_mayCastle) 5 (pc1 := 98) (L1 := [(7, (0, s29)), (0, (2, ((24 : Nat) : Int))), (1, (0, l24)), (2, (0, l25)), (3, (0, l26)), (4, (0, l27)), (6, (0, l28))]) (st1 := [(0, 1), (0, jand (jshr (h 27 l24.toNat) l28) 1)]) (h1 := h) rfl ?_
  refine jT.if2 (st_M_mayCastle) rfl (tgt := 146) (by decide) (fun hc => ?_) (fun hc => ?_)
  · have hc : ¬ (jand (jshr (h 27 l24.toNat) l28) 1 = 1) := hc
    try rw [if_neg hc] at hv
    refine jG.blk (st_M_mayCastle) 1 (pc1 := 147) (L1 := [(7, (0, s29)), (0, (2, ((24 : Nat) : Int))), (1, (0, l24)), (2, (0, l25)), (3, (0, l26)), (4, (0, l27)), (6, (0, l28))]) (st1 := [(0, 0)]) (h1 := h) rfl ?_
    cases hv
    exact jT.iret (st_M_mayCastle) rfl (Or.inl rfl)
  · have hc : jand (jshr (h 27 l24.toNat) l28) 1 = 1 := Decidable.not_not.mp hc
    try rw [if_pos hc] at hv
    refine jG.blk (st_M_mayCastle) 4 (pc1 := 106) (L1 := [(7, (0, s29)), (0, (2, ((24 : Nat) : Int))), (1, (0, l24)), (2, (0, l25)), (3, (0, l26)), (4, (0, l27)), (6, (0, l28))]) (st1 := [(0, s29), (0, l25), (0, l24), (2, ((24 : Nat) : Int))]) (h1 := h) rfl ?_
    obtain ⟨v30, hq, hv⟩ := Option.bind_eq_some_iff.mp hv
    refine jT.cV (M1 := M_M_isClear) (2, ((24 : Nat) : Int)) [(0, l24), (0, l25), (0, s29)] [] (st_M_mayCastle) rfl rfl ok_M_isClear rfl (Or.inl ⟨rfl, _, _, _, rfl, rfl⟩) (Nat.le_of_ble_eq_true rfl) (Nat.le_of_ble_eq_true rfl) rfl (Nat.le_of_ble_eq_true rfl) (C_M_isClear hq) ?_
    show jG E _ 109 [(7, (0, s29)), (0, (2, ((24 : Nat) : Int))), (1, (0, l24)), (2, (0, l25)), (3, (0, l26)), (4, (0, l27)), (6, (0, l28))] [(0, v30)] h _ _
    refine jT.if1 (st_M_mayCastle) rfl (tgt := 146) (by decide) (fun hc => ?_) (fun hc => ?_)
    · have hc : v30 = 0 := hc
      try rw [if_pos hc] at hv
      refine jG.blk (st_M_mayCastle) 1 (pc1 := 147) (L1 := [(7, (0, s29)), (0, (2, ((24 : Nat) : Int))), (1, (0, l24)), (2, (0, l25)), (3, (0, l26)), (4, (0, l27)), (6, (0, l28))]) (st1 := [(0, 0)]) (h1 := h) rfl ?_
      cases hv
      exact jT.iret (st_M_mayCastle) rfl (Or.inl rfl)
    · have hc : ¬ (v30 = 0) := hc
      try rw [if_neg hc] at hv
      refine jG.blk (st_M_mayCastle) 6 (pc1 := 119) (L1 := [(7, (0, s29)), (0, (2, ((24 : Nat) : Int))), (1, (0, l24)), (2, (0, l25)), (3, (0, l26)), (4, (0, l27)), (6, (0, l28))]) (st1 := [(0, jsub 1 l27), (0, l25), (0, l24), (2, ((24 : Nat) : Int))]) (h1 := h) rfl ?_
      obtain ⟨v31, hq, hv⟩ := Option.bind_eq_some_iff.mp hv
      refine jT.cV (M1 := M_M_isAttacked) (2, ((24 : Nat) : Int)) [(0, l24), (0, l25), (0, jsub 1 l27)] [] (st_M_mayCastle) rfl rfl ok_M_isAttacked rfl (Or.inl ⟨rfl, _, _, _, rfl, rfl⟩) (Nat.le_of_ble_eq_true rfl) (Nat.le_of_ble_eq_true rfl) rfl (Nat.le_of_ble_eq_true rfl) (C_M_isAttacked hq) ?_
      show jG E _ 122 [(7, (0, s29)), (0, (2, ((24 : Nat) : Int))), (1, (0, l24)), (2, (0, l25)), (3, (0, l26)), (4, (0, l27)), (6, (0, l28))] [(0, v31)] h _ _
      refine jT.if1 (st_M_mayCastle) rfl (tgt := 146) (by decide) (fun hc => ?_) (fun hc => ?_)
      · have hc : ¬ (v31 = 0) := hc
        try rw [if_neg hc] at hv
        refine jG.blk (st_M_mayCastle) 1 (pc1 := 147) (L1 := [(7, (0, s29)), (0, (2, ((24 : Nat) : Int))), (1, (0, l24)), (2, (0, l25)), (3, (0, l26)), (4, (0, l27)), (6, (0, l28))]) (st1 := [(0, 0)]) (h1 := h) rfl ?_
        cases hv
        exact jT.iret (st_M_mayCastle) rfl (Or.inl rfl)
      · have hc : v31 = 0 := Decidable.not_not.mp hc
        try rw [if_pos hc] at hv
        refine jG.blk (st_M_mayCastle) 10 (pc1 := 136) (L1 := [(7, (0, s29)), (0, (2, ((24 : Nat) : Int))), (1, (0, l24)), (2, (0, l25)), (3, (0, l26)), (4, (0, l27)), (6, (0, l28))]) (st1 := [(0, jsub 1 l27), (0, jdiv (jadd l25 l26) 2), (0, l24), (2, ((24 : Nat) : Int))]) (h1 := h) rfl ?_
        obtain ⟨v32, hq, hv⟩ := Option.bind_eq_some_iff.mp hv
        refine jT.cV (M1 := M_M_isAttacked) (2, ((24 : Nat) : Int)) [(0, l24), (0, jdiv (jadd l25 l26) 2), (0, jsub 1 l27)] [] (st_M_mayCastle) rfl rfl ok_M_isAttacked rfl (Or.inl ⟨rfl, _, _, _, rfl, rfl⟩) (Nat.le_of_ble_eq_true rfl) (Nat.le_of_ble_eq_true rfl) rfl (Nat.le_of_ble_eq_true rfl) (C_M_isAttacked hq) ?_
        show jG E _ 139 [(7, (0, s29)), (0, (2, ((24 : Nat) : Int))), (1, (0, l24)), (2, (0, l25)), (3, (0, l26)), (4, (0, l27)), (6, (0, l28))] [(0, v32)] h _ _
        refine jT.if1 (st_M_mayCastle) rfl (tgt := 146) (by decide) (fun hc => ?_) (fun hc => ?_)
        · have hc : ¬ (v32 = 0) := hc
          try rw [if_neg hc] at hv
          refine jG.blk (st_M_mayCastle) 1 (pc1 := 147) (L1 := [(7, (0, s29)), (0, (2, ((24 : Nat) : Int))), (1, (0, l24)), (2, (0, l25)), (3, (0, l26)), (4, (0, l27)), (6, (0, l28))]) (st1 := [(0, 0)]) (h1 := h) rfl ?_
          cases hv
          exact jT.iret (st_M_mayCastle) rfl (Or.inl rfl)
        · have hc : v32 = 0 := Decidable.not_not.mp hc
          try rw [if_pos hc] at hv
          refine jG.blk (st_M_mayCastle) 1 (pc1 := 143) (L1 := [(7, (0, s29)), (0, (2, ((24 : Nat) : Int))), (1, (0, l24)), (2, (0, l25)), (3, (0, l26)), (4, (0, l27)), (6, (0, l28))]) (st1 := [(0, 1)]) (h1 := h) rfl ?_
          refine jT.goto (st_M_mayCastle) rfl (tgt := 147) (by decide) ?_
          cases hv
          exact jT.iret (st_M_mayCastle) rfl (Or.inr rfl)
set_option maxRecDepth 100000 in
set_option maxHeartbeats 4000000 in
theorem f_M_mayCastle_j65_ok (E : jE) {h : jH} {l17 : Int} {l18 : Int} {l19 : Int} {l20 : Int} {l21 : Int} {s22 : Int} {s23 : Int} {res : Int} (hv : f_M_mayCastle_j65 h l17 l18 l19 l20 l21 s22 s23 = some res) : jG E M_M_mayCastle 65 [(0, (2, ((24 : Nat) : Int))), (1, (0, l17)), (2, (0, l18)), (3, (0, l19)), (4, (0, l20)), (5, (0, l21))] [(0, s22), (0, s23)] h (some (0, res)) h := by
  unfold f_M_mayCastle_j65 at hv
  refine jG.blk (st_M_mayCastle) 4 (pc1 := 70) (L1 := [(6, (0, jadd s23 s22)), (0, (2, ((24 : Nat) : Int))), (1, (0, l17)), (2, (0, l18)), (3, (0, l19)), (4, (0, l20)), (5, (0, l21))]) (st1 := [(0, l18), (0, l19)]) (h1 := h) rfl ?_
  refine jT.if2 (st_M_mayCastle) rfl (tgt := 80) (by decide) (fun hc => ?_) (fun hc => ?_)
  · have hc : l19 ≤ l18 := hc
    try rw [if_pos hc] at hv
    refine jG.blk (st_M_mayCastle) 3 (pc1 := 84) (L1 := [(6, (0, jadd s23 s22)), (0, (2, ((24 : Nat) : Int))), (1, (0, l17)), (2, (0, l18)), (3, (0, l19)), (4, (0, l20)), (5, (0, l21))]) (st1 := [(0, jsub l21 4)]) (h1 := h) rfl ?_
    refine jG.subp [1, 2, 3, 4, 5, 0] (L1 := [(0, (2, ((24 : Nat) : Int))), (1, (0, l17)), (2, (0, l18)), (3, (0, l19)), (4, (0, l20)), (6, (0, jadd s23 s22))]) rfl ?_
    exact f_M_mayCastle_j84_ok E hv
  · have hc : ¬ (l19 ≤ l18) := hc
    try rw [if_neg hc] at hv
    refine jG.blk (st_M_mayCastle) 3 (pc1 := 77) (L1 := [(6, (0, jadd s23 s22)), (0, (2, ((24 : Nat) : Int))), (1, (0, l17)), (2, (0, l18)), (3, (0, l19)), (4, (0, l20)), (5, (0, l21))]) (st1 := [(0, jadd l21 3)]) (h1 := h) rfl ?_
    refine jT.goto (st_M_mayCastle) rfl (tgt := 84) (by decide) ?_
    refine jG.subp [1, 2, 3, 4, 5, 0] (L1 := [(0, (2, ((24 : Nat) : Int))), (1, (0, l17)), (2, (0, l18)), (3, (0, l19)), (4, (0, l20)), (6, (0, jadd s23 s22))]) rfl ?_
    exact f_M_mayCastle_j84_ok E hv
set_option maxRecDepth 100000 in
set_option maxHeartbeats 4000000 in
theorem f_M_mayCastle_j55_ok (E : jE) {h : jH} {l11 : Int} {l12 : Int} {l13 : Int} {l14 : Int} {l15 : Int} {s16 : Int} {res : Int} (hv : f_M_mayCastle_j55 h l11 l12 l13 l14 l15 s16 = some res) : jG E M_M_mayCastle 55 [(0, (2, ((24 : Nat) : Int))), (1, (0, l11)), (2, (0, l12)), (3, (0, l13)), (4, (0, l14)), (5, (0, l15))] [(0, s16)] h (some (0, res)) h := by
  unfold f_M_mayCastle_j55 at hv
  refine jG.blk (st_M_mayCastle) 2 (pc1 := 57) (L1 := [(0, (2, ((24 : Nat) : Int))), (1, (0, l11)), (2, (0, l12)), (3, (0, l13)), (4, (0, l14)), (5, (0, l15))]) (st1 := [(0, l12), (0, l13), (0, s16)]) (h1 := h) rfl ?_
  refine jT.if2 (st_M_mayCastle) rfl (tgt := 64) (by decide) (fun hc => ?_) (fun hc => ?_)
  · have hc : l13 ≤ l12 := hc
    try rw [if_pos hc] at hv
    refine jG.blk (st_M_mayCastle) 1 (pc1 := 65) (L1 := [(0, (2, ((24 : Nat) : Int))), (1, (0, l11)), (2, (0, l12)), (3, (0, l13)), (4, (0, l14)), (5, (0, l15))]) (st1 := [(0, 1), (0, s16)]) (h1 := h) rfl ?_
    exact f_M_mayCastle_j65_ok E hv
  · have hc : ¬ (l13 ≤ l12) := hc
    try rw [if_neg hc] at hv
    refine jG.blk (st_M_mayCastle) 1 (pc1 := 61) (L1 := [(0, (2, ((24 : Nat) : Int))), (1, (0, l11)), (2, (0, l12)), (3, (0, l13)), (4, (0, l14)), (5, (0, l15))]) (st1 := [(0, 0), (0, s16)]) (h1 := h) rfl ?_
    refine jT.goto (st_M_mayCastle) rfl (tgt := 65) (by decide) ?_
    exact f_M_mayCastle_j65_ok E hv
set_option maxRecDepth 100000 in
set_option maxHeartbeats 4000000 in
theorem f_M_mayCastle_j45_ok (E : jE) {h : jH} {l6 : Int} {l7 : Int} {l8 : Int} {l9 : Int} {l10 : Int} {res : Int} (hv : f_M_mayCastle_j45 h l6 l7 l8 l9 l10 = some res) : jG E M_M_mayCastle 45 [(0, (2, ((24 : Nat) : Int))), (1, (0, l6)), (2, (0, l7)), (3, (0, l8)), (4, (0, l9)), (5, (0, l10))] [] h (some (0, res)) h := by
  unfold f_M_mayCastle_j45 at hv
  refine jG.blk (st_M_mayCastle) 1 (pc1 := 47) (L1 := [(0, (2, ((24 : Nat) : Int))), (1, (0, l6)), (2, (0, l7)), (3, (0, l8)), (4, (0, l9)), (5, (0, l10))]) (st1 := [(0, l9)]) (h1 := h) rfl ?_
  refine jT.if1 (st_M_mayCastle) rfl (tgt := 54) (by decide) (fun hc => ?_) (fun hc => ?_)
  · have hc : ¬ (l9 = 0) := hc
    try rw [if_neg hc] at hv
    refine jG.blk (st_M_mayCastle) 1 (pc1 := 55) (L1 := [(0, (2, ((24 : Nat) : Int))), (1, (0, l6)), (2, (0, l7)), (3, (0, l8)), (4, (0, l9)), (5, (0, l10))]) (st1 := [(0, 2)]) (h1 := h) rfl ?_
    exact f_M_mayCastle_j55_ok E hv
  · have hc : l9 = 0 := Decidable.not_not.mp hc
    try rw [if_pos hc] at hv
    refine jG.blk (st_M_mayCastle) 1 (pc1 := 51) (L1 := [(0, (2, ((24 : Nat) : Int))), (1, (0, l6)), (2, (0, l7)), (3, (0, l8)), (4, (0, l9)), (5, (0, l10))]) (st1 := [(0, 0)]) (h1 := h) rfl ?_
    refine jT.goto (st_M_mayCastle) rfl (tgt := 55) (by decide) ?_
    exact f_M_mayCastle_j55_ok E hv
set_option maxRecDepth 100000 in
set_option maxHeartbeats 4000000 in
theorem f_M_mayCastle_j19_ok (E : jE) {h : jH} {l1 : Int} {l2 : Int} {l3 : Int} {l4 : Int} {s5 : Int} {res : Int} (hv : f_M_mayCastle_j19 h l1 l2 l3 l4 s5 = some res) : jG E M_M_mayCastle 19 [(0, (2, ((24 : Nat) : Int))), (1, (0, l1)), (2, (0, l2)), (3, (0, l3)), (4, (0, l4))] [(0, s5)] h (some (0, res)) h := by
  unfold f_M_mayCastle_j19 at hv
  refine jG.blk (st_M_mayCastle) 3 (pc1 := 24) (L1 := [(5, (0, s5)), (0, (2, ((24 : Nat) : Int))), (1, (0, l1)), (2, (0, l2)), (3, (0, l3)), (4, (0, l4))]) (st1 := [(0, s5), (0, l2)]) (h1 := h) rfl ?_
  refine jT.if2 (st_M_mayCastle) rfl (tgt := 43) (by decide) (fun hc => ?_) (fun hc => ?_)
  · have hc : ¬ (l2 = s5) := hc
    try rw [if_neg hc] at hv
    refine jG.blk (st_M_mayCastle) 1 (pc1 := 44) (L1 := [(5, (0, s5)), (0, (2, ((24 : Nat) : Int))), (1, (0, l1)), (2, (0, l2)), (3, (0, l3)), (4, (0, l4))]) (st1 := [(0, 0)]) (h1 := h) rfl ?_
    cases hv
    exact jT.iret (st_M_mayCastle) rfl (Or.inl rfl)
  · have hc : l2 = s5 := Decidable.not_not.mp hc
    try rw [if_pos hc] at hv
    refine jG.blk (st_M_mayCastle) 4 (pc1 := 32) (L1 := [(5, (0, s5)), (0, (2, ((24 : Nat) : Int))), (1, (0, l1)), (2, (0, l2)), (3, (0, l3)), (4, (0, l4))]) (st1 := [(0, jadd s5 2), (0, l3)]) (h1 := h) rfl ?_
    refine jT.if2 (st_M_mayCastle) rfl (tgt := 45) (by decide) (fun hc => ?_) (fun hc => ?_)
    · have hc : l3 = jadd s5 2 := hc
      try rw [if_pos hc] at hv
      refine jG.subp [1, 2, 3, 4, 5, 0] (L1 := [(0, (2, ((24 : Nat) : Int))), (1, (0, l1)), (2, (0, l2)), (3, (0, l3)), (4, (0, l4)), (5, (0, s5))]) rfl ?_
      exact f_M_mayCastle_j45_ok E hv
    · have hc : ¬ (l3 = jadd s5 2) := hc
      try rw [if_neg hc] at hv
      refine jG.blk (st_M_mayCastle) 4 (pc1 := 40) (L1 := [(5, (0, s5)), (0, (2, ((24 : Nat) : Int))), (1, (0, l1)), (2, (0, l2)), (3, (0, l3)), (4, (0, l4))]) (st1 := [(0, jsub s5 2), (0, l3)]) (h1 := h) rfl ?_
      refine jT.if2 (st_M_mayCastle) rfl (tgt := 45) (by decide) (fun hc => ?_) (fun hc => ?_)
      · have hc : l3 = jsub s5 2 := hc
        try rw [if_pos hc] at hv
        refine jG.subp [1, 2, 3, 4, 5, 0] (L1 := [(0, (2, ((24 : Nat) : Int))), (1, (0, l1)), (2, (0, l2)), (3, (0, l3)), (4, (0, l4)), (5, (0, s5))]) rfl ?_
        exact f_M_mayCastle_j45_ok E hv
      · have hc : ¬ (l3 = jsub s5 2) := hc
        try rw [if_neg hc] at hv
        refine jG.blk (st_M_mayCastle) 1 (pc1 := 44) (L1 := [(5, (0, s5)), (0, (2, ((24 : Nat) : Int))), (1, (0, l1)), (2, (0, l2)), (3, (0, l3)), (4, (0, l4))]) (st1 := [(0, 0)]) (h1 := h) rfl ?_
        cases hv
        exact jT.iret (st_M_mayCastle) rfl (Or.inl rfl)
set_option maxRecDepth 100000 in
set_option maxHeartbeats 4000000 in
theorem C_M_mayCastle {E : jE} {h : jH} {a1 : Int} {a2 : Int} {a3 : Int} {res : Int} (hv : f_M_mayCastle h a1 a2 a3 = some res) : jC E M_M_mayCastle [(2, ((24 : Nat) : Int)), (0, a1), (0, a2), (0, a3)] h (some (0, res)) h := by
  refine jC.of ok_M_mayCastle.1 (by rw [jlg]; exact Nat.le_of_ble_eq_true rfl) ?_
  show jG E _ 0 [(0, (2, ((24 : Nat) : Int))), (1, (0, a1)), (2, (0, a2)), (3, (0, a3))] [] h _ _
  unfold f_M_mayCastle at hv
  refine jG.blk (st_M_mayCastle) 3 (pc1 := 5) (L1 := [(0, (2, ((24 : Nat) : Int))), (1, (0, a1)), (2, (0, a2)), (3, (0, a3))]) (st1 := [(0, a1), (2, ((26 : Nat) : Int))]) (h1 := h) rfl ?_
  obtain ⟨hg, hv⟩ := jgd_some hv
  refine jT.iald (a := 26) (st_M_mayCastle) rfl rfl (by decide) hg.1 hg.2 ?_
  refine jG.blk (st_M_mayCastle) 2 (pc1 := 10) (L1 := [(4, (0, h 26 a1.toNat)), (0, (2, ((24 : Nat) : Int))), (1, (0, a1)), (2, (0, a2)), (3, (0, a3))]) (st1 := [(0, h 26 a1.toNat)]) (h1 := h) rfl ?_
  refine jT.if1 (st_M_mayCastle) rfl (tgt := 17) (by decide) (fun hc => ?_) (fun hc => ?_)
  · have hc : ¬ (h 26 a1.toNat = 0) := hc
    try rw [if_neg hc] at hv
    refine jG.blk (st_M_mayCastle) 1 (pc1 := 19) (L1 := [(4, (0, h 26 a1.toNat)), (0, (2, ((24 : Nat) : Int))), (1, (0, a1)), (2, (0, a2)), (3, (0, a3))]) (st1 := [(0, 60)]) (h1 := h) rfl ?_
    refine jG.subp [1, 2, 3, 4, 0] (L1 := [(0, (2, ((24 : Nat) : Int))), (1, (0, a1)), (2, (0, a2)), (3, (0, a3)), (4, (0, h 26 a1.toNat))]) rfl ?_
    exact f_M_mayCastle_j19_ok E hv
  · have hc : h 26 a1.toNat = 0 := Decidable.not_not.mp hc
    try rw [if_pos hc] at hv
    refine jG.blk (st_M_mayCastle) 1 (pc1 := 14) (L1 := [(4, (0, h 26 a1.toNat)), (0, (2, ((24 : Nat) : Int))), (1, (0, a1)), (2, (0, a2)), (3, (0, a3))]) (st1 := [(0, 4)]) (h1 := h) rfl ?_
    refine jT.goto (st_M_mayCastle) rfl (tgt := 19) (by decide) ?_
    refine jG.subp [1, 2, 3, 4, 0] (L1 := [(0, (2, ((24 : Nat) : Int))), (1, (0, a1)), (2, (0, a2)), (3, (0, a3)), (4, (0, h 26 a1.toNat))]) rfl ?_
    exact f_M_mayCastle_j19_ok E hv
def f_M_mayGo (h : jH) (a1 : Int) (a2 : Int) (a3 : Int) (a4 : Int) : Option (Int) := jgd (0 ≤ a1 ∧ a1 < 304) ((f_M_isOf h a1 a2 (h 26 a1.toNat)).bind fun v1 => if v1 = 0 then some 0 else (f_M_isOf h a1 a3 (h 26 a1.toNat)).bind fun v2 => if v2 = 0 then (f_M_piece h a1 a2).bind fun v3 => (f_M_kindOf h v3).bind fun v4 => if v4 = 1 then (f_M_mayPawn h a1 a2 a3 a4).bind fun v7 => jgd (v7 = 0 ∨ v7 = 1) (some v7) else if a4 = 0 then (f_M_doesAttack h a1 a2 a3).bind fun v5 => if v5 = 0 then if v4 = 6 then (f_M_mayCastle h a1 a2 a3).bind fun v6 => some (if v6 = 0 then 0 else 1) else some 0 else some 1 else some 0 else some 0)
set_option maxRecDepth 100000 in
set_option maxHeartbeats 4000000 in
theorem C_M_mayGo {E : jE} {h : jH} {a1 : Int} {a2 : Int} {a3 : Int} {a4 : Int} {res : Int} (hv : f_M_mayGo h a1 a2 a3 a4 = some res) : jC E M_M_mayGo [(2, ((24 : Nat) : Int)), (0, a1), (0, a2), (0, a3), (0, a4)] h (some (0, res)) h := by
  refine jC.of ok_M_mayGo.1 (by rw [jlg]; exact Nat.le_of_ble_eq_true rfl) ?_
  show jG E _ 0 [(0, (2, ((24 : Nat) : Int))), (1, (0, a1)), (2, (0, a2)), (3, (0, a3)), (4, (0, a4))] [] h _ _
  unfold f_M_mayGo at hv
  refine jG.blk (st_M_mayGo) 3 (pc1 := 5) (L1 := [(0, (2, ((24 : Nat) : Int))), (1, (0, a1)), (2, (0, a2)), (3, (0, a3)), (4, (0, a4))]) (st1 := [(0, a1), (2, ((26 : Nat) : Int))]) (h1 := h) rfl ?_
  obtain ⟨hg, hv⟩ := jgd_some hv
  refine jT.iald (a := 26) (st_M_mayGo) rfl rfl (by decide) hg.1 hg.2 ?_
  refine jG.blk (st_M_mayGo) 5 (pc1 := 13) (L1 := [(5, (0, h 26 a1.toNat)), (0, (2, ((24 : Nat) : Int))), (1, (0, a1)), (2, (0, a2)), (3, (0, a3)), (4, (0, a4))]) (st1 := [(0, h 26 a1.toNat), (0, a2), (0, a1), (2, ((24 : Nat) : Int))]) (h1 := h) rfl ?_
  obtain ⟨v1, hq, hv⟩ := Option.bind_eq_some_iff.mp hv
  refine jT.cV (M1 := M_M_isOf) (2, ((24 : Nat) : Int)) [(0, a1), (0, a2), (0, h 26 a1.toNat)] [] (st_M_mayGo) rfl rfl ok_M_isOf rfl (Or.inl ⟨rfl, _, _, _, rfl, rfl⟩) (Nat.le_of_ble_eq_true rfl) (Nat.le_of_ble_eq_true rfl) rfl (Nat.le_of_ble_eq_true rfl) (C_M_isOf hq) ?_
  show jG E _ 16 [(5, (0, h 26 a1.toNat)), (0, (2, ((24 : Nat) : Int))), (1, (0, a1)), (2, (0, a2)), (3, (0, a3)), (4, (0, a4))] [(0, v1)] h _ _
  refine jT.if1 (st_M_mayGo) rfl (tgt := 30) (by decide) (fun hc => ?_) (fun hc => ?_)
  · have hc : v1 = 0 := hc
    try rw [if_pos hc] at hv
    refine jG.blk (st_M_mayGo) 1 (pc1 := 31) (L1 := [(5, (0, h 26 a1.toNat)), (0, (2, ((24 : Nat) : Int))), (1, (0, a1)), (2, (0, a2)), (3, (0, a3)), (4, (0, a4))]) (st1 := [(0, 0)]) (h1 := h) rfl ?_
    cases hv
    exact jT.iret (st_M_mayGo) rfl (Or.inl rfl)
  · have hc : ¬ (v1 = 0) := hc
    try rw [if_neg hc] at hv
    refine jG.blk (st_M_mayGo) 4 (pc1 := 24) (L1 := [(5, (0, h 26 a1.toNat)), (0, (2, ((24 : Nat) : Int))), (1, (0, a1)), (2, (0, a2)), (3, (0, a3)), (4, (0, a4))]) (st1 := [(0, h 26 a1.toNat), (0, a3), (0, a1), (2, ((24 : Nat) : Int))]) (h1 := h) rfl ?_
    obtain ⟨v2, hq, hv⟩ := Option.bind_eq_some_iff.mp hv
    refine jT.cV (M1 := M_M_isOf) (2, ((24 : Nat) : Int)) [(0, a1), (0, a3), (0, h 26 a1.toNat)] [] (st_M_mayGo) rfl rfl ok_M_isOf rfl (Or.inl ⟨rfl, _, _, _, rfl, rfl⟩) (Nat.le_of_ble_eq_true rfl) (Nat.le_of_ble_eq_true rfl) rfl (Nat.le_of_ble_eq_true rfl) (C_M_isOf hq) ?_
    show jG E _ 27 [(5, (0, h 26 a1.toNat)), (0, (2, ((24 : Nat) : Int))), (1, (0, a1)), (2, (0, a2)), (3, (0, a3)), (4, (0, a4))] [(0, v2)] h _ _
    refine jT.if1 (st_M_mayGo) rfl (tgt := 32) (by decide) (fun hc => ?_) (fun hc => ?_)
    · have hc : v2 = 0 := hc
      try rw [if_pos hc] at hv
      refine jG.blk (st_M_mayGo) 3 (pc1 := 35) (L1 := [(5, (0, h 26 a1.toNat)), (0, (2, ((24 : Nat) : Int))), (1, (0, a1)), (2, (0, a2)), (3, (0, a3)), (4, (0, a4))]) (st1 := [(0, a2), (0, a1), (2, ((24 : Nat) : Int))]) (h1 := h) rfl ?_
      obtain ⟨v3, hq, hv⟩ := Option.bind_eq_some_iff.mp hv
      refine jT.cV (M1 := M_M_piece) (2, ((24 : Nat) : Int)) [(0, a1), (0, a2)] [] (st_M_mayGo) rfl rfl ok_M_piece rfl (Or.inl ⟨rfl, _, _, _, rfl, rfl⟩) (Nat.le_of_ble_eq_true rfl) (Nat.le_of_ble_eq_true rfl) rfl (Nat.le_of_ble_eq_true rfl) (C_M_piece hq) ?_
      show jG E _ 38 [(5, (0, h 26 a1.toNat)), (0, (2, ((24 : Nat) : Int))), (1, (0, a1)), (2, (0, a2)), (3, (0, a3)), (4, (0, a4))] [(0, v3)] h _ _
      obtain ⟨v4, hq, hv⟩ := Option.bind_eq_some_iff.mp hv
      refine jT.cS (M1 := M_M_kindOf) [(0, v3)] [] (st_M_mayGo) rfl rfl ok_M_kindOf rfl (Nat.le_of_ble_eq_true rfl) (Nat.le_of_ble_eq_true rfl) rfl (Nat.le_of_ble_eq_true rfl) (C_M_kindOf hq) ?_
      show jG E _ 41 [(5, (0, h 26 a1.toNat)), (0, (2, ((24 : Nat) : Int))), (1, (0, a1)), (2, (0, a2)), (3, (0, a3)), (4, (0, a4))] [(0, v4)] h _ _
      refine jG.blk (st_M_mayGo) 3 (pc1 := 46) (L1 := [(6, (0, v4)), (5, (0, h 26 a1.toNat)), (0, (2, ((24 : Nat) : Int))), (1, (0, a1)), (2, (0, a2)), (3, (0, a3)), (4, (0, a4))]) (st1 := [(0, 1), (0, v4)]) (h1 := h) rfl ?_
      refine jT.if2 (st_M_mayGo) rfl (tgt := 59) (by decide) (fun hc => ?_) (fun hc => ?_)
      · have hc : ¬ (v4 = 1) := hc
        try rw [if_neg hc] at hv
        refine jG.blk (st_M_mayGo) 1 (pc1 := 61) (L1 := [(6, (0, v4)), (5, (0, h 26 a1.toNat)), (0, (2, ((24 : Nat) : Int))), (1, (0, a1)), (2, (0, a2)), (3, (0, a3)), (4, (0, a4))]) (st1 := [(0, a4)]) (h1 := h) rfl ?_
        refine jT.if1 (st_M_mayGo) rfl (tgt := 95) (by decide) (fun hc => ?_) (fun hc => ?_)
        · have hc : ¬ (a4 = 0) := hc
          try rw [if_neg hc] at hv
          refine jG.blk (st_M_mayGo) 1 (pc1 := 96) (L1 := [(6, (0, v4)), (5, (0, h 26 a1.toNat)), (0, (2, ((24 : Nat) : Int))), (1, (0, a1)), (2, (0, a2)), (3, (0, a3)), (4, (0, a4))]) (st1 := [(0, 0)]) (h1 := h) rfl ?_
          cases hv
          exact jT.iret (st_M_mayGo) rfl (Or.inl rfl)
        · have hc : a4 = 0 := Decidable.not_not.mp hc
          try rw [if_pos hc] at hv
          refine jG.blk (st_M_mayGo) 4 (pc1 := 68) (L1 := [(6, (0, v4)), (5, (0, h 26 a1.toNat)), (0, (2, ((24 : Nat) : Int))), (1, (0, a1)), (2, (0, a2)), (3, (0, a3)), (4, (0, a4))]) (st1 := [(0, a3), (0, a2), (0, a1), (2, ((24 : Nat) : Int))]) (h1 := h) rfl ?_
          obtain ⟨v5, hq, hv⟩ := Option.bind_eq_some_iff.mp hv
          refine jT.cV (M1 := M_M_doesAttack) (2, ((24 : Nat) : Int)) [(0, a1), (0, a2), (0, a3)] [] (st_M_mayGo) rfl rfl ok_M_doesAttack rfl (Or.inl ⟨rfl, _, _, _, rfl, rfl⟩) (Nat.le_of_ble_eq_true rfl) (Nat.le_of_ble_eq_true rfl) rfl (Nat.le_of_ble_eq_true rfl) (C_M_doesAttack hq) ?_
          show jG E _ 71 [(6, (0, v4)), (5, (0, h 26 a1.toNat)), (0, (2, ((24 : Nat) : Int))), (1, (0, a1)), (2, (0, a2)), (3, (0, a3)), (4, (0, a4))] [(0, v5)] h _ _
          refine jT.if1 (st_M_mayGo) rfl (tgt := 91) (by decide) (fun hc => ?_) (fun hc => ?_)
          · have hc : ¬ (v5 = 0) := hc
            try rw [if_neg hc] at hv
            refine jG.blk (st_M_mayGo) 1 (pc1 := 92) (L1 := [(6, (0, v4)), (5, (0, h 26 a1.toNat)), (0, (2, ((24 : Nat) : Int))), (1, (0, a1)), (2, (0, a2)), (3, (0, a3)), (4, (0, a4))]) (st1 := [(0, 1)]) (h1 := h) rfl ?_
            refine jT.goto (st_M_mayGo) rfl (tgt := 96) (by decide) ?_
            cases hv
            exact jT.iret (st_M_mayGo) rfl (Or.inr rfl)
          · have hc : v5 = 0 := Decidable.not_not.mp hc
            try rw [if_pos hc] at hv
            refine jG.blk (st_M_mayGo) 2 (pc1 := 78) (L1 := [(6, (0, v4)), (5, (0, h 26 a1.toNat)), (0, (2, ((24 : Nat) : Int))), (1, (0, a1)), (2, (0, a2)), (3, (0, a3)), (4, (0, a4))]) (st1 := [(0, 6), (0, v4)]) (h1 := h) rfl ?_
            refine jT.if2 (st_M_mayGo) rfl (tgt := 95) (by decide) (fun hc => ?_) (fun hc => ?_)
            · have hc : ¬ (v4 = 6) := hc
              try rw [if_neg hc] at hv
              refine jG.blk (st_M_mayGo) 1 (pc1 := 96) (L1 := [(6, (0, v4)), (5, (0, h 26 a1.toNat)), (0, (2, ((24 : Nat) : Int))), (1, (0, a1)), (2, (0, a2)), (3, (0, a3)), (4, (0, a4))]) (st1 := [(0, 0)]) (h1 := h) rfl ?_
              cases hv
              exact jT.iret (st_M_mayGo) rfl (Or.inl rfl)
            · have hc : v4 = 6 := Decidable.not_not.mp hc
              try rw [if_pos hc] at hv
              refine jG.blk (st_M_mayGo) 4 (pc1 := 85) (L1 := [(6, (0, v4)), (5, (0, h 26 a1.toNat)), (0, (2, ((24 : Nat) : Int))), (1, (0, a1)), (2, (0, a2)), (3, (0, a3)), (4, (0, a4))]) (st1 := [(0, a3), (0, a2), (0, a1), (2, ((24 : Nat) : Int))]) (h1 := h) rfl ?_
              obtain ⟨v6, hq, hv⟩ := Option.bind_eq_some_iff.mp hv
              refine jT.cV (M1 := M_M_mayCastle) (2, ((24 : Nat) : Int)) [(0, a1), (0, a2), (0, a3)] [] (st_M_mayGo) rfl rfl ok_M_mayCastle rfl (Or.inl ⟨rfl, _, _, _, rfl, rfl⟩) (Nat.le_of_ble_eq_true rfl) (Nat.le_of_ble_eq_true rfl) rfl (Nat.le_of_ble_eq_true rfl) (C_M_mayCastle hq) ?_
              show jG E _ 88 [(6, (0, v4)), (5, (0, h 26 a1.toNat)), (0, (2, ((24 : Nat) : Int))), (1, (0, a1)), (2, (0, a2)), (3, (0, a3)), (4, (0, a4))] [(0, v6)] h _ _
              refine jT.if1 (st_M_mayGo) rfl (tgt := 95) (by decide) (fun hc => ?_) (fun hc => ?_)
              · have hc : v6 = 0 := hc
                try rw [if_pos hc] at hv
                refine jG.blk (st_M_mayGo) 1 (pc1 := 96) (L1 := [(6, (0, v4)), (5, (0, h 26 a1.toNat)), (0, (2, ((24 : Nat) : Int))), (1, (0, a1)), (2, (0, a2)), (3, (0, a3)), (4, (0, a4))]) (st1 := [(0, 0)]) (h1 := h) rfl ?_
                cases hv
                exact jT.iret (st_M_mayGo) rfl (Or.inl rfl)
              · have hc : ¬ (v6 = 0) := hc
                try rw [if_neg hc] at hv
                refine jG.blk (st_M_mayGo) 1 (pc1 := 92) (L1 := [(6, (0, v4)), (5, (0, h 26 a1.toNat)), (0, (2, ((24 : Nat) : Int))), (1, (0, a1)), (2, (0, a2)), (3, (0, a3)), (4, (0, a4))]) (st1 := [(0, 1)]) (h1 := h) rfl ?_
                refine jT.goto (st_M_mayGo) rfl (tgt := 96) (by decide) ?_
                cases hv
                exact jT.iret (st_M_mayGo) rfl (Or.inr rfl)
      · have hc : v4 = 1 := Decidable.not_not.mp hc
        try rw [if_pos hc] at hv
        refine jG.blk (st_M_mayGo) 5 (pc1 := 55) (L1 := [(6, (0, v4)), (5, (0, h 26 a1.toNat)), (0, (2, ((24 : Nat) : Int))), (1, (0, a1)), (2, (0, a2)), (3, (0, a3)), (4, (0, a4))]) (st1 := [(0, a4), (0, a3), (0, a2), (0, a1), (2, ((24 : Nat) : Int))]) (h1 := h) rfl ?_
        obtain ⟨v7, hq, hv⟩ := Option.bind_eq_some_iff.mp hv
        refine jT.cV (M1 := M_M_mayPawn) (2, ((24 : Nat) : Int)) [(0, a1), (0, a2), (0, a3), (0, a4)] [] (st_M_mayGo) rfl rfl ok_M_mayPawn rfl (Or.inl ⟨rfl, _, _, _, rfl, rfl⟩) (Nat.le_of_ble_eq_true rfl) (Nat.le_of_ble_eq_true rfl) rfl (Nat.le_of_ble_eq_true rfl) (C_M_mayPawn hq) ?_
        show jG E _ 58 [(6, (0, v4)), (5, (0, h 26 a1.toNat)), (0, (2, ((24 : Nat) : Int))), (1, (0, a1)), (2, (0, a2)), (3, (0, a3)), (4, (0, a4))] [(0, v7)] h _ _
        obtain ⟨hg, hv⟩ := jgd_some hv
        cases hv
        exact jT.iret (st_M_mayGo) rfl hg
    · have hc : ¬ (v2 = 0) := hc
      try rw [if_neg hc] at hv
      refine jG.blk (st_M_mayGo) 1 (pc1 := 31) (L1 := [(5, (0, h 26 a1.toNat)), (0, (2, ((24 : Nat) : Int))), (1, (0, a1)), (2, (0, a2)), (3, (0, a3)), (4, (0, a4))]) (st1 := [(0, 0)]) (h1 := h) rfl ?_
      cases hv
      exact jT.iret (st_M_mayGo) rfl (Or.inl rfl)
def f_M_isLegal (h : jH) (a1 : Int) (a2 : Int) (a3 : Int) (a4 : Int) : Option (Int × jH) := (f_M_mayGo h a1 a2 a3 a4).bind fun v1 => if v1 = 0 then some (0, h) else (f_M_isSafe h a1 a2 a3 a4).bind fun v2 => some (if v2.1 = 0 then (0, v2.2) else (1, v2.2))
set_option maxRecDepth 100000 in
set_option maxHeartbeats 4000000 in
theorem C_M_isLegal {E : jE} {h : jH} {a1 : Int} {a2 : Int} {a3 : Int} {a4 : Int} {res : Int × jH} (hv : f_M_isLegal h a1 a2 a3 a4 = some res) : jC E M_M_isLegal [(2, ((24 : Nat) : Int)), (0, a1), (0, a2), (0, a3), (0, a4)] h (some (0, res.1)) res.2 := by
  refine jC.of ok_M_isLegal.1 (by rw [jlg]; exact Nat.le_of_ble_eq_true rfl) ?_
  show jG E _ 0 [(0, (2, ((24 : Nat) : Int))), (1, (0, a1)), (2, (0, a2)), (3, (0, a3)), (4, (0, a4))] [] h _ _
  unfold f_M_isLegal at hv
  refine jG.blk (st_M_isLegal) 5 (pc1 := 6) (L1 := [(0, (2, ((24 : Nat) : Int))), (1, (0, a1)), (2, (0, a2)), (3, (0, a3)), (4, (0, a4))]) (st1 := [(0, a4), (0, a3), (0, a2), (0, a1), (2, ((24 : Nat) : Int))]) (h1 := h) rfl ?_
  obtain ⟨v1, hq, hv⟩ := Option.bind_eq_some_iff.mp hv
  refine jT.cV (M1 := M_M_mayGo) (2, ((24 : Nat) : Int)) [(0, a1), (0, a2), (0, a3), (0, a4)] [] (st_M_isLegal) rfl rfl ok_M_mayGo rfl (Or.inl ⟨rfl, _, _, _, rfl, rfl⟩) (Nat.le_of_ble_eq_true rfl) (Nat.le_of_ble_eq_true rfl) rfl (Nat.le_of_ble_eq_true rfl) (C_M_mayGo hq) ?_
  show jG E _ 9 [(0, (2, ((24 : Nat) : Int))), (1, (0, a1)), (2, (0, a2)), (3, (0, a3)), (4, (0, a4))] [(0, v1)] h _ _
  refine jT.if1 (st_M_isLegal) rfl (tgt := 28) (by decide) (fun hc => ?_) (fun hc => ?_)
  · have hc : v1 = 0 := hc
    try rw [if_pos hc] at hv
    refine jG.blk (st_M_isLegal) 1 (pc1 := 29) (L1 := [(0, (2, ((24 : Nat) : Int))), (1, (0, a1)), (2, (0, a2)), (3, (0, a3)), (4, (0, a4))]) (st1 := [(0, 0)]) (h1 := h) rfl ?_
    cases hv
    exact jT.iret (st_M_isLegal) rfl (Or.inl rfl)
  · have hc : ¬ (v1 = 0) := hc
    try rw [if_neg hc] at hv
    refine jG.blk (st_M_isLegal) 5 (pc1 := 18) (L1 := [(0, (2, ((24 : Nat) : Int))), (1, (0, a1)), (2, (0, a2)), (3, (0, a3)), (4, (0, a4))]) (st1 := [(0, a4), (0, a3), (0, a2), (0, a1), (2, ((24 : Nat) : Int))]) (h1 := h) rfl ?_
    obtain ⟨v2, hq, hv⟩ := Option.bind_eq_some_iff.mp hv
    refine jT.cV (M1 := M_M_isSafe) (2, ((24 : Nat) : Int)) [(0, a1), (0, a2), (0, a3), (0, a4)] [] (st_M_isLegal) rfl rfl ok_M_isSafe rfl (Or.inl ⟨rfl, _, _, _, rfl, rfl⟩) (Nat.le_of_ble_eq_true rfl) (Nat.le_of_ble_eq_true rfl) rfl (Nat.le_of_ble_eq_true rfl) (C_M_isSafe hq) ?_
    show jG E _ 21 [(0, (2, ((24 : Nat) : Int))), (1, (0, a1)), (2, (0, a2)), (3, (0, a3)), (4, (0, a4))] [(0, v2.1)] v2.2 _ _
    refine jT.if1 (st_M_isLegal) rfl (tgt := 28) (by decide) (fun hc => ?_) (fun hc => ?_)
    · have hc : v2.1 = 0 := hc
      try rw [if_pos hc] at hv
      refine jG.blk (st_M_isLegal) 1 (pc1 := 29) (L1 := [(0, (2, ((24 : Nat) : Int))), (1, (0, a1)), (2, (0, a2)), (3, (0, a3)), (4, (0, a4))]) (st1 := [(0, 0)]) (h1 := v2.2) rfl ?_
      cases hv
      exact jT.iret (st_M_isLegal) rfl (Or.inl rfl)
    · have hc : ¬ (v2.1 = 0) := hc
      try rw [if_neg hc] at hv
      refine jG.blk (st_M_isLegal) 1 (pc1 := 25) (L1 := [(0, (2, ((24 : Nat) : Int))), (1, (0, a1)), (2, (0, a2)), (3, (0, a3)), (4, (0, a4))]) (st1 := [(0, 1)]) (h1 := v2.2) rfl ?_
      refine jT.goto (st_M_isLegal) rfl (tgt := 29) (by decide) ?_
      cases hv
      exact jT.iret (st_M_isLegal) rfl (Or.inr rfl)
def f_M_movesOf_j51_28 (rc : Int → Int → jH → Option (Int × jH)) (k : Int → Int → jH → Option (Int × jH)) (h10 : jH) (h15 : jH) (x8 : Int) (x9 : Int) (l12 : Int) (l13 : Int) (s14 : Int) : Option (Int × jH) := (f_M_isLegal h15 x8 x9 l13 s14).bind fun v16 => rc (if v16.1 = 0 then l12 else if s14 ≤ 0 then jadd l12 1 else jadd l12 4) (jadd l13 1) v16.2
def f_M_movesOf_lp28 (x8 : Int) (x9 : Int) (k : Int → Int → jH → Option (Int × jH)) : Nat → Int → Int → jH → Option (Int × jH)
  | 0, _, _, _ => none
  | n + 1, l6, l7, h10 => if 64 ≤ l7 then k l6 l7 h10 else (f_M_isLast h10 x8 x9 l7).bind fun v11 => f_M_movesOf_j51_28 (f_M_movesOf_lp28 x8 x9 k n) k h10 h10 x8 x9 l6 l7 (if v11 = 0 then 0 else 1)
def f_M_movesOf_lp4 (x3 : Int) (k : Int → Int → jH → Option (Int × jH)) : Nat → Int → Int → jH → Option (Int × jH)
  | 0, _, _, _ => none
  | n + 1, l1, l2, h4 => if 64 ≤ l2 then k l1 l2 h4 else jgd (0 ≤ x3 ∧ x3 < 304) ((f_M_isOf h4 x3 l2 (h4 26 x3.toNat)).bind fun v5 => if v5 = 0 then f_M_movesOf_lp4 x3 k n l1 (jadd l2 1) h4 else f_M_movesOf_lp28 x3 l2 (fun l17 l18 h19 => f_M_movesOf_lp4 x3 k n l17 (jadd l2 1) h19) 1000 l1 0 h4)
def f_M_movesOf (h : jH) (a1 : Int) : Option (Int × jH) := f_M_movesOf_lp4 a1 (fun l20 l21 h22 => some (l20, h22)) 1000 0 0 h
set_option maxRecDepth 100000 in
set_option maxHeartbeats 4000000 in
theorem f_M_movesOf_j51_28_ok (E : jE) {rc : Int → Int → jH → Option (Int × jH)} {k : Int → Int → jH → Option (Int × jH)} {h10 : jH} {h15 : jH} {x8 : Int} {x9 : Int} (hrc : ∀ (l6 : Int) (l7 : Int) (h10 : jH) (res : Int × jH), rc l6 l7 h10 = some res → jG E M_M_movesOf 28 [(0, (2, ((24 : Nat) : Int))), (1, (0, x8)), (2, (0, l6)), (3, (0, x9)), (4, (0, l7))] [] h10 (some (0, res.1)) res.2) (hk : ∀ (l6 : Int) (l7 : Int) (h10 : jH) (res : Int × jH), k l6 l7 h10 = some res → jG E M_M_movesOf 89 [(0, (2, ((24 : Nat) : Int))), (1, (0, x8)), (2, (0, l6)), (3, (0, x9))] [] h10 (some (0, res.1)) res.2) {l12 : Int} {l13 : Int} {s14 : Int} {res : Int × jH} (hv : f_M_movesOf_j51_28 rc k h10 h15 x8 x9 l12 l13 s14 = some res) : jG E M_M_movesOf 51 [(0, (2, ((24 : Nat) : Int))), (1, (0, x8)), (2, (0, l12)), (3, (0, x9)), (4, (0, l13))] [(0, s14)] h15 (some (0, res.1)) res.2 := by
  unfold f_M_movesOf_j51_28 at hv
  refine jG.blk (st_M_movesOf) 6 (pc1 := 60) (L1 := [(5, (0, s14)), (0, (2, ((24 : Nat) : Int))), (1, (0, x8)), (2, (0, l12)), (3, (0, x9)), (4, (0, l13))]) (st1 := [(0, s14), (0, l13), (0, x9), (0, x8), (2, ((24 : Nat) : Int))]) (h1 := h15) rfl ?_
  obtain ⟨v16, hq, hv⟩ := Option.bind_eq_some_iff.mp hv
  refine jT.cV (M1 := M_M_isLegal) (2, ((24 : Nat) : Int)) [(0, x8), (0, x9), (0, l13), (0, s14)] [] (st_M_movesOf) rfl rfl ok_M_isLegal rfl (Or.inl ⟨rfl, _, _, _, rfl, rfl⟩) (Nat.le_of_ble_eq_true rfl) (Nat.le_of_ble_eq_true rfl) rfl (Nat.le_of_ble_eq_true rfl) (C_M_isLegal hq) ?_
  show jG E _ 63 [(5, (0, s14)), (0, (2, ((24 : Nat) : Int))), (1, (0, x8)), (2, (0, l12)), (3, (0, x9)), (4, (0, l13))] [(0, v16.1)] v16.2 _ _
  refine jT.if1 (st_M_movesOf) rfl (tgt := 81) (by decide) (fun hc => ?_) (fun hc => ?_)
  · have hc : v16.1 = 0 := hc
    try rw [if_pos hc] at hv
    refine jG.blk (st_M_movesOf) 3 (pc1 := 86) (L1 := [(4, (0, jadd l13 1)), (2, (0, l12)), (5, (0, s14)), (0, (2, ((24 : Nat) : Int))), (1, (0, x8)), (3, (0, x9))]) (st1 := []) (h1 := v16.2) rfl ?_
    refine jT.goto (st_M_movesOf) rfl (tgt := 28) (by decide) ?_
    refine jG.subp [3, 4, 1, 5, 0] (L1 := [(0, (2, ((24 : Nat) : Int))), (1, (0, x8)), (2, (0, l12)), (3, (0, x9)), (4, (0, jadd l13 1))]) rfl ?_
    exact hrc _ _ _ _ hv
  · have hc : ¬ (v16.1 = 0) := hc
    try rw [if_neg hc] at hv
    refine jG.blk (st_M_movesOf) 2 (pc1 := 69) (L1 := [(5, (0, s14)), (0, (2, ((24 : Nat) : Int))), (1, (0, x8)), (2, (0, l12)), (3, (0, x9)), (4, (0, l13))]) (st1 := [(0, s14), (0, l12)]) (h1 := v16.2) rfl ?_
    refine jT.if1 (st_M_movesOf) rfl (tgt := 76) (by decide) (fun hc => ?_) (fun hc => ?_)
    · have hc : s14 ≤ 0 := hc
      try rw [if_pos hc] at hv
      refine jG.blk (st_M_movesOf) 2 (pc1 := 78) (L1 := [(5, (0, s14)), (0, (2, ((24 : Nat) : Int))), (1, (0, x8)), (2, (0, l12)), (3, (0, x9)), (4, (0, l13))]) (st1 := [(0, jadd l12 1)]) (h1 := v16.2) rfl ?_
      refine jT.goto (st_M_movesOf) rfl (tgt := 82) (by decide) ?_
      refine jG.blk (st_M_movesOf) 2 (pc1 := 86) (L1 := [(4, (0, jadd l13 1)), (2, (0, jadd l12 1)), (5, (0, s14)), (0, (2, ((24 : Nat) : Int))), (1, (0, x8)), (3, (0, x9))]) (st1 := []) (h1 := v16.2) rfl ?_
      refine jT.goto (st_M_movesOf) rfl (tgt := 28) (by decide) ?_
      refine jG.subp [3, 4, 1, 5, 0] (L1 := [(0, (2, ((24 : Nat) : Int))), (1, (0, x8)), (2, (0, jadd l12 1)), (3, (0, x9)), (4, (0, jadd l13 1))]) rfl ?_
      exact hrc _ _ _ _ hv
    · have hc : ¬ (s14 ≤ 0) := hc
      try rw [if_neg hc] at hv
      refine jG.blk (st_M_movesOf) 1 (pc1 := 73) (L1 := [(5, (0, s14)), (0, (2, ((24 : Nat) : Int))), (1, (0, x8)), (2, (0, l12)), (3, (0, x9)), (4, (0, l13))]) (st1 := [(0, 4), (0, l12)]) (h1 := v16.2) rfl ?_
      refine jT.goto (st_M_movesOf) rfl (tgt := 77) (by decide) ?_
      refine jG.blk (st_M_movesOf) 1 (pc1 := 78) (L1 := [(5, (0, s14)), (0, (2, ((24 : Nat) : Int))), (1, (0, x8)), (2, (0, l12)), (3, (0, x9)), (4, (0, l13))]) (st1 := [(0, jadd l12 4)]) (h1 := v16.2) rfl ?_
      refine jT.goto (st_M_movesOf) rfl (tgt := 82) (by decide) ?_
      refine jG.blk (st_M_movesOf) 2 (pc1 := 86) (L1 := [(4, (0, jadd l13 1)), (2, (0, jadd l12 4)), (5, (0, s14)), (0, (2, ((24 : Nat) : Int))), (1, (0, x8)), (3, (0, x9))]) (st1 := []) (h1 := v16.2) rfl ?_
      refine jT.goto (st_M_movesOf) rfl (tgt := 28) (by decide) ?_
      refine jG.subp [3, 4, 1, 5, 0] (L1 := [(0, (2, ((24 : Nat) : Int))), (1, (0, x8)), (2, (0, jadd l12 4)), (3, (0, x9)), (4, (0, jadd l13 1))]) rfl ?_
      exact hrc _ _ _ _ hv
set_option maxRecDepth 100000 in
set_option maxHeartbeats 4000000 in
theorem f_M_movesOf_lp28_ok (E : jE) {x8 : Int} {x9 : Int} {k : Int → Int → jH → Option (Int × jH)} (hk : ∀ (l6 : Int) (l7 : Int) (h10 : jH) (res : Int × jH), k l6 l7 h10 = some res → jG E M_M_movesOf 89 [(0, (2, ((24 : Nat) : Int))), (1, (0, x8)), (2, (0, l6)), (3, (0, x9))] [] h10 (some (0, res.1)) res.2) : ∀ (n : Nat) (l6 : Int) (l7 : Int) (h10 : jH) (res : Int × jH), f_M_movesOf_lp28 x8 x9 k n l6 l7 h10 = some res → jG E M_M_movesOf 28 [(0, (2, ((24 : Nat) : Int))), (1, (0, x8)), (2, (0, l6)), (3, (0, x9)), (4, (0, l7))] [] h10 (some (0, res.1)) res.2 := by
  intro n
  induction n with
  | zero => intro l6 l7 h10 res hv; cases hv
  | succ n ih =>
    intro l6 l7 h10 res hv
    rw [f_M_movesOf_lp28] at hv
    refine jG.blk (st_M_movesOf) 2 (pc1 := 32) (L1 := [(0, (2, ((24 : Nat) : Int))), (1, (0, x8)), (2, (0, l6)), (3, (0, x9)), (4, (0, l7))]) (st1 := [(0, 64), (0, l7)]) (h1 := h10) rfl ?_
    refine jT.if2 (st_M_movesOf) rfl (tgt := 89) (by decide) (fun hc => ?_) (fun hc => ?_)
    · have hc : 64 ≤ l7 := hc
      try rw [if_pos hc] at hv
      refine jG.subp [0, 1, 2, 3] (L1 := [(0, (2, ((24 : Nat) : Int))), (1, (0, x8)), (2, (0, l6)), (3, (0, x9))]) rfl ?_
      exact hk _ _ _ _ hv
    · have hc : ¬ (64 ≤ l7) := hc
      try rw [if_neg hc] at hv
      refine jG.blk (st_M_movesOf) 4 (pc1 := 40) (L1 := [(0, (2, ((24 : Nat) : Int))), (1, (0, x8)), (2, (0, l6)), (3, (0, x9)), (4, (0, l7))]) (st1 := [(0, l7), (0, x9), (0, x8), (2, ((24 : Nat) : Int))]) (h1 := h10) rfl ?_
      obtain ⟨v11, hq, hv⟩ := Option.bind_eq_some_iff.mp hv
      refine jT.cV (M1 := M_M_isLast) (2, ((24 : Nat) : Int)) [(0, x8), (0, x9), (0, l7)] [] (st_M_movesOf) rfl rfl ok_M_isLast rfl (Or.inl ⟨rfl, _, _, _, rfl, rfl⟩) (Nat.le_of_ble_eq_true rfl) (Nat.le_of_ble_eq_true rfl) rfl (Nat.le_of_ble_eq_true rfl) (C_M_isLast hq) ?_
      show jG E _ 43 [(0, (2, ((24 : Nat) : Int))), (1, (0, x8)), (2, (0, l6)), (3, (0, x9)), (4, (0, l7))] [(0, v11)] h10 _ _
      refine jT.if1 (st_M_movesOf) rfl (tgt := 50) (by decide) (fun hc => ?_) (fun hc => ?_)
      · have hc : v11 = 0 := hc
        try rw [if_pos hc] at hv
        refine jG.blk (st_M_movesOf) 1 (pc1 := 51) (L1 := [(0, (2, ((24 : Nat) : Int))), (1, (0, x8)), (2, (0, l6)), (3, (0, x9)), (4, (0, l7))]) (st1 := [(0, 0)]) (h1 := h10) rfl ?_
        exact f_M_movesOf_j51_28_ok E ih hk hv
      · have hc : ¬ (v11 = 0) := hc
        try rw [if_neg hc] at hv
        refine jG.blk (st_M_movesOf) 1 (pc1 := 47) (L1 := [(0, (2, ((24 : Nat) : Int))), (1, (0, x8)), (2, (0, l6)), (3, (0, x9)), (4, (0, l7))]) (st1 := [(0, 1)]) (h1 := h10) rfl ?_
        refine jT.goto (st_M_movesOf) rfl (tgt := 51) (by decide) ?_
        exact f_M_movesOf_j51_28_ok E ih hk hv
set_option maxRecDepth 100000 in
set_option maxHeartbeats 4000000 in
theorem f_M_movesOf_lp4_ok (E : jE) {x3 : Int} {k : Int → Int → jH → Option (Int × jH)} (hk : ∀ (l1 : Int) (l2 : Int) (h4 : jH) (res : Int × jH), k l1 l2 h4 = some res → jG E M_M_movesOf 95 [(2, (0, l1))] [] h4 (some (0, res.1)) res.2) : ∀ (n : Nat) (l1 : Int) (l2 : Int) (h4 : jH) (res : Int × jH), f_M_movesOf_lp4 x3 k n l1 l2 h4 = some res → jG E M_M_movesOf 4 [(0, (2, ((24 : Nat) : Int))), (1, (0, x3)), (2, (0, l1)), (3, (0, l2))] [] h4 (some (0, res.1)) res.2 := by
  intro n
  induction n with
  | zero => intro l1 l2 h4 res hv; cases hv
  | succ n ih =>
    intro l1 l2 h4 res hv
    rw [f_M_movesOf_lp4] at hv
    refine jG.blk (st_M_movesOf) 2 (pc1 := 7) (L1 := [(0, (2, ((24 : Nat) : Int))), (1, (0, x3)), (2, (0, l1)), (3, (0, l2))]) (st1 := [(0, 64), (0, l2)]) (h1 := h4) rfl ?_
    refine jT.if2 (st_M_movesOf) rfl (tgt := 95) (by decide) (fun hc => ?_) (fun hc => ?_)
    · have hc : 64 ≤ l2 := hc
      try rw [if_pos hc] at hv
      refine jG.subp [2] (L1 := [(2, (0, l1))]) rfl ?_
      exact hk _ _ _ _ hv
    · have hc : ¬ (64 ≤ l2) := hc
      try rw [if_neg hc] at hv
      refine jG.blk (st_M_movesOf) 6 (pc1 := 18) (L1 := [(0, (2, ((24 : Nat) : Int))), (1, (0, x3)), (2, (0, l1)), (3, (0, l2))]) (st1 := [(0, x3), (2, ((26 : Nat) : Int)), (0, l2), (0, x3), (2, ((24 : Nat) : Int))]) (h1 := h4) rfl ?_
      obtain ⟨hg, hv⟩ := jgd_some hv
      refine jT.iald (a := 26) (st_M_movesOf) rfl rfl (by decide) hg.1 hg.2 ?_
      obtain ⟨v5, hq, hv⟩ := Option.bind_eq_some_iff.mp hv
      refine jT.cV (M1 := M_M_isOf) (2, ((24 : Nat) : Int)) [(0, x3), (0, l2), (0, h4 26 x3.toNat)] [] (st_M_movesOf) rfl rfl ok_M_isOf rfl (Or.inl ⟨rfl, _, _, _, rfl, rfl⟩) (Nat.le_of_ble_eq_true rfl) (Nat.le_of_ble_eq_true rfl) rfl (Nat.le_of_ble_eq_true rfl) (C_M_isOf hq) ?_
      show jG E _ 22 [(0, (2, ((24 : Nat) : Int))), (1, (0, x3)), (2, (0, l1)), (3, (0, l2))] [(0, v5)] h4 _ _
      refine jT.if1 (st_M_movesOf) rfl (tgt := 89) (by decide) (fun hc => ?_) (fun hc => ?_)
      · have hc : v5 = 0 := hc
        try rw [if_pos hc] at hv
        refine jG.blk (st_M_movesOf) 1 (pc1 := 92) (L1 := [(3, (0, jadd l2 1)), (0, (2, ((24 : Nat) : Int))), (1, (0, x3)), (2, (0, l1))]) (st1 := []) (h1 := h4) rfl ?_
        refine jT.goto (st_M_movesOf) rfl (tgt := 4) (by decide) ?_
        refine jG.subp [1, 2, 3, 0] (L1 := [(0, (2, ((24 : Nat) : Int))), (1, (0, x3)), (2, (0, l1)), (3, (0, jadd l2 1))]) rfl ?_
        exact ih _ _ _ _ hv
      · have hc : ¬ (v5 = 0) := hc
        try rw [if_neg hc] at hv
        refine jG.blk (st_M_movesOf) 2 (pc1 := 28) (L1 := [(4, (0, 0)), (0, (2, ((24 : Nat) : Int))), (1, (0, x3)), (2, (0, l1)), (3, (0, l2))]) (st1 := []) (h1 := h4) rfl ?_
        refine jG.subp [1, 2, 3, 4, 0] (L1 := [(0, (2, ((24 : Nat) : Int))), (1, (0, x3)), (2, (0, l1)), (3, (0, l2)), (4, (0, 0))]) rfl ?_
        refine f_M_movesOf_lp28_ok E (fun l17 l18 h19 res hv => ?_) 1000 _ _ _ _ hv
        · refine jG.blk (st_M_movesOf) 1 (pc1 := 92) (L1 := [(3, (0, jadd l2 1)), (0, (2, ((24 : Nat) : Int))), (1, (0, x3)), (2, (0, l17))]) (st1 := []) (h1 := h19) rfl ?_
          refine jT.goto (st_M_movesOf) rfl (tgt := 4) (by decide) ?_
          refine jG.subp [1, 2, 3, 0] (L1 := [(0, (2, ((24 : Nat) : Int))), (1, (0, x3)), (2, (0, l17)), (3, (0, jadd l2 1))]) rfl ?_
          exact ih _ _ _ _ hv
set_option maxRecDepth 100000 in
set_option maxHeartbeats 4000000 in
theorem C_M_movesOf {E : jE} {h : jH} {a1 : Int} {res : Int × jH} (hv : f_M_movesOf h a1 = some res) : jC E M_M_movesOf [(2, ((24 : Nat) : Int)), (0, a1)] h (some (0, res.1)) res.2 := by
  refine jC.of ok_M_movesOf.1 (by rw [jlg]; exact Nat.le_of_ble_eq_true rfl) ?_
  show jG E _ 0 [(0, (2, ((24 : Nat) : Int))), (1, (0, a1))] [] h _ _
  unfold f_M_movesOf at hv
  refine jG.blk (st_M_movesOf) 4 (pc1 := 4) (L1 := [(3, (0, 0)), (2, (0, 0)), (0, (2, ((24 : Nat) : Int))), (1, (0, a1))]) (st1 := []) (h1 := h) rfl ?_
  refine jG.subp [2, 3, 1, 0] (L1 := [(0, (2, ((24 : Nat) : Int))), (1, (0, a1)), (2, (0, 0)), (3, (0, 0))]) rfl ?_
  refine f_M_movesOf_lp4_ok E (fun l20 l21 h22 res hv => ?_) 1000 _ _ _ _ hv
  · refine jG.blk (st_M_movesOf) 1 (pc1 := 96) (L1 := [(2, (0, l20))]) (st1 := [(0, l20)]) (h1 := h22) rfl ?_
    cases hv
    exact jT.iret (st_M_movesOf) rfl trivial
def f_M_moves (h : jH) : Option (Int × jH) := if (jup h 24 0 0) 24 8 = 0 then some ((-1), jup h 24 0 0) else (f_M_movesOf (jup h 24 0 0) ((jup h 24 0 0) 24 7)).bind fun v1 => some (v1.1, v1.2)
set_option maxRecDepth 100000 in
set_option maxHeartbeats 4000000 in
theorem C_M_moves {E : jE} {h : jH} {res : Int × jH} (hv : f_M_moves h = some res) : jC E M_M_moves [(2, ((24 : Nat) : Int))] h (some (0, res.1)) res.2 := by
  refine jC.of ok_M_moves.1 (by rw [jlg]; exact Nat.le_of_ble_eq_true rfl) ?_
  show jG E _ 0 [(0, (2, ((24 : Nat) : Int)))] [] h _ _
  unfold f_M_moves at hv
  refine jG.blk (st_M_moves) 5 (pc1 := 9) (L1 := [(0, (2, ((24 : Nat) : Int)))]) (st1 := [(0, (jup h 24 0 0) 24 8)]) (h1 := jup h 24 0 0) rfl ?_
  refine jT.if1 (st_M_moves) rfl (tgt := 23) (by decide) (fun hc => ?_) (fun hc => ?_)
  · have hc : (jup h 24 0 0) 24 8 = 0 := hc
    try rw [if_pos hc] at hv
    refine jG.blk (st_M_moves) 1 (pc1 := 24) (L1 := [(0, (2, ((24 : Nat) : Int)))]) (st1 := [(0, (-1))]) (h1 := jup h 24 0 0) rfl ?_
    cases hv
    exact jT.iret (st_M_moves) rfl trivial
  · have hc : ¬ ((jup h 24 0 0) 24 8 = 0) := hc
    try rw [if_neg hc] at hv
    refine jG.blk (st_M_moves) 3 (pc1 := 17) (L1 := [(0, (2, ((24 : Nat) : Int)))]) (st1 := [(0, (jup h 24 0 0) 24 7), (2, ((24 : Nat) : Int))]) (h1 := jup h 24 0 0) rfl ?_
    obtain ⟨v1, hq, hv⟩ := Option.bind_eq_some_iff.mp hv
    refine jT.cV (M1 := M_M_movesOf) (2, ((24 : Nat) : Int)) [(0, (jup h 24 0 0) 24 7)] [] (st_M_moves) rfl rfl ok_M_movesOf rfl (Or.inl ⟨rfl, _, _, _, rfl, rfl⟩) (Nat.le_of_ble_eq_true rfl) (Nat.le_of_ble_eq_true rfl) rfl (Nat.le_of_ble_eq_true rfl) (C_M_movesOf hq) ?_
    show jG E _ 20 [(0, (2, ((24 : Nat) : Int)))] [(0, v1.1)] v1.2 _ _
    refine jT.goto (st_M_moves) rfl (tgt := 24) (by decide) ?_
    cases hv
    exact jT.iret (st_M_moves) rfl trivial
def f_M_codeOf_lp24 (x14 : Int) (x15 : Int) (x16 : Int) (x17 : Int) (k : Int → Int → jH → Option (Int × jH)) : Nat → Int → Int → jH → Option (Int × jH)
  | 0, _, _, _ => none
  | n + 1, l12, l13, h18 => if 64 ≤ l13 then k l12 l13 h18 else (f_M_isLegal h18 x14 l13 x17 x16).bind fun v19 => if v19.1 = 0 then f_M_codeOf_lp24 x14 x15 x16 x17 k n l12 (jadd l13 1) v19.2 else if l12 = x15 then some (jadd (jadd (jmul 4096 x16) (jmul 64 x17)) l13, v19.2) else f_M_codeOf_lp24 x14 x15 x16 x17 k n (jadd l12 1) (jadd l13 1) v19.2
def f_M_codeOf_lp14 (x8 : Int) (x9 : Int) (x10 : Int) (k : Int → Int → jH → Option (Int × jH)) : Nat → Int → Int → jH → Option (Int × jH)
  | 0, _, _, _ => none
  | n + 1, l6, l7, h11 => if 64 ≤ l7 then k l6 l7 h11 else f_M_codeOf_lp24 x8 x9 x10 l7 (fun l20 l21 h22 => f_M_codeOf_lp14 x8 x9 x10 k n l20 (jadd l7 1) h22) 1000 l6 0 h11
def f_M_codeOf_lp5 (x3 : Int) (x4 : Int) (k : Int → Int → jH → Option (Int × jH)) : Nat → Int → Int → jH → Option (Int × jH)
  | 0, _, _, _ => none
  | n + 1, l1, l2, h5 => if 5 ≤ l2 then k l1 l2 h5 else f_M_codeOf_lp14 x3 x4 l2 (fun l23 l24 h25 => f_M_codeOf_lp5 x3 x4 k n l23 (jadd l2 1) h25) 1000 l1 0 h5
def f_M_codeOf (h : jH) (a1 : Int) (a2 : Int) : Option (Int × jH) := f_M_codeOf_lp5 a1 a2 (fun l26 l27 h28 => some ((-1), h28)) 1000 0 0 h
set_option maxRecDepth 100000 in
set_option maxHeartbeats 4000000 in
theorem f_M_codeOf_lp24_ok (E : jE) {x14 : Int} {x15 : Int} {x16 : Int} {x17 : Int} {k : Int → Int → jH → Option (Int × jH)} (hk : ∀ (l12 : Int) (l13 : Int) (h18 : jH) (res : Int × jH), k l12 l13 h18 = some res → jG E M_M_codeOf 75 [(0, (2, ((24 : Nat) : Int))), (1, (0, x14)), (2, (0, x15)), (3, (0, l12)), (4, (0, x16)), (5, (0, x17))] [] h18 (some (0, res.1)) res.2) : ∀ (n : Nat) (l12 : Int) (l13 : Int) (h18 : jH) (res : Int × jH), f_M_codeOf_lp24 x14 x15 x16 x17 k n l12 l13 h18 = some res → jG E M_M_codeOf 24 [(0, (2, ((24 : Nat) : Int))), (1, (0, x14)), (2, (0, x15)), (3, (0, l12)), (4, (0, x16)), (5, (0, x17)), (6, (0, l13))] [] h18 (some (0, res.1)) res.2 := by
  intro n
  induction n with
  | zero => intro l12 l13 h18 res hv; cases hv
  | succ n ih =>
    intro l12 l13 h18 res hv
    rw [f_M_codeOf_lp24] at hv
    refine jG.blk (st_M_codeOf) 2 (pc1 := 28) (L1 := [(0, (2, ((24 : Nat) : Int))), (1, (0, x14)), (2, (0, x15)), (3, (0, l12)), (4, (0, x16)), (5, (0, x17)), (6, (0, l13))]) (st1 := [(0, 64), (0, l13)]) (h1 := h18) rfl ?_
    refine jT.if2 (st_M_codeOf) rfl (tgt := 75) (by decide) (fun hc => ?_) (fun hc => ?_)
    · have hc : 64 ≤ l13 := hc
      try rw [if_pos hc] at hv
      refine jG.subp [0, 1, 2, 3, 4, 5] (L1 := [(0, (2, ((24 : Nat) : Int))), (1, (0, x14)), (2, (0, x15)), (3, (0, l12)), (4, (0, x16)), (5, (0, x17))]) rfl ?_
      exact hk _ _ _ _ hv
    · have hc : ¬ (64 ≤ l13) := hc
      try rw [if_neg hc] at hv
      refine jG.blk (st_M_codeOf) 5 (pc1 := 39) (L1 := [(0, (2, ((24 : Nat) : Int))), (1, (0, x14)), (2, (0, x15)), (3, (0, l12)), (4, (0, x16)), (5, (0, x17)), (6, (0, l13))]) (st1 := [(0, x16), (0, x17), (0, l13), (0, x14), (2, ((24 : Nat) : Int))]) (h1 := h18) rfl ?_
      obtain ⟨v19, hq, hv⟩ := Option.bind_eq_some_iff.mp hv
      refine jT.cV (M1 := M_M_isLegal) (2, ((24 : Nat) : Int)) [(0, x14), (0, l13), (0, x17), (0, x16)] [] (st_M_codeOf) rfl rfl ok_M_isLegal rfl (Or.inl ⟨rfl, _, _, _, rfl, rfl⟩) (Nat.le_of_ble_eq_true rfl) (Nat.le_of_ble_eq_true rfl) rfl (Nat.le_of_ble_eq_true rfl) (C_M_isLegal hq) ?_
      show jG E _ 42 [(0, (2, ((24 : Nat) : Int))), (1, (0, x14)), (2, (0, x15)), (3, (0, l12)), (4, (0, x16)), (5, (0, x17)), (6, (0, l13))] [(0, v19.1)] v19.2 _ _
      refine jT.if1 (st_M_codeOf) rfl (tgt := 69) (by decide) (fun hc => ?_) (fun hc => ?_)
      · have hc : v19.1 = 0 := hc
        try rw [if_pos hc] at hv
        refine jG.blk (st_M_codeOf) 1 (pc1 := 72) (L1 := [(6, (0, jadd l13 1)), (0, (2, ((24 : Nat) : Int))), (1, (0, x14)), (2, (0, x15)), (3, (0, l12)), (4, (0, x16)), (5, (0, x17))]) (st1 := []) (h1 := v19.2) rfl ?_
        refine jT.goto (st_M_codeOf) rfl (tgt := 24) (by decide) ?_
        refine jG.subp [1, 2, 3, 4, 5, 6, 0] (L1 := [(0, (2, ((24 : Nat) : Int))), (1, (0, x14)), (2, (0, x15)), (3, (0, l12)), (4, (0, x16)), (5, (0, x17)), (6, (0, jadd l13 1))]) rfl ?_
        exact ih _ _ _ _ hv
      · have hc : ¬ (v19.1 = 0) := hc
        try rw [if_neg hc] at hv
        refine jG.blk (st_M_codeOf) 2 (pc1 := 47) (L1 := [(0, (2, ((24 : Nat) : Int))), (1, (0, x14)), (2, (0, x15)), (3, (0, l12)), (4, (0, x16)), (5, (0, x17)), (6, (0, l13))]) (st1 := [(0, x15), (0, l12)]) (h1 := v19.2) rfl ?_
        refine jT.if2 (st_M_codeOf) rfl (tgt := 66) (by decide) (fun hc => ?_) (fun hc => ?_)
        · have hc : ¬ (l12 = x15) := hc
          try rw [if_neg hc] at hv
          refine jG.blk (st_M_codeOf) 2 (pc1 := 72) (L1 := [(6, (0, jadd l13 1)), (3, (0, jadd l12 1)), (0, (2, ((24 : Nat) : Int))), (1, (0, x14)), (2, (0, x15)), (4, (0, x16)), (5, (0, x17))]) (st1 := []) (h1 := v19.2) rfl ?_
          refine jT.goto (st_M_codeOf) rfl (tgt := 24) (by decide) ?_
          refine jG.subp [2, 3, 4, 1, 5, 6, 0] (L1 := [(0, (2, ((24 : Nat) : Int))), (1, (0, x14)), (2, (0, x15)), (3, (0, jadd l12 1)), (4, (0, x16)), (5, (0, x17)), (6, (0, jadd l13 1))]) rfl ?_
          exact ih _ _ _ _ hv
        · have hc : l12 = x15 := Decidable.not_not.mp hc
          try rw [if_pos hc] at hv
          refine jG.blk (st_M_codeOf) 9 (pc1 := 65) (L1 := [(0, (2, ((24 : Nat) : Int))), (1, (0, x14)), (2, (0, x15)), (3, (0, l12)), (4, (0, x16)), (5, (0, x17)), (6, (0, l13))]) (st1 := [(0, jadd (jadd (jmul 4096 x16) (jmul 64 x17)) l13)]) (h1 := v19.2) rfl ?_
          cases hv
          exact jT.iret (st_M_codeOf) rfl trivial
set_option maxRecDepth 100000 in
set_option maxHeartbeats 4000000 in
theorem f_M_codeOf_lp14_ok (E : jE) {x8 : Int} {x9 : Int} {x10 : Int} {k : Int → Int → jH → Option (Int × jH)} (hk : ∀ (l6 : Int) (l7 : Int) (h11 : jH) (res : Int × jH), k l6 l7 h11 = some res → jG E M_M_codeOf 81 [(0, (2, ((24 : Nat) : Int))), (1, (0, x8)), (2, (0, x9)), (3, (0, l6)), (4, (0, x10))] [] h11 (some (0, res.1)) res.2) : ∀ (n : Nat) (l6 : Int) (l7 : Int) (h11 : jH) (res : Int × jH), f_M_codeOf_lp14 x8 x9 x10 k n l6 l7 h11 = some res → jG E M_M_codeOf 14 [(0, (2, ((24 : Nat) : Int))), (1, (0, x8)), (2, (0, x9)), (3, (0, l6)), (4, (0, x10)), (5, (0, l7))] [] h11 (some (0, res.1)) res.2 := by
  intro n
  induction n with
  | zero => intro l6 l7 h11 res hv; cases hv
  | succ n ih =>
    intro l6 l7 h11 res hv
    rw [f_M_codeOf_lp14] at hv
    refine jG.blk (st_M_codeOf) 2 (pc1 := 18) (L1 := [(0, (2, ((24 : Nat) : Int))), (1, (0, x8)), (2, (0, x9)), (3, (0, l6)), (4, (0, x10)), (5, (0, l7))]) (st1 := [(0, 64), (0, l7)]) (h1 := h11) rfl ?_
    refine jT.if2 (st_M_codeOf) rfl (tgt := 81) (by decide) (fun hc => ?_) (fun hc => ?_)
    · have hc : 64 ≤ l7 := hc
      try rw [if_pos hc] at hv
      refine jG.subp [0, 1, 2, 3, 4] (L1 := [(0, (2, ((24 : Nat) : Int))), (1, (0, x8)), (2, (0, x9)), (3, (0, l6)), (4, (0, x10))]) rfl ?_
      exact hk _ _ _ _ hv
    · have hc : ¬ (64 ≤ l7) := hc
      try rw [if_neg hc] at hv
      refine jG.blk (st_M_codeOf) 2 (pc1 := 24) (L1 := [(6, (0, 0)), (0, (2, ((24 : Nat) : Int))), (1, (0, x8)), (2, (0, x9)), (3, (0, l6)), (4, (0, x10)), (5, (0, l7))]) (st1 := []) (h1 := h11) rfl ?_
      refine jG.subp [1, 2, 3, 4, 5, 6, 0] (L1 := [(0, (2, ((24 : Nat) : Int))), (1, (0, x8)), (2, (0, x9)), (3, (0, l6)), (4, (0, x10)), (5, (0, l7)), (6, (0, 0))]) rfl ?_
      refine f_M_codeOf_lp24_ok E (fun l20 l21 h22 res hv => ?_) 1000 _ _ _ _ hv
      · refine jG.blk (st_M_codeOf) 1 (pc1 := 78) (L1 := [(5, (0, jadd l7 1)), (0, (2, ((24 : Nat) : Int))), (1, (0, x8)), (2, (0, x9)), (3, (0, l20)), (4, (0, x10))]) (st1 := []) (h1 := h22) rfl ?_
        refine jT.goto (st_M_codeOf) rfl (tgt := 14) (by decide) ?_
        refine jG.subp [1, 2, 3, 4, 5, 0] (L1 := [(0, (2, ((24 : Nat) : Int))), (1, (0, x8)), (2, (0, x9)), (3, (0, l20)), (4, (0, x10)), (5, (0, jadd l7 1))]) rfl ?_
        exact ih _ _ _ _ hv
set_option maxRecDepth 100000 in
set_option maxHeartbeats 4000000 in
theorem f_M_codeOf_lp5_ok (E : jE) {x3 : Int} {x4 : Int} {k : Int → Int → jH → Option (Int × jH)} (hk : ∀ (l1 : Int) (l2 : Int) (h5 : jH) (res : Int × jH), k l1 l2 h5 = some res → jG E M_M_codeOf 87 [] [] h5 (some (0, res.1)) res.2) : ∀ (n : Nat) (l1 : Int) (l2 : Int) (h5 : jH) (res : Int × jH), f_M_codeOf_lp5 x3 x4 k n l1 l2 h5 = some res → jG E M_M_codeOf 5 [(0, (2, ((24 : Nat) : Int))), (1, (0, x3)), (2, (0, x4)), (3, (0, l1)), (4, (0, l2))] [] h5 (some (0, res.1)) res.2 := by
  intro n
  induction n with
  | zero => intro l1 l2 h5 res hv; cases hv
  | succ n ih =>
    intro l1 l2 h5 res hv
    rw [f_M_codeOf_lp5] at hv
    refine jG.blk (st_M_codeOf) 2 (pc1 := 8) (L1 := [(0, (2, ((24 : Nat) : Int))), (1, (0, x3)), (2, (0, x4)), (3, (0, l1)), (4, (0, l2))]) (st1 := [(0, 5), (0, l2)]) (h1 := h5) rfl ?_
    refine jT.if2 (st_M_codeOf) rfl (tgt := 87) (by decide) (fun hc => ?_) (fun hc => ?_)
    · have hc : 5 ≤ l2 := hc
      try rw [if_pos hc] at hv
      refine jG.subp [] (L1 := []) rfl ?_
      exact hk _ _ _ _ hv
    · have hc : ¬ (5 ≤ l2) := hc
      try rw [if_neg hc] at hv
      refine jG.blk (st_M_codeOf) 2 (pc1 := 14) (L1 := [(5, (0, 0)), (0, (2, ((24 : Nat) : Int))), (1, (0, x3)), (2, (0, x4)), (3, (0, l1)), (4, (0, l2))]) (st1 := []) (h1 := h5) rfl ?_
      refine jG.subp [1, 2, 3, 4, 5, 0] (L1 := [(0, (2, ((24 : Nat) : Int))), (1, (0, x3)), (2, (0, x4)), (3, (0, l1)), (4, (0, l2)), (5, (0, 0))]) rfl ?_
      refine f_M_codeOf_lp14_ok E (fun l23 l24 h25 res hv => ?_) 1000 _ _ _ _ hv
      · refine jG.blk (st_M_codeOf) 1 (pc1 := 84) (L1 := [(4, (0, jadd l2 1)), (0, (2, ((24 : Nat) : Int))), (1, (0, x3)), (2, (0, x4)), (3, (0, l23))]) (st1 := []) (h1 := h25) rfl ?_
        refine jT.goto (st_M_codeOf) rfl (tgt := 5) (by decide) ?_
        refine jG.subp [1, 2, 3, 4, 0] (L1 := [(0, (2, ((24 : Nat) : Int))), (1, (0, x3)), (2, (0, x4)), (3, (0, l23)), (4, (0, jadd l2 1))]) rfl ?_
        exact ih _ _ _ _ hv
set_option maxRecDepth 100000 in
set_option maxHeartbeats 4000000 in
theorem C_M_codeOf {E : jE} {h : jH} {a1 : Int} {a2 : Int} {res : Int × jH} (hv : f_M_codeOf h a1 a2 = some res) : jC E M_M_codeOf [(2, ((24 : Nat) : Int)), (0, a1), (0, a2)] h (some (0, res.1)) res.2 := by
  refine jC.of ok_M_codeOf.1 (by rw [jlg]; exact Nat.le_of_ble_eq_true rfl) ?_
  show jG E _ 0 [(0, (2, ((24 : Nat) : Int))), (1, (0, a1)), (2, (0, a2))] [] h _ _
  unfold f_M_codeOf at hv
  refine jG.blk (st_M_codeOf) 4 (pc1 := 5) (L1 := [(4, (0, 0)), (3, (0, 0)), (0, (2, ((24 : Nat) : Int))), (1, (0, a1)), (2, (0, a2))]) (st1 := []) (h1 := h) rfl ?_
  refine jG.subp [2, 3, 4, 1, 0] (L1 := [(0, (2, ((24 : Nat) : Int))), (1, (0, a1)), (2, (0, a2)), (3, (0, 0)), (4, (0, 0))]) rfl ?_
  refine f_M_codeOf_lp5_ok E (fun l26 l27 h28 res hv => ?_) 1000 _ _ _ _ hv
  · refine jG.blk (st_M_codeOf) 1 (pc1 := 88) (L1 := []) (st1 := [(0, (-1))]) (h1 := h28) rfl ?_
    cases hv
    exact jT.iret (st_M_codeOf) rfl trivial
