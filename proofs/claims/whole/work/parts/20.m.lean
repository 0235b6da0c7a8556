def f_M_clear_lp17 (k : Int → jH → Option (jH)) : Nat → Int → jH → Option (jH)
  | 0, _, _ => none
  | n + 1, l1, h2 => if 64 ≤ l1 then k l1 h2 else jgd (0 ≤ l1 ∧ l1 < 19456 ∧ -128 ≤ (0 : Int) ∧ (0 : Int) < 128) (f_M_clear_lp17 k n (jadd l1 1) (jup h2 25 l1.toNat 0))
def f_M_clear (h : jH) : Option (jH) := f_M_clear_lp17 (fun l3 h4 => jgd (0 ≤ (0 : Int) ∧ (0 : Int) < 304) (jgd (0 ≤ (0 : Int) ∧ (0 : Int) < 304) (jgd (0 ≤ (0 : Int) ∧ (0 : Int) < 304) (jgd (0 ≤ (0 : Int) ∧ (0 : Int) < 304) (some (jup (jup (jup (jup h4 26 0 0) 27 0 0) 28 0 (-1)) 29 0 0)))))) 1000 0 (jup (jup (jup h 24 0 0) 24 7 0) 24 8 0)
set_option maxRecDepth 100000 in
set_option maxHeartbeats 4000000 in
theorem f_M_clear_lp17_ok (E : jE) {k : Int → jH → Option (jH)} (hk : ∀ (l1 : Int) (h2 : jH) (res : jH), k l1 h2 = some res → jG E M_M_clear 36 [(0, (2, ((24 : Nat) : Int)))] [] h2 none res) : ∀ (n : Nat) (l1 : Int) (h2 : jH) (res : jH), f_M_clear_lp17 k n l1 h2 = some res → jG E M_M_clear 17 [(0, (2, ((24 : Nat) : Int))), (1, (0, l1))] [] h2 none res := by
  intro n
  induction n with
  | zero => intro l1 h2 res hv; cases hv
  | succ n ih =>
    intro l1 h2 res hv
    rw [f_M_clear_lp17] at hv
    refine jG.blk (st_M_clear) 2 (pc1 := 20) (L1 := [(0, (2, ((24 : Nat) : Int))), (1, (0, l1))]) (st1 := [(0, 64), (0, l1)]) (h1 := h2) rfl ?_
    refine jT.if2 (st_M_clear) rfl (tgt := 36) (by decide) (fun hc => ?_) (fun hc => ?_)
    · have hc : 64 ≤ l1 := hc
      try rw [if_pos hc] at hv
      refine jG.subp [0] (L1 := [(0, (2, ((24 : Nat) : Int)))]) rfl ?_
      exact hk _ _ _ hv
    · have hc : ¬ (64 ≤ l1) := hc
      try rw [if_neg hc] at hv
      refine jG.blk (st_M_clear) 4 (pc1 := 29) (L1 := [(0, (2, ((24 : Nat) : Int))), (1, (0, l1))]) (st1 := [(0, 0), (0, l1), (2, ((25 : Nat) : Int))]) (h1 := h2) rfl ?_
      obtain ⟨hg, hv⟩ := jgd_some hv
      refine jT.bast (a := 25) (st_M_clear) rfl rfl (by decide) hg.1 hg.2.1 hg.2.2.1 hg.2.2.2 ?_
      refine jG.blk (st_M_clear) 1 (pc1 := 33) (L1 := [(1, (0, jadd l1 1)), (0, (2, ((24 : Nat) : Int)))]) (st1 := []) (h1 := jup h2 25 l1.toNat 0) rfl ?_
      refine jT.goto (st_M_clear) rfl (tgt := 17) (by decide) ?_
      refine jG.subp [1, 0] (L1 := [(0, (2, ((24 : Nat) : Int))), (1, (0, jadd l1 1))]) rfl ?_
      exact ih _ _ _ hv
set_option maxRecDepth 100000 in
set_option maxHeartbeats 4000000 in
theorem C_M_clear {E : jE} {h : jH} {res : jH} (hv : f_M_clear h = some res) : jC E M_M_clear [(2, ((24 : Nat) : Int))] h none res := by
  refine jC.of ok_M_clear.1 (by rw [jlg]; exact Nat.le_of_ble_eq_true rfl) ?_
  show jG E _ 0 [(0, (2, ((24 : Nat) : Int)))] [] h _ _
  unfold f_M_clear at hv
  refine jG.blk (st_M_clear) 11 (pc1 := 17) (L1 := [(1, (0, 0)), (0, (2, ((24 : Nat) : Int)))]) (st1 := []) (h1 := jup (jup (jup h 24 0 0) 24 7 0) 24 8 0) rfl ?_
  refine jG.subp [1, 0] (L1 := [(0, (2, ((24 : Nat) : Int))), (1, (0, 0))]) rfl ?_
  refine f_M_clear_lp17_ok E (fun l3 h4 res hv => ?_) 1000 _ _ _ hv
  · refine jG.blk (st_M_clear) 4 (pc1 := 42) (L1 := [(0, (2, ((24 : Nat) : Int)))]) (st1 := [(0, 0), (0, 0), (2, ((26 : Nat) : Int))]) (h1 := h4) rfl ?_
    obtain ⟨hg, hv⟩ := jgd_some hv
    refine jT.iast (a := 26) (st_M_clear) rfl rfl (by decide) hg.1 hg.2 ?_
    refine jG.blk (st_M_clear) 4 (pc1 := 49) (L1 := [(0, (2, ((24 : Nat) : Int)))]) (st1 := [(0, 0), (0, 0), (2, ((27 : Nat) : Int))]) (h1 := jup h4 26 0 0) rfl ?_
    obtain ⟨hg, hv⟩ := jgd_some hv
    refine jT.iast (a := 27) (st_M_clear) rfl rfl (by decide) hg.1 hg.2 ?_
    refine jG.blk (st_M_clear) 4 (pc1 := 56) (L1 := [(0, (2, ((24 : Nat) : Int)))]) (st1 := [(0, (-1)), (0, 0), (2, ((28 : Nat) : Int))]) (h1 := jup (jup h4 26 0 0) 27 0 0) rfl ?_
    obtain ⟨hg, hv⟩ := jgd_some hv
    refine jT.iast (a := 28) (st_M_clear) rfl rfl (by decide) hg.1 hg.2 ?_
    refine jG.blk (st_M_clear) 4 (pc1 := 63) (L1 := [(0, (2, ((24 : Nat) : Int)))]) (st1 := [(0, 0), (0, 0), (2, ((29 : Nat) : Int))]) (h1 := jup (jup (jup h4 26 0 0) 27 0 0) 28 0 (-1)) rfl ?_
    obtain ⟨hg, hv⟩ := jgd_some hv
    refine jT.iast (a := 29) (st_M_clear) rfl rfl (by decide) hg.1 hg.2 ?_
    cases hv
    exact jT.vret (st_M_clear) rfl trivial
def f_M_copy_lp2 (x2 : Int) (x3 : Int) (k : Int → jH → Option (jH)) : Nat → Int → jH → Option (jH)
  | 0, _, _ => none
  | n + 1, l1, h4 => if 64 ≤ l1 then k l1 h4 else jgd (0 ≤ jadd (jmul 64 x2) l1 ∧ jadd (jmul 64 x2) l1 < 19456) (jgd (0 ≤ jadd (jmul 64 x3) l1 ∧ jadd (jmul 64 x3) l1 < 19456 ∧ -128 ≤ h4 25 (jadd (jmul 64 x2) l1).toNat ∧ h4 25 (jadd (jmul 64 x2) l1).toNat < 128) (f_M_copy_lp2 x2 x3 k n (jadd l1 1) (jup h4 25 (jadd (jmul 64 x3) l1).toNat (h4 25 (jadd (jmul 64 x2) l1).toNat))))
def f_M_copy (h : jH) (a1 : Int) (a2 : Int) : Option (jH) := f_M_copy_lp2 a1 a2 (fun l5 h6 => jgd (0 ≤ a1 ∧ a1 < 304) (jgd (0 ≤ a2 ∧ a2 < 304) (jgd (0 ≤ a1 ∧ a1 < 304) (jgd (0 ≤ a2 ∧ a2 < 304) (jgd (0 ≤ a1 ∧ a1 < 304) (jgd (0 ≤ a2 ∧ a2 < 304) (jgd (0 ≤ a1 ∧ a1 < 304) (jgd (0 ≤ a2 ∧ a2 < 304) (some (jup (jup (jup (jup h6 26 a2.toNat (h6 26 a1.toNat)) 27 a2.toNat ((jup h6 26 a2.toNat (h6 26 a1.toNat)) 27 a1.toNat)) 28 a2.toNat ((jup (jup h6 26 a2.toNat (h6 26 a1.toNat)) 27 a2.toNat ((jup h6 26 a2.toNat (h6 26 a1.toNat)) 27 a1.toNat)) 28 a1.toNat)) 29 a2.toNat ((jup (jup (jup h6 26 a2.toNat (h6 26 a1.toNat)) 27 a2.toNat ((jup h6 26 a2.toNat (h6 26 a1.toNat)) 27 a1.toNat)) 28 a2.toNat ((jup (jup h6 26 a2.toNat (h6 26 a1.toNat)) 27 a2.toNat ((jup h6 26 a2.toNat (h6 26 a1.toNat)) 27 a1.toNat)) 28 a1.toNat)) 29 a1.toNat))))))))))) 1000 0 h
set_option maxRecDepth 100000 in
set_option maxHeartbeats 4000000 in
theorem f_M_copy_lp2_ok (E : jE) {x2 : Int} {x3 : Int} {k : Int → jH → Option (jH)} (hk : ∀ (l1 : Int) (h4 : jH) (res : jH), k l1 h4 = some res → jG E M_M_copy 36 [(0, (2, ((24 : Nat) : Int))), (1, (0, x2)), (2, (0, x3))] [] h4 none res) : ∀ (n : Nat) (l1 : Int) (h4 : jH) (res : jH), f_M_copy_lp2 x2 x3 k n l1 h4 = some res → jG E M_M_copy 2 [(0, (2, ((24 : Nat) : Int))), (1, (0, x2)), (2, (0, x3)), (3, (0, l1))] [] h4 none res := by
  intro n
  induction n with
  | zero => intro l1 h4 res hv; cases hv
  | succ n ih =>
    intro l1 h4 res hv
    rw [f_M_copy_lp2] at hv
    refine jG.blk (st_M_copy) 2 (pc1 := 5) (L1 := [(0, (2, ((24 : Nat) : Int))), (1, (0, x2)), (2, (0, x3)), (3, (0, l1))]) (st1 := [(0, 64), (0, l1)]) (h1 := h4) rfl ?_
    refine jT.if2 (st_M_copy) rfl (tgt := 36) (by decide) (fun hc => ?_) (fun hc => ?_)
    · have hc : 64 ≤ l1 := hc
      try rw [if_pos hc] at hv
      refine jG.subp [0, 1, 2] (L1 := [(0, (2, ((24 : Nat) : Int))), (1, (0, x2)), (2, (0, x3))]) rfl ?_
      exact hk _ _ _ hv
    · have hc : ¬ (64 ≤ l1) := hc
      try rw [if_neg hc] at hv
      refine jG.blk (st_M_copy) 14 (pc1 := 28) (L1 := [(0, (2, ((24 : Nat) : Int))), (1, (0, x2)), (2, (0, x3)), (3, (0, l1))]) (st1 := [(0, jadd (jmul 64 x2) l1), (2, ((25 : Nat) : Int)), (0, jadd (jmul 64 x3) l1), (2, ((25 : Nat) : Int))]) (h1 := h4) rfl ?_
      obtain ⟨hg, hv⟩ := jgd_some hv
      refine jT.bald (a := 25) (st_M_copy) rfl rfl (by decide) hg.1 hg.2 ?_
      obtain ⟨hg, hv⟩ := jgd_some hv
      refine jT.bast (a := 25) (st_M_copy) rfl rfl (by decide) hg.1 hg.2.1 hg.2.2.1 hg.2.2.2 ?_
      refine jG.blk (st_M_copy) 1 (pc1 := 33) (L1 := [(3, (0, jadd l1 1)), (0, (2, ((24 : Nat) : Int))), (1, (0, x2)), (2, (0, x3))]) (st1 := []) (h1 := jup h4 25 (jadd (jmul 64 x3) l1).toNat (h4 25 (jadd (jmul 64 x2) l1).toNat)) rfl ?_
      refine jT.goto (st_M_copy) rfl (tgt := 2) (by decide) ?_
      refine jG.subp [1, 2, 3, 0] (L1 := [(0, (2, ((24 : Nat) : Int))), (1, (0, x2)), (2, (0, x3)), (3, (0, jadd l1 1))]) rfl ?_
      exact ih _ _ _ hv
set_option maxRecDepth 100000 in
set_option maxHeartbeats 4000000 in
theorem C_M_copy {E : jE} {h : jH} {a1 : Int} {a2 : Int} {res : jH} (hv : f_M_copy h a1 a2 = some res) : jC E M_M_copy [(2, ((24 : Nat) : Int)), (0, a1), (0, a2)] h none res := by
  refine jC.of ok_M_copy.1 (by rw [jlg]; exact Nat.le_of_ble_eq_true rfl) ?_
  show jG E _ 0 [(0, (2, ((24 : Nat) : Int))), (1, (0, a1)), (2, (0, a2))] [] h _ _
  unfold f_M_copy at hv
  refine jG.blk (st_M_copy) 2 (pc1 := 2) (L1 := [(3, (0, 0)), (0, (2, ((24 : Nat) : Int))), (1, (0, a1)), (2, (0, a2))]) (st1 := []) (h1 := h) rfl ?_
  refine jG.subp [1, 2, 3, 0] (L1 := [(0, (2, ((24 : Nat) : Int))), (1, (0, a1)), (2, (0, a2)), (3, (0, 0))]) rfl ?_
  refine f_M_copy_lp2_ok E (fun l5 h6 res hv => ?_) 1000 _ _ _ hv
  · refine jG.blk (st_M_copy) 6 (pc1 := 46) (L1 := [(0, (2, ((24 : Nat) : Int))), (1, (0, a1)), (2, (0, a2))]) (st1 := [(0, a1), (2, ((26 : Nat) : Int)), (0, a2), (2, ((26 : Nat) : Int))]) (h1 := h6) rfl ?_
    obtain ⟨hg, hv⟩ := jgd_some hv
    refine jT.iald (a := 26) (st_M_copy) rfl rfl (by decide) hg.1 hg.2 ?_
    obtain ⟨hg, hv⟩ := jgd_some hv
    refine jT.iast (a := 26) (st_M_copy) rfl rfl (by decide) hg.1 hg.2 ?_
    refine jG.blk (st_M_copy) 6 (pc1 := 58) (L1 := [(0, (2, ((24 : Nat) : Int))), (1, (0, a1)), (2, (0, a2))]) (st1 := [(0, a1), (2, ((27 : Nat) : Int)), (0, a2), (2, ((27 : Nat) : Int))]) (h1 := jup h6 26 a2.toNat (h6 26 a1.toNat)) rfl ?_
    obtain ⟨hg, hv⟩ := jgd_some hv
    refine jT.iald (a := 27) (st_M_copy) rfl rfl (by decide) hg.1 hg.2 ?_
    obtain ⟨hg, hv⟩ := jgd_some hv
    refine jT.iast (a := 27) (st_M_copy) rfl rfl (by decide) hg.1 hg.2 ?_
    refine jG.blk (st_M_copy) 6 (pc1 := 70) (L1 := [(0, (2, ((24 : Nat) : Int))), (1, (0, a1)), (2, (0, a2))]) (st1 := [(0, a1), (2, ((28 : Nat) : Int)), (0, a2), (2, ((28 : Nat) : Int))]) (h1 := jup (jup h6 26 a2.toNat (h6 26 a1.toNat)) 27 a2.toNat ((jup h6 26 a2.toNat (h6 26 a1.toNat)) 27 a1.toNat)) rfl ?_
    obtain ⟨hg, hv⟩ := jgd_some hv
    refine jT.iald (a := 28) (st_M_copy) rfl rfl (by decide) hg.1 hg.2 ?_
    obtain ⟨hg, hv⟩ := jgd_some hv
    refine jT.iast (a := 28) (st_M_copy) rfl rfl (by decide) hg.1 hg.2 ?_
    refine jG.blk (st_M_copy) 6 (pc1 := 82) (L1 := [(0, (2, ((24 : Nat) : Int))), (1, (0, a1)), (2, (0, a2))]) (st1 := [(0, a1), (2, ((29 : Nat) : Int)), (0, a2), (2, ((29 : Nat) : Int))]) (h1 := jup (jup (jup h6 26 a2.toNat (h6 26 a1.toNat)) 27 a2.toNat ((jup h6 26 a2.toNat (h6 26 a1.toNat)) 27 a1.toNat)) 28 a2.toNat ((jup (jup h6 26 a2.toNat (h6 26 a1.toNat)) 27 a2.toNat ((jup h6 26 a2.toNat (h6 26 a1.toNat)) 27 a1.toNat)) 28 a1.toNat)) rfl ?_
    obtain ⟨hg, hv⟩ := jgd_some hv
    refine jT.iald (a := 29) (st_M_copy) rfl rfl (by decide) hg.1 hg.2 ?_
    obtain ⟨hg, hv⟩ := jgd_some hv
    refine jT.iast (a := 29) (st_M_copy) rfl rfl (by decide) hg.1 hg.2 ?_
    cases hv
    exact jT.vret (st_M_copy) rfl trivial
def f_M_put (h : jH) (a1 : Int) (a2 : Int) : Option (Int × jH) := if a1 < 0 then some (0, jup h 24 0 0) else if 63 < a1 then some (0, jup h 24 0 0) else if a2 < 0 then some (0, jup h 24 0 0) else if a2 ≤ 12 then (f_M_copy (jup h 24 0 0) ((jup h 24 0 0) 24 7) 0).bind fun v1 => jgd (0 ≤ a1 ∧ a1 < 19456 ∧ -128 ≤ ji2b a2 ∧ ji2b a2 < 128) (some (1, jup (jup (jup v1 24 7 0) 24 8 0) 25 a1.toNat (ji2b a2))) else some (0, jup h 24 0 0)
set_option maxRecDepth 100000 in
set_option maxHeartbeats 4000000 in
theorem C_M_put {E : jE} {h : jH} {a1 : Int} {a2 : Int} {res : Int × jH} (hv : f_M_put h a1 a2 = some res) : jC E M_M_put [(2, ((24 : Nat) : Int)), (0, a1), (0, a2)] h (some (0, res.1)) res.2 := by
  refine jC.of ok_M_put.1 (by rw [jlg]; exact Nat.le_of_ble_eq_true rfl) ?_
  show jG E _ 0 [(0, (2, ((24 : Nat) : Int))), (1, (0, a1)), (2, (0, a2))] [] h _ _
  unfold f_M_put at hv
  refine jG.blk (st_M_put) 4 (pc1 := 6) (L1 := [(0, (2, ((24 : Nat) : Int))), (1, (0, a1)), (2, (0, a2))]) (st1 := [(0, a1)]) (h1 := jup h 24 0 0) rfl ?_
  refine jT.if1 (st_M_put) rfl (tgt := 25) (by decide) (fun hc => ?_) (fun hc => ?_)
  · have hc : a1 < 0 := hc
    try rw [if_pos hc] at hv
    refine jG.blk (st_M_put) 1 (pc1 := 26) (L1 := [(0, (2, ((24 : Nat) : Int))), (1, (0, a1)), (2, (0, a2))]) (st1 := [(0, 0)]) (h1 := jup h 24 0 0) rfl ?_
    cases hv
    exact jT.iret (st_M_put) rfl trivial
  · have hc : ¬ (a1 < 0) := hc
    try rw [if_neg hc] at hv
    refine jG.blk (st_M_put) 2 (pc1 := 12) (L1 := [(0, (2, ((24 : Nat) : Int))), (1, (0, a1)), (2, (0, a2))]) (st1 := [(0, 63), (0, a1)]) (h1 := jup h 24 0 0) rfl ?_
    refine jT.if2 (st_M_put) rfl (tgt := 25) (by decide) (fun hc => ?_) (fun hc => ?_)
    · have hc : 63 < a1 := hc
      try rw [if_pos hc] at hv
      refine jG.blk (st_M_put) 1 (pc1 := 26) (L1 := [(0, (2, ((24 : Nat) : Int))), (1, (0, a1)), (2, (0, a2))]) (st1 := [(0, 0)]) (h1 := jup h 24 0 0) rfl ?_
      cases hv
      exact jT.iret (st_M_put) rfl trivial
    · have hc : ¬ (63 < a1) := hc
      try rw [if_neg hc] at hv
      refine jG.blk (st_M_put) 1 (pc1 := 16) (L1 := [(0, (2, ((24 : Nat) : Int))), (1, (0, a1)), (2, (0, a2))]) (st1 := [(0, a2)]) (h1 := jup h 24 0 0) rfl ?_
      refine jT.if1 (st_M_put) rfl (tgt := 25) (by decide) (fun hc => ?_) (fun hc => ?_)
      · have hc : a2 < 0 := hc
        try rw [if_pos hc] at hv
        refine jG.blk (st_M_put) 1 (pc1 := 26) (L1 := [(0, (2, ((24 : Nat) : Int))), (1, (0, a1)), (2, (0, a2))]) (st1 := [(0, 0)]) (h1 := jup h 24 0 0) rfl ?_
        cases hv
        exact jT.iret (st_M_put) rfl trivial
      · have hc : ¬ (a2 < 0) := hc
        try rw [if_neg hc] at hv
        refine jG.blk (st_M_put) 2 (pc1 := 22) (L1 := [(0, (2, ((24 : Nat) : Int))), (1, (0, a1)), (2, (0, a2))]) (st1 := [(0, 12), (0, a2)]) (h1 := jup h 24 0 0) rfl ?_
        refine jT.if2 (st_M_put) rfl (tgt := 27) (by decide) (fun hc => ?_) (fun hc => ?_)
        · have hc : a2 ≤ 12 := hc
          try rw [if_pos hc] at hv
          refine jG.blk (st_M_put) 4 (pc1 := 33) (L1 := [(0, (2, ((24 : Nat) : Int))), (1, (0, a1)), (2, (0, a2))]) (st1 := [(0, 0), (0, (jup h 24 0 0) 24 7), (2, ((24 : Nat) : Int))]) (h1 := jup h 24 0 0) rfl ?_
          obtain ⟨v1, hq, hv⟩ := Option.bind_eq_some_iff.mp hv
          refine jT.cV (M1 := M_M_copy) (2, ((24 : Nat) : Int)) [(0, (jup h 24 0 0) 24 7), (0, 0)] [] (st_M_put) rfl rfl ok_M_copy rfl (Or.inl ⟨rfl, _, _, _, rfl, rfl⟩) (Nat.le_of_ble_eq_true rfl) (Nat.le_of_ble_eq_true rfl) rfl (Nat.le_of_ble_eq_true rfl) (C_M_copy hq) ?_
          show jG E _ 36 [(0, (2, ((24 : Nat) : Int))), (1, (0, a1)), (2, (0, a2))] [] v1 _ _
          refine jG.blk (st_M_put) 11 (pc1 := 53) (L1 := [(0, (2, ((24 : Nat) : Int))), (1, (0, a1)), (2, (0, a2))]) (st1 := [(0, ji2b a2), (0, a1), (2, ((25 : Nat) : Int))]) (h1 := jup (jup v1 24 7 0) 24 8 0) rfl ?_
          obtain ⟨hg, hv⟩ := jgd_some hv
          refine jT.bast (a := 25) (st_M_put) rfl rfl (by decide) hg.1 hg.2.1 hg.2.2.1 hg.2.2.2 ?_
          refine jG.blk (st_M_put) 1 (pc1 := 55) (L1 := [(0, (2, ((24 : Nat) : Int))), (1, (0, a1)), (2, (0, a2))]) (st1 := [(0, 1)]) (h1 := jup (jup (jup v1 24 7 0) 24 8 0) 25 a1.toNat (ji2b a2)) rfl ?_
          cases hv
          exact jT.iret (st_M_put) rfl trivial
        · have hc : ¬ (a2 ≤ 12) := hc
          try rw [if_neg hc] at hv
          refine jG.blk (st_M_put) 1 (pc1 := 26) (L1 := [(0, (2, ((24 : Nat) : Int))), (1, (0, a1)), (2, (0, a2))]) (st1 := [(0, 0)]) (h1 := jup h 24 0 0) rfl ?_
          cases hv
          exact jT.iret (st_M_put) rfl trivial
def f_M_piece (h : jH) (a1 : Int) (a2 : Int) : Option (Int) := jgd (0 ≤ jadd (jmul 64 a1) a2 ∧ jadd (jmul 64 a1) a2 < 19456) (some (h 25 (jadd (jmul 64 a1) a2).toNat))
set_option maxRecDepth 100000 in
set_option maxHeartbeats 4000000 in
theorem C_M_piece {E : jE} {h : jH} {a1 : Int} {a2 : Int} {res : Int} (hv : f_M_piece h a1 a2 = some res) : jC E M_M_piece [(2, ((24 : Nat) : Int)), (0, a1), (0, a2)] h (some (0, res)) h := by
  refine jC.of ok_M_piece.1 (by rw [jlg]; exact Nat.le_of_ble_eq_true rfl) ?_
  show jG E _ 0 [(0, (2, ((24 : Nat) : Int))), (1, (0, a1)), (2, (0, a2))] [] h _ _
  unfold f_M_piece at hv
  refine jG.blk (st_M_piece) 7 (pc1 := 10) (L1 := [(0, (2, ((24 : Nat) : Int))), (1, (0, a1)), (2, (0, a2))]) (st1 := [(0, jadd (jmul 64 a1) a2), (2, ((25 : Nat) : Int))]) (h1 := h) rfl ?_
  obtain ⟨hg, hv⟩ := jgd_some hv
  refine jT.bald (a := 25) (st_M_piece) rfl rfl (by decide) hg.1 hg.2 ?_
  cases hv
  exact jT.iret (st_M_piece) rfl trivial
def f_M_kindOf (h : jH) (a0 : Int) : Option (Int) := some (if a0 ≤ 6 then a0 else jsub a0 6)
set_option maxRecDepth 100000 in
set_option maxHeartbeats 4000000 in
theorem C_M_kindOf {E : jE} {h : jH} {a0 : Int} {res : Int} (hv : f_M_kindOf h a0 = some res) : jC E M_M_kindOf [(0, a0)] h (some (0, res)) h := by
  refine jC.of ok_M_kindOf.1 (by rw [jlg]; exact Nat.le_of_ble_eq_true rfl) ?_
  show jG E _ 0 [(0, (0, a0))] [] h _ _
  unfold f_M_kindOf at hv
  refine jG.blk (st_M_kindOf) 2 (pc1 := 3) (L1 := [(0, (0, a0))]) (st1 := [(0, 6), (0, a0)]) (h1 := h) rfl ?_
  refine jT.if2 (st_M_kindOf) rfl (tgt := 13) (by decide) (fun hc => ?_) (fun hc => ?_)
  · have hc : a0 ≤ 6 := hc
    try rw [if_pos hc] at hv
    refine jG.blk (st_M_kindOf) 1 (pc1 := 14) (L1 := [(0, (0, a0))]) (st1 := [(0, a0)]) (h1 := h) rfl ?_
    cases hv
    exact jT.iret (st_M_kindOf) rfl trivial
  · have hc : ¬ (a0 ≤ 6) := hc
    try rw [if_neg hc] at hv
    refine jG.blk (st_M_kindOf) 3 (pc1 := 10) (L1 := [(0, (0, a0))]) (st1 := [(0, jsub a0 6)]) (h1 := h) rfl ?_
    refine jT.goto (st_M_kindOf) rfl (tgt := 14) (by decide) ?_
    cases hv
    exact jT.iret (st_M_kindOf) rfl trivial
def f_M_hasKings_j55_10 (rc : Int → Int → Int → Int → Option (Int)) (k : Int → Int → Int → Int → Option (Int)) (h : jH) (x5 : Int) (l12 : Int) (l13 : Int) (l14 : Int) (l15 : Int) (s16 : Int) : Option (Int) := if l13 = 0 then rc l12 s16 0 (jadd l14 1) else (f_M_kindOf h l15).bind fun v17 => rc l12 s16 (if v17 = 1 then if l14 < 8 then 0 else if 55 < l14 then 0 else 1 else 1) (jadd l14 1)
def f_M_hasKings_j40_10 (rc : Int → Int → Int → Int → Option (Int)) (k : Int → Int → Int → Int → Option (Int)) (h : jH) (x5 : Int) (l7 : Int) (l8 : Int) (l9 : Int) (l10 : Int) (s11 : Int) : Option (Int) := f_M_hasKings_j55_10 rc k h x5 s11 l8 l9 l10 (if l10 = 12 then jadd l7 1 else l7)
def f_M_hasKings_lp10 (h : jH) (x5 : Int) (k : Int → Int → Int → Int → Option (Int)) : Nat → Int → Int → Int → Int → Option (Int)
  | 0, _, _, _, _ => none
  | n + 1, l1, l2, l3, l4 => if 64 ≤ l4 then k l1 l2 l3 l4 else (f_M_piece h x5 l4).bind fun v6 => f_M_hasKings_j40_10 (f_M_hasKings_lp10 h x5 k n) k h x5 l2 l3 l4 v6 (if v6 = 6 then jadd l1 1 else l1)
def f_M_hasKings (h : jH) (a1 : Int) : Option (Int) := f_M_hasKings_lp10 h a1 (fun l18 l19 l20 l21 => some (if l18 = 1 then if l19 = 1 then if l20 = 0 then 0 else 1 else 0 else 0)) 1000 0 0 1 0
set_option maxRecDepth 100000 in
set_option maxHeartbeats 4000000 in
theorem f_M_hasKings_j55_10_ok (E : jE) {rc : Int → Int → Int → Int → Option (Int)} {k : Int → Int → Int → Int → Option (Int)} {h : jH} {x5 : Int} (hrc : ∀ (l1 : Int) (l2 : Int) (l3 : Int) (l4 : Int) (res : Int), rc l1 l2 l3 l4 = some res → jG E M_M_hasKings 10 [(0, (2, ((24 : Nat) : Int))), (1, (0, x5)), (2, (0, l1)), (3, (0, l2)), (4, (0, l3)), (5, (0, l4))] [] h (some (0, res)) h) (hk : ∀ (l1 : Int) (l2 : Int) (l3 : Int) (l4 : Int) (res : Int), k l1 l2 l3 l4 = some res → jG E M_M_hasKings 97 [(2, (0, l1)), (3, (0, l2)), (4, (0, l3))] [] h (some (0, res)) h) {l12 : Int} {l13 : Int} {l14 : Int} {l15 : Int} {s16 : Int} {res : Int} (hv : f_M_hasKings_j55_10 rc k h x5 l12 l13 l14 l15 s16 = some res) : jG E M_M_hasKings 55 [(0, (2, ((24 : Nat) : Int))), (1, (0, x5)), (2, (0, l12)), (4, (0, l13)), (5, (0, l14)), (6, (0, l15))] [(0, s16)] h (some (0, res)) h := by
  unfold f_M_hasKings_j55_10 at hv
  refine jG.blk (st_M_hasKings) 2 (pc1 := 58) (L1 := [(3, (0, s16)), (0, (2, ((24 : Nat) : Int))), (1, (0, x5)), (2, (0, l12)), (4, (0, l13)), (5, (0, l14)), (6, (0, l15))]) (st1 := [(0, l13)]) (h1 := h) rfl ?_
  refine jT.if1 (st_M_hasKings) rfl (tgt := 88) (by decide) (fun hc => ?_) (fun hc => ?_)
  · have hc : l13 = 0 := hc
    try rw [if_pos hc] at hv
    refine jG.blk (st_M_hasKings) 3 (pc1 := 94) (L1 := [(5, (0, jadd l14 1)), (4, (0, 0)), (3, (0, s16)), (0, (2, ((24 : Nat) : Int))), (1, (0, x5)), (2, (0, l12)), (6, (0, l15))]) (st1 := []) (h1 := h) rfl ?_
    refine jT.goto (st_M_hasKings) rfl (tgt := 10) (by decide) ?_
    refine jG.subp [3, 4, 5, 2, 1, 0] (L1 := [(0, (2, ((24 : Nat) : Int))), (1, (0, x5)), (2, (0, l12)), (3, (0, s16)), (4, (0, 0)), (5, (0, jadd l14 1))]) rfl ?_
    exact hrc _ _ _ _ _ hv
  · have hc : ¬ (l13 = 0) := hc
    try rw [if_neg hc] at hv
    refine jG.blk (st_M_hasKings) 1 (pc1 := 63) (L1 := [(3, (0, s16)), (0, (2, ((24 : Nat) : Int))), (1, (0, x5)), (2, (0, l12)), (4, (0, l13)), (5, (0, l14)), (6, (0, l15))]) (st1 := [(0, l15)]) (h1 := h) rfl ?_
    obtain ⟨v17, hq, hv⟩ := Option.bind_eq_some_iff.mp hv
    refine jT.cS (M1 := M_M_kindOf) [(0, l15)] [] (st_M_hasKings) rfl rfl ok_M_kindOf rfl (Nat.le_of_ble_eq_true rfl) (Nat.le_of_ble_eq_true rfl) rfl (Nat.le_of_ble_eq_true rfl) (C_M_kindOf hq) ?_
    show jG E _ 66 [(3, (0, s16)), (0, (2, ((24 : Nat) : Int))), (1, (0, x5)), (2, (0, l12)), (4, (0, l13)), (5, (0, l14)), (6, (0, l15))] [(0, v17)] h _ _
    refine jG.blk (st_M_hasKings) 1 (pc1 := 67) (L1 := [(3, (0, s16)), (0, (2, ((24 : Nat) : Int))), (1, (0, x5)), (2, (0, l12)), (4, (0, l13)), (5, (0, l14)), (6, (0, l15))]) (st1 := [(0, 1), (0, v17)]) (h1 := h) rfl ?_
    refine jT.if2 (st_M_hasKings) rfl (tgt := 84) (by decide) (fun hc => ?_) (fun hc => ?_)
    · have hc : ¬ (v17 = 1) := hc
      try rw [if_neg hc] at hv
      refine jG.blk (st_M_hasKings) 1 (pc1 := 85) (L1 := [(3, (0, s16)), (0, (2, ((24 : Nat) : Int))), (1, (0, x5)), (2, (0, l12)), (4, (0, l13)), (5, (0, l14)), (6, (0, l15))]) (st1 := [(0, 1)]) (h1 := h) rfl ?_
      refine jT.goto (st_M_hasKings) rfl (tgt := 89) (by decide) ?_
      refine jG.blk (st_M_hasKings) 2 (pc1 := 94) (L1 := [(5, (0, jadd l14 1)), (4, (0, 1)), (3, (0, s16)), (0, (2, ((24 : Nat) : Int))), (1, (0, x5)), (2, (0, l12)), (6, (0, l15))]) (st1 := []) (h1 := h) rfl ?_
      refine jT.goto (st_M_hasKings) rfl (tgt := 10) (by decide) ?_
      refine jG.subp [3, 4, 5, 2, 1, 0] (L1 := [(0, (2, ((24 : Nat) : Int))), (1, (0, x5)), (2, (0, l12)), (3, (0, s16)), (4, (0, 1)), (5, (0, jadd l14 1))]) rfl ?_
      exact hrc _ _ _ _ _ hv
    · have hc : v17 = 1 := Decidable.not_not.mp hc
      try rw [if_pos hc] at hv
      refine jG.blk (st_M_hasKings) 2 (pc1 := 74) (L1 := [(3, (0, s16)), (0, (2, ((24 : Nat) : Int))), (1, (0, x5)), (2, (0, l12)), (4, (0, l13)), (5, (0, l14)), (6, (0, l15))]) (st1 := [(0, 8), (0, l14)]) (h1 := h) rfl ?_
      refine jT.if2 (st_M_hasKings) rfl (tgt := 88) (by decide) (fun hc => ?_) (fun hc => ?_)
      · have hc : l14 < 8 := hc
        try rw [if_pos hc] at hv
        refine jG.blk (st_M_hasKings) 3 (pc1 := 94) (L1 := [(5, (0, jadd l14 1)), (4, (0, 0)), (3, (0, s16)), (0, (2, ((24 : Nat) : Int))), (1, (0, x5)), (2, (0, l12)), (6, (0, l15))]) (st1 := []) (h1 := h) rfl ?_
        refine jT.goto (st_M_hasKings) rfl (tgt := 10) (by decide) ?_
        refine jG.subp [3, 4, 5, 2, 1, 0] (L1 := [(0, (2, ((24 : Nat) : Int))), (1, (0, x5)), (2, (0, l12)), (3, (0, s16)), (4, (0, 0)), (5, (0, jadd l14 1))]) rfl ?_
        exact hrc _ _ _ _ _ hv
      · have hc : ¬ (l14 < 8) := hc
        try rw [if_neg hc] at hv
        refine jG.blk (st_M_hasKings) 2 (pc1 := 81) (L1 := [(3, (0, s16)), (0, (2, ((24 : Nat) : Int))), (1, (0, x5)), (2, (0, l12)), (4, (0, l13)), (5, (0, l14)), (6, (0, l15))]) (st1 := [(0, 55), (0, l14)]) (h1 := h) rfl ?_
        refine jT.if2 (st_M_hasKings) rfl (tgt := 88) (by decide) (fun hc => ?_) (fun hc => ?_)
        · have hc : 55 < l14 := hc
          try rw [if_pos hc] at hv
          refine jG.blk (st_M_hasKings) 3 (pc1 := 94) (L1 := [(5, (0, jadd l14 1)), (4, (0, 0)), (3, (0, s16)), (0, (2, ((24 : Nat) : Int))), (1, (0, x5)), (2, (0, l12)), (6, (0, l15))]) (st1 := []) (h1 := h) rfl ?_
          refine jT.goto (st_M_hasKings) rfl (tgt := 10) (by decide) ?_
          refine jG.subp [3, 4, 5, 2, 1, 0] (L1 := [(0, (2, ((24 : Nat) : Int))), (1, (0, x5)), (2, (0, l12)), (3, (0, s16)), (4, (0, 0)), (5, (0, jadd l14 1))]) rfl ?_
          exact hrc _ _ _ _ _ hv
        · have hc : ¬ (55 < l14) := hc
          try rw [if_neg hc] at hv
          refine jG.blk (st_M_hasKings) 1 (pc1 := 85) (L1 := [(3, (0, s16)), (0, (2, ((24 : Nat) : Int))), (1, (0, x5)), (2, (0, l12)), (4, (0, l13)), (5, (0, l14)), (6, (0, l15))]) (st1 := [(0, 1)]) (h1 := h) rfl ?_
          refine jT.goto (st_M_hasKings) rfl (tgt := 89) (by decide) ?_
          refine jG.blk (st_M_hasKings) 2 (pc1 := 94) (L1 := [(5, (0, jadd l14 1)), (4, (0, 1)), (3, (0, s16)), (0, (2, ((24 : Nat) : Int))), (1, (0, x5)), (2, (0, l12)), (6, (0, l15))]) (st1 := []) (h1 := h) rfl ?_
          refine jT.goto (st_M_hasKings) rfl (tgt := 10) (by decide) ?_
          refine jG.subp [3, 4, 5, 2, 1, 0] (L1 := [(0, (2, ((24 : Nat) : Int))), (1, (0, x5)), (2, (0, l12)), (3, (0, s16)), (4, (0, 1)), (5, (0, jadd l14 1))]) rfl ?_
          exact hrc _ _ _ _ _ hv
set_option maxRecDepth 100000 in
set_option maxHeartbeats 4000000 in
theorem f_M_hasKings_j40_10_ok (E : jE) {rc : Int → Int → Int → Int → Option (Int)} {k : Int → Int → Int → Int → Option (Int)} {h : jH} {x5 : Int} (hrc : ∀ (l1 : Int) (l2 : Int) (l3 : Int) (l4 : Int) (res : Int), rc l1 l2 l3 l4 = some res → jG E M_M_hasKings 10 [(0, (2, ((24 : Nat) : Int))), (1, (0, x5)), (2, (0, l1)), (3, (0, l2)), (4, (0, l3)), (5, (0, l4))] [] h (some (0, res)) h) (hk : ∀ (l1 : Int) (l2 : Int) (l3 : Int) (l4 : Int) (res : Int), k l1 l2 l3 l4 = some res → jG E M_M_hasKings 97 [(2, (0, l1)), (3, (0, l2)), (4, (0, l3))] [] h (some (0, res)) h) {l7 : Int} {l8 : Int} {l9 : Int} {l10 : Int} {s11 : Int} {res : Int} (hv : f_M_hasKings_j40_10 rc k h x5 l7 l8 l9 l10 s11 = some res) : jG E M_M_hasKings 40 [(0, (2, ((24 : Nat) : Int))), (1, (0, x5)), (3, (0, l7)), (4, (0, l8)), (5, (0, l9)), (6, (0, l10))] [(0, s11)] h (some (0, res)) h := by
  unfold f_M_hasKings_j40_10 at hv
  refine jG.blk (st_M_hasKings) 3 (pc1 := 45) (L1 := [(2, (0, s11)), (0, (2, ((24 : Nat) : Int))), (1, (0, x5)), (3, (0, l7)), (4, (0, l8)), (5, (0, l9)), (6, (0, l10))]) (st1 := [(0, 12), (0, l10)]) (h1 := h) rfl ?_
  refine jT.if2 (st_M_hasKings) rfl (tgt := 54) (by decide) (fun hc => ?_) (fun hc => ?_)
  · have hc : ¬ (l10 = 12) := hc
    try rw [if_neg hc] at hv
    refine jG.blk (st_M_hasKings) 1 (pc1 := 55) (L1 := [(2, (0, s11)), (0, (2, ((24 : Nat) : Int))), (1, (0, x5)), (3, (0, l7)), (4, (0, l8)), (5, (0, l9)), (6, (0, l10))]) (st1 := [(0, l7)]) (h1 := h) rfl ?_
    refine jG.subp [1, 2, 0, 4, 5, 6] (L1 := [(0, (2, ((24 : Nat) : Int))), (1, (0, x5)), (2, (0, s11)), (4, (0, l8)), (5, (0, l9)), (6, (0, l10))]) rfl ?_
    exact f_M_hasKings_j55_10_ok E hrc hk hv
  · have hc : l10 = 12 := Decidable.not_not.mp hc
    try rw [if_pos hc] at hv
    refine jG.blk (st_M_hasKings) 3 (pc1 := 51) (L1 := [(2, (0, s11)), (0, (2, ((24 : Nat) : Int))), (1, (0, x5)), (3, (0, l7)), (4, (0, l8)), (5, (0, l9)), (6, (0, l10))]) (st1 := [(0, jadd l7 1)]) (h1 := h) rfl ?_
    refine jT.goto (st_M_hasKings) rfl (tgt := 55) (by decide) ?_
    refine jG.subp [1, 2, 0, 4, 5, 6] (L1 := [(0, (2, ((24 : Nat) : Int))), (1, (0, x5)), (2, (0, s11)), (4, (0, l8)), (5, (0, l9)), (6, (0, l10))]) rfl ?_
    exact f_M_hasKings_j55_10_ok E hrc hk hv
set_option maxRecDepth 100000 in
set_option maxHeartbeats 4000000 in
theorem f_M_hasKings_lp10_ok (E : jE) {h : jH} {x5 : Int} {k : Int → Int → Int → Int → Option (Int)} (hk : ∀ (l1 : Int) (l2 : Int) (l3 : Int) (l4 : Int) (res : Int), k l1 l2 l3 l4 = some res → jG E M_M_hasKings 97 [(2, (0, l1)), (3, (0, l2)), (4, (0, l3))] [] h (some (0, res)) h) : ∀ (n : Nat) (l1 : Int) (l2 : Int) (l3 : Int) (l4 : Int) (res : Int), f_M_hasKings_lp10 h x5 k n l1 l2 l3 l4 = some res → jG E M_M_hasKings 10 [(0, (2, ((24 : Nat) : Int))), (1, (0, x5)), (2, (0, l1)), (3, (0, l2)), (4, (0, l3)), (5, (0, l4))] [] h (some (0, res)) h := by
  intro n
  induction n with
  | zero => intro l1 l2 l3 l4 res hv; cases hv
  | succ n ih =>
    intro l1 l2 l3 l4 res hv
    rw [f_M_hasKings_lp10] at hv
    refine jG.blk (st_M_hasKings) 2 (pc1 := 14) (L1 := [(0, (2, ((24 : Nat) : Int))), (1, (0, x5)), (2, (0, l1)), (3, (0, l2)), (4, (0, l3)), (5, (0, l4))]) (st1 := [(0, 64), (0, l4)]) (h1 := h) rfl ?_
    refine jT.if2 (st_M_hasKings) rfl (tgt := 97) (by decide) (fun hc => ?_) (fun hc => ?_)
    · have hc : 64 ≤ l4 := hc
      try rw [if_pos hc] at hv
      refine jG.subp [2, 3, 4] (L1 := [(2, (0, l1)), (3, (0, l2)), (4, (0, l3))]) rfl ?_
      exact hk _ _ _ _ _ hv
    · have hc : ¬ (64 ≤ l4) := hc
      try rw [if_neg hc] at hv
      refine jG.blk (st_M_hasKings) 3 (pc1 := 21) (L1 := [(0, (2, ((24 : Nat) : Int))), (1, (0, x5)), (2, (0, l1)), (3, (0, l2)), (4, (0, l3)), (5, (0, l4))]) (st1 := [(0, l4), (0, x5), (2, ((24 : Nat) : Int))]) (h1 := h) rfl ?_
      obtain ⟨v6, hq, hv⟩ := Option.bind_eq_some_iff.mp hv
      refine jT.cV (M1 := M_M_piece) (2, ((24 : Nat) : Int)) [(0, x5), (0, l4)] [] (st_M_hasKings) rfl rfl ok_M_piece rfl (Or.inl ⟨rfl, _, _, _, rfl, rfl⟩) (Nat.le_of_ble_eq_true rfl) (Nat.le_of_ble_eq_true rfl) rfl (Nat.le_of_ble_eq_true rfl) (C_M_piece hq) ?_
      show jG E _ 24 [(0, (2, ((24 : Nat) : Int))), (1, (0, x5)), (2, (0, l1)), (3, (0, l2)), (4, (0, l3)), (5, (0, l4))] [(0, v6)] h _ _
      refine jG.blk (st_M_hasKings) 3 (pc1 := 30) (L1 := [(6, (0, v6)), (0, (2, ((24 : Nat) : Int))), (1, (0, x5)), (2, (0, l1)), (3, (0, l2)), (4, (0, l3)), (5, (0, l4))]) (st1 := [(0, 6), (0, v6)]) (h1 := h) rfl ?_
      refine jT.if2 (st_M_hasKings) rfl (tgt := 39) (by decide) (fun hc => ?_) (fun hc => ?_)
      · have hc : ¬ (v6 = 6) := hc
        try rw [if_neg hc] at hv
        refine jG.blk (st_M_hasKings) 1 (pc1 := 40) (L1 := [(6, (0, v6)), (0, (2, ((24 : Nat) : Int))), (1, (0, x5)), (2, (0, l1)), (3, (0, l2)), (4, (0, l3)), (5, (0, l4))]) (st1 := [(0, l1)]) (h1 := h) rfl ?_
        refine jG.subp [1, 2, 4, 5, 6, 0] (L1 := [(0, (2, ((24 : Nat) : Int))), (1, (0, x5)), (3, (0, l2)), (4, (0, l3)), (5, (0, l4)), (6, (0, v6))]) rfl ?_
        exact f_M_hasKings_j40_10_ok E ih hk hv
      · have hc : v6 = 6 := Decidable.not_not.mp hc
        try rw [if_pos hc] at hv
        refine jG.blk (st_M_hasKings) 3 (pc1 := 36) (L1 := [(6, (0, v6)), (0, (2, ((24 : Nat) : Int))), (1, (0, x5)), (2, (0, l1)), (3, (0, l2)), (4, (0, l3)), (5, (0, l4))]) (st1 := [(0, jadd l1 1)]) (h1 := h) rfl ?_
        refine jT.goto (st_M_hasKings) rfl (tgt := 40) (by decide) ?_
        refine jG.subp [1, 2, 4, 5, 6, 0] (L1 := [(0, (2, ((24 : Nat) : Int))), (1, (0, x5)), (3, (0, l2)), (4, (0, l3)), (5, (0, l4)), (6, (0, v6))]) rfl ?_
        exact f_M_hasKings_j40_10_ok E ih hk hv
set_option maxRecDepth 100000 in
set_option maxHeartbeats 4000000 in
theorem C_M_hasKings {E : jE} {h : jH} {a1 : Int} {res : Int} (hv : f_M_hasKings h a1 = some res) : jC E M_M_hasKings [(2, ((24 : Nat) : Int)), (0, a1)] h (some (0, res)) h := by
  refine jC.of ok_M_hasKings.1 (by rw [jlg]; exact Nat.le_of_ble_eq_true rfl) ?_
  show jG E _ 0 [(0, (2, ((24 : Nat) : Int))), (1, (0, a1))] [] h _ _
  unfold f_M_hasKings at hv
  refine jG.blk (st_M_hasKings) 8 (pc1 := 10) (L1 := [(5, (0, 0)), (4, (0, 1)), (3, (0, 0)), (2, (0, 0)), (0, (2, ((24 : Nat) : Int))), (1, (0, a1))]) (st1 := []) (h1 := h) rfl ?_
  refine jG.subp [4, 5, 3, 2, 1, 0] (L1 := [(0, (2, ((24 : Nat) : Int))), (1, (0, a1)), (2, (0, 0)), (3, (0, 0)), (4, (0, 1)), (5, (0, 0))]) rfl ?_
  refine f_M_hasKings_lp10_ok E (fun l18 l19 l20 l21 res hv => ?_) 1000 _ _ _ _ _ hv
  · refine jG.blk (st_M_hasKings) 2 (pc1 := 99) (L1 := [(2, (0, l18)), (3, (0, l19)), (4, (0, l20))]) (st1 := [(0, 1), (0, l18)]) (h1 := h) rfl ?_
    refine jT.if2 (st_M_hasKings) rfl (tgt := 116) (by decide) (fun hc => ?_) (fun hc => ?_)
    · have hc : ¬ (l18 = 1) := hc
      try rw [if_neg hc] at hv
      refine jG.blk (st_M_hasKings) 1 (pc1 := 117) (L1 := [(2, (0, l18)), (3, (0, l19)), (4, (0, l20))]) (st1 := [(0, 0)]) (h1 := h) rfl ?_
      cases hv
      exact jT.iret (st_M_hasKings) rfl (Or.inl rfl)
    · have hc : l18 = 1 := Decidable.not_not.mp hc
      try rw [if_pos hc] at hv
      refine jG.blk (st_M_hasKings) 2 (pc1 := 104) (L1 := [(2, (0, l18)), (3, (0, l19)), (4, (0, l20))]) (st1 := [(0, 1), (0, l19)]) (h1 := h) rfl ?_
      refine jT.if2 (st_M_hasKings) rfl (tgt := 116) (by decide) (fun hc => ?_) (fun hc => ?_)
      · have hc : ¬ (l19 = 1) := hc
        try rw [if_neg hc] at hv
        refine jG.blk (st_M_hasKings) 1 (pc1 := 117) (L1 := [(2, (0, l18)), (3, (0, l19)), (4, (0, l20))]) (st1 := [(0, 0)]) (h1 := h) rfl ?_
        cases hv
        exact jT.iret (st_M_hasKings) rfl (Or.inl rfl)
      · have hc : l19 = 1 := Decidable.not_not.mp hc
        try rw [if_pos hc] at hv
        refine jG.blk (st_M_hasKings) 1 (pc1 := 109) (L1 := [(2, (0, l18)), (3, (0, l19)), (4, (0, l20))]) (st1 := [(0, l20)]) (h1 := h) rfl ?_
        refine jT.if1 (st_M_hasKings) rfl (tgt := 116) (by decide) (fun hc => ?_) (fun hc => ?_)
        · have hc : l20 = 0 := hc
          try rw [if_pos hc] at hv
          refine jG.blk (st_M_hasKings) 1 (pc1 := 117) (L1 := [(2, (0, l18)), (3, (0, l19)), (4, (0, l20))]) (st1 := [(0, 0)]) (h1 := h) rfl ?_
          cases hv
          exact jT.iret (st_M_hasKings) rfl (Or.inl rfl)
        · have hc : ¬ (l20 = 0) := hc
          try rw [if_neg hc] at hv
          refine jG.blk (st_M_hasKings) 1 (pc1 := 113) (L1 := [(2, (0, l18)), (3, (0, l19)), (4, (0, l20))]) (st1 := [(0, 1)]) (h1 := h) rfl ?_
          refine jT.goto (st_M_hasKings) rfl (tgt := 117) (by decide) ?_
          cases hv
          exact jT.iret (st_M_hasKings) rfl (Or.inr rfl)
def f_M_areRights_j86_4 (rc : Int → Int → Option (Int)) (k : Int → Int → Option (Int)) (h : jH) (x3 : Int) (l12 : Int) (l13 : Int) (s14 : Int) (s15 : Int) (s16 : Int) : Option (Int) := (f_M_piece h s16 (jadd s15 s14)).bind fun v17 => rc (if v17 = jadd 4 l13 then 1 else 0) (jadd l12 1)
def f_M_areRights_j47_4 (rc : Int → Int → Option (Int)) (k : Int → Int → Option (Int)) (h : jH) (x3 : Int) (l7 : Int) (l8 : Int) (l9 : Int) (s10 : Int) : Option (Int) := if l7 = 0 then rc 0 (jadd l8 1) else (f_M_piece h x3 (jadd l9 4)).bind fun v11 => if v11 = jadd 6 s10 then f_M_areRights_j86_4 rc k h x3 l8 s10 (if jrem l8 2 = 0 then 7 else 0) l9 x3 else rc 0 (jadd l8 1)
def f_M_areRights_j34_4 (rc : Int → Int → Option (Int)) (k : Int → Int → Option (Int)) (h : jH) (x3 : Int) (l4 : Int) (l5 : Int) (s6 : Int) : Option (Int) := f_M_areRights_j47_4 rc k h x3 l4 l5 s6 (if 2 ≤ l5 then 6 else 0)
def f_M_areRights_lp4 (h : jH) (x3 : Int) (k : Int → Int → Option (Int)) : Nat → Int → Int → Option (Int)
  | 0, _, _ => none
  | n + 1, l1, l2 => if 4 ≤ l2 then k l1 l2 else jgd (0 ≤ x3 ∧ x3 < 304) (if jand (jshr (h 27 x3.toNat) l2) 1 = 1 then f_M_areRights_j34_4 (f_M_areRights_lp4 h x3 k n) k h x3 l1 l2 (if 2 ≤ l2 then 56 else 0) else f_M_areRights_lp4 h x3 k n l1 (jadd l2 1))
def f_M_areRights (h : jH) (a1 : Int) : Option (Int) := f_M_areRights_lp4 h a1 (fun l18 l19 => jgd (l18 = 0 ∨ l18 = 1) (some l18)) 1000 1 0
set_option maxRecDepth 100000 in
set_option maxHeartbeats 4000000 in
theorem f_M_areRights_j86_4_ok (E : jE) {rc : Int → Int → Option (Int)} {k : Int → Int → Option (Int)} {h : jH} {x3 : Int} (hrc : ∀ (l1 : Int) (l2 : Int) (res : Int), rc l1 l2 = some res → jG E M_M_areRights 4 [(0, (2, ((24 : Nat) : Int))), (1, (0, x3)), (2, (0, l1)), (3, (0, l2))] [] h (some (0, res)) h) (hk : ∀ (l1 : Int) (l2 : Int) (res : Int), k l1 l2 = some res → jG E M_M_areRights 109 [(2, (0, l1))] [] h (some (0, res)) h) {l12 : Int} {l13 : Int} {s14 : Int} {s15 : Int} {s16 : Int} {res : Int} (hv : f_M_areRights_j86_4 rc k h x3 l12 l13 s14 s15 s16 = some res) : jG E M_M_areRights 86 [(0, (2, ((24 : Nat) : Int))), (1, (0, x3)), (3, (0, l12)), (5, (0, l13))] [(0, s14), (0, s15), (0, s16), (2, ((24 : Nat) : Int))] h (some (0, res)) h := by
  unfold f_M_areRights_j86_4 at hv
  refine jG.blk (st_M_areRights) 1 (pc1 := 87) (L1 := [(0, (2, ((24 : Nat) : Int))), (1, (0, x3)), (3, (0, l12)), (5, (0, l13))]) (st1 := [(0, jadd s15 s14), (0, s16), (2, ((24 : Nat) : Int))]) (h1 := h) rfl ?_
  obtain ⟨v17, hq, hv⟩ := Option.bind_eq_some_iff.mp hv
  refine jT.cV (M1 := M_M_piece) (2, ((24 : Nat) : Int)) [(0, s16), (0, jadd s15 s14)] [] (st_M_areRights) rfl rfl ok_M_piece rfl (Or.inl ⟨rfl, _, _, _, rfl, rfl⟩) (Nat.le_of_ble_eq_true rfl) (Nat.le_of_ble_eq_true rfl) rfl (Nat.le_of_ble_eq_true rfl) (C_M_piece hq) ?_
  show jG E _ 90 [(0, (2, ((24 : Nat) : Int))), (1, (0, x3)), (3, (0, l12)), (5, (0, l13))] [(0, v17)] h _ _
  refine jG.blk (st_M_areRights) 3 (pc1 := 94) (L1 := [(0, (2, ((24 : Nat) : Int))), (1, (0, x3)), (3, (0, l12)), (5, (0, l13))]) (st1 := [(0, jadd 4 l13), (0, v17)]) (h1 := h) rfl ?_
  refine jT.if2 (st_M_areRights) rfl (tgt := 101) (by decide) (fun hc => ?_) (fun hc => ?_)
  · have hc : ¬ (v17 = jadd 4 l13) := hc
    try rw [if_neg hc] at hv
    refine jG.blk (st_M_areRights) 3 (pc1 := 106) (L1 := [(3, (0, jadd l12 1)), (2, (0, 0)), (0, (2, ((24 : Nat) : Int))), (1, (0, x3)), (5, (0, l13))]) (st1 := []) (h1 := h) rfl ?_
    refine jT.goto (st_M_areRights) rfl (tgt := 4) (by decide) ?_
    refine jG.subp [2, 3, 1, 0] (L1 := [(0, (2, ((24 : Nat) : Int))), (1, (0, x3)), (2, (0, 0)), (3, (0, jadd l12 1))]) rfl ?_
    exact hrc _ _ _ hv
  · have hc : v17 = jadd 4 l13 := Decidable.not_not.mp hc
    try rw [if_pos hc] at hv
    refine jG.blk (st_M_areRights) 1 (pc1 := 98) (L1 := [(0, (2, ((24 : Nat) : Int))), (1, (0, x3)), (3, (0, l12)), (5, (0, l13))]) (st1 := [(0, 1)]) (h1 := h) rfl ?_
    refine jT.goto (st_M_areRights) rfl (tgt := 102) (by decide) ?_
    refine jG.blk (st_M_areRights) 2 (pc1 := 106) (L1 := [(3, (0, jadd l12 1)), (2, (0, 1)), (0, (2, ((24 : Nat) : Int))), (1, (0, x3)), (5, (0, l13))]) (st1 := []) (h1 := h) rfl ?_
    refine jT.goto (st_M_areRights) rfl (tgt := 4) (by decide) ?_
    refine jG.subp [2, 3, 1, 0] (L1 := [(0, (2, ((24 : Nat) : Int))), (1, (0, x3)), (2, (0, 1)), (3, (0, jadd l12 1))]) rfl ?_
    exact hrc _ _ _ hv
set_option maxRecDepth 100000 in
set_option maxHeartbeats 4000000 in
theorem f_M_areRights_j47_4_ok (E : jE) {rc : Int → Int → Option (Int)} {k : Int → Int → Option (Int)} {h : jH} {x3 : Int} (hrc : ∀ (l1 : Int) (l2 : Int) (res : Int), rc l1 l2 = some res → jG E M_M_areRights 4 [(0, (2, ((24 : Nat) : Int))), (1, (0, x3)), (2, (0, l1)), (3, (0, l2))] [] h (some (0, res)) h) (hk : ∀ (l1 : Int) (l2 : Int) (res : Int), k l1 l2 = some res → jG E M_M_areRights 109 [(2, (0, l1))] [] h (some (0, res)) h) {l7 : Int} {l8 : Int} {l9 : Int} {s10 : Int} {res : Int} (hv : f_M_areRights_j47_4 rc k h x3 l7 l8 l9 s10 = some res) : jG E M_M_areRights 47 [(0, (2, ((24 : Nat) : Int))), (1, (0, x3)), (2, (0, l7)), (3, (0, l8)), (4, (0, l9))] [(0, s10)] h (some (0, res)) h := by
  unfold f_M_areRights_j47_4 at hv
  refine jG.blk (st_M_areRights) 2 (pc1 := 50) (L1 := [(5, (0, s10)), (0, (2, ((24 : Nat) : Int))), (1, (0, x3)), (2, (0, l7)), (3, (0, l8)), (4, (0, l9))]) (st1 := [(0, l7)]) (h1 := h) rfl ?_
  refine jT.if1 (st_M_areRights) rfl (tgt := 101) (by decide) (fun hc => ?_) (fun hc => ?_)
  · have hc : l7 = 0 := hc
    try rw [if_pos hc] at hv
    refine jG.blk (st_M_areRights) 3 (pc1 := 106) (L1 := [(3, (0, jadd l8 1)), (2, (0, 0)), (5, (0, s10)), (0, (2, ((24 : Nat) : Int))), (1, (0, x3)), (4, (0, l9))]) (st1 := []) (h1 := h) rfl ?_
    refine jT.goto (st_M_areRights) rfl (tgt := 4) (by decide) ?_
    refine jG.subp [3, 4, 1, 0] (L1 := [(0, (2, ((24 : Nat) : Int))), (1, (0, x3)), (2, (0, 0)), (3, (0, jadd l8 1))]) rfl ?_
    exact hrc _ _ _ hv
  · have hc : ¬ (l7 = 0) := hc
    try rw [if_neg hc] at hv
    refine jG.blk (st_M_areRights) 5 (pc1 := 59) (L1 := [(5, (0, s10)), (0, (2, ((24 : Nat) : Int))), (1, (0, x3)), (2, (0, l7)), (3, (0, l8)), (4, (0, l9))]) (st1 := [(0, jadd l9 4), (0, x3), (2, ((24 : Nat) : Int))]) (h1 := h) rfl ?_
    obtain ⟨v11, hq, hv⟩ := Option.bind_eq_some_iff.mp hv
    refine jT.cV (M1 := M_M_piece) (2, ((24 : Nat) : Int)) [(0, x3), (0, jadd l9 4)] [] (st_M_areRights) rfl rfl ok_M_piece rfl (Or.inl ⟨rfl, _, _, _, rfl, rfl⟩) (Nat.le_of_ble_eq_true rfl) (Nat.le_of_ble_eq_true rfl) rfl (Nat.le_of_ble_eq_true rfl) (C_M_piece hq) ?_
    show jG E _ 62 [(5, (0, s10)), (0, (2, ((24 : Nat) : Int))), (1, (0, x3)), (2, (0, l7)), (3, (0, l8)), (4, (0, l9))] [(0, v11)] h _ _
    refine jG.blk (st_M_areRights) 3 (pc1 := 67) (L1 := [(5, (0, s10)), (0, (2, ((24 : Nat) : Int))), (1, (0, x3)), (2, (0, l7)), (3, (0, l8)), (4, (0, l9))]) (st1 := [(0, jadd 6 s10), (0, v11)]) (h1 := h) rfl ?_
    refine jT.if2 (st_M_areRights) rfl (tgt := 101) (by decide) (fun hc => ?_) (fun hc => ?_)
    · have hc : ¬ (v11 = jadd 6 s10) := hc
      try rw [if_neg hc] at hv
      refine jG.blk (st_M_areRights) 3 (pc1 := 106) (L1 := [(3, (0, jadd l8 1)), (2, (0, 0)), (5, (0, s10)), (0, (2, ((24 : Nat) : Int))), (1, (0, x3)), (4, (0, l9))]) (st1 := []) (h1 := h) rfl ?_
      refine jT.goto (st_M_areRights) rfl (tgt := 4) (by decide) ?_
      refine jG.subp [3, 4, 1, 0] (L1 := [(0, (2, ((24 : Nat) : Int))), (1, (0, x3)), (2, (0, 0)), (3, (0, jadd l8 1))]) rfl ?_
      exact hrc _ _ _ hv
    · have hc : v11 = jadd 6 s10 := Decidable.not_not.mp hc
      try rw [if_pos hc] at hv
      refine jG.blk (st_M_areRights) 6 (pc1 := 77) (L1 := [(5, (0, s10)), (0, (2, ((24 : Nat) : Int))), (1, (0, x3)), (2, (0, l7)), (3, (0, l8)), (4, (0, l9))]) (st1 := [(0, jrem l8 2), (0, l9), (0, x3), (2, ((24 : Nat) : Int))]) (h1 := h) rfl ?_
      refine jT.if1 (st_M_areRights) rfl (tgt := 85) (by decide) (fun hc => ?_) (fun hc => ?_)
      · have hc : ¬ (jrem l8 2 = 0) := hc
        try rw [if_neg hc] at hv
        refine jG.blk (st_M_areRights) 1 (pc1 := 86) (L1 := [(5, (0, s10)), (0, (2, ((24 : Nat) : Int))), (1, (0, x3)), (2, (0, l7)), (3, (0, l8)), (4, (0, l9))]) (st1 := [(0, 0), (0, l9), (0, x3), (2, ((24 : Nat) : Int))]) (h1 := h) rfl ?_
        refine jG.subp [1, 2, 4, 0] (L1 := [(0, (2, ((24 : Nat) : Int))), (1, (0, x3)), (3, (0, l8)), (5, (0, s10))]) rfl ?_
        exact f_M_areRights_j86_4_ok E hrc hk hv
      · have hc : jrem l8 2 = 0 := Decidable.not_not.mp hc
        try rw [if_pos hc] at hv
        refine jG.blk (st_M_areRights) 1 (pc1 := 82) (L1 := [(5, (0, s10)), (0, (2, ((24 : Nat) : Int))), (1, (0, x3)), (2, (0, l7)), (3, (0, l8)), (4, (0, l9))]) (st1 := [(0, 7), (0, l9), (0, x3), (2, ((24 : Nat) : Int))]) (h1 := h) rfl ?_
        refine jT.goto (st_M_areRights) rfl (tgt := 86) (by decide) ?_
        refine jG.subp [1, 2, 4, 0] (L1 := [(0, (2, ((24 : Nat) : Int))), (1, (0, x3)), (3, (0, l8)), (5, (0, s10))]) rfl ?_
        exact f_M_areRights_j86_4_ok E hrc hk hv
set_option maxRecDepth 100000 in
set_option maxHeartbeats 4000000 in
theorem f_M_areRights_j34_4_ok (E : jE) {rc : Int → Int → Option (Int)} {k : Int → Int → Option (Int)} {h : jH} {x3 : Int} (hrc : ∀ (l1 : Int) (l2 : Int) (res : Int), rc l1 l2 = some res → jG E M_M_areRights 4 [(0, (2, ((24 : Nat) : Int))), (1, (0, x3)), (2, (0, l1)), (3, (0, l2))] [] h (some (0, res)) h) (hk : ∀ (l1 : Int) (l2 : Int) (res : Int), k l1 l2 = some res → jG E M_M_areRights 109 [(2, (0, l1))] [] h (some (0, res)) h) {l4 : Int} {l5 : Int} {s6 : Int} {res : Int} (hv : f_M_areRights_j34_4 rc k h x3 l4 l5 s6 = some res) : jG E M_M_areRights 34 [(0, (2, ((24 : Nat) : Int))), (1, (0, x3)), (2, (0, l4)), (3, (0, l5))] [(0, s6)] h (some (0, res)) h := by
  unfold f_M_areRights_j34_4 at hv
  refine jG.blk (st_M_areRights) 3 (pc1 := 38) (L1 := [(4, (0, s6)), (0, (2, ((24 : Nat) : Int))), (1, (0, x3)), (2, (0, l4)), (3, (0, l5))]) (st1 := [(0, 2), (0, l5)]) (h1 := h) rfl ?_
  refine jT.if2 (st_M_areRights) rfl (tgt := 45) (by decide) (fun hc => ?_) (fun hc => ?_)
  · have hc : 2 ≤ l5 := hc
    try rw [if_pos hc] at hv
    refine jG.blk (st_M_areRights) 1 (pc1 := 47) (L1 := [(4, (0, s6)), (0, (2, ((24 : Nat) : Int))), (1, (0, x3)), (2, (0, l4)), (3, (0, l5))]) (st1 := [(0, 6)]) (h1 := h) rfl ?_
    refine jG.subp [1, 2, 3, 4, 0] (L1 := [(0, (2, ((24 : Nat) : Int))), (1, (0, x3)), (2, (0, l4)), (3, (0, l5)), (4, (0, s6))]) rfl ?_
    exact f_M_areRights_j47_4_ok E hrc hk hv
  · have hc : ¬ (2 ≤ l5) := hc
    try rw [if_neg hc] at hv
    refine jG.blk (st_M_areRights) 1 (pc1 := 42) (L1 := [(4, (0, s6)), (0, (2, ((24 : Nat) : Int))), (1, (0, x3)), (2, (0, l4)), (3, (0, l5))]) (st1 := [(0, 0)]) (h1 := h) rfl ?_
    refine jT.goto (st_M_areRights) rfl (tgt := 47) (by decide) ?_
    refine jG.subp [1, 2, 3, 4, 0] (L1 := [(0, (2, ((24 : Nat) : Int))), (1, (0, x3)), (2, (0, l4)), (3, (0, l5)), (4, (0, s6))]) rfl ?_
    exact f_M_areRights_j47_4_ok E hrc hk hv
set_option maxRecDepth 100000 in
set_option maxHeartbeats 4000000 in
theorem f_M_areRights_lp4_ok (E : jE) {h : jH} {x3 : Int} {k : Int → Int → Option (Int)} (hk : ∀ (l1 : Int) (l2 : Int) (res : Int), k l1 l2 = some res → jG E M_M_areRights 109 [(2, (0, l1))] [] h (some (0, res)) h) : ∀ (n : Nat) (l1 : Int) (l2 : Int) (res : Int), f_M_areRights_lp4 h x3 k n l1 l2 = some res → jG E M_M_areRights 4 [(0, (2, ((24 : Nat) : Int))), (1, (0, x3)), (2, (0, l1)), (3, (0, l2))] [] h (some (0, res)) h := by
  intro n
  induction n with
  | zero => intro l1 l2 res hv; cases hv
  | succ n ih =>
    intro l1 l2 res hv
    rw [f_M_areRights_lp4] at hv
    refine jG.blk (st_M_areRights) 2 (pc1 := 6) (L1 := [(0, (2, ((24 : Nat) : Int))), (1, (0, x3)), (2, (0, l1)), (3, (0, l2))]) (st1 := [(0, 4), (0, l2)]) (h1 := h) rfl ?_
    refine jT.if2 (st_M_areRights) rfl (tgt := 109) (by decide) (fun hc => ?_) (fun hc => ?_)
    · have hc : 4 ≤ l2 := hc
      try rw [if_pos hc] at hv
      refine jG.subp [2] (L1 := [(2, (0, l1))]) rfl ?_
      exact hk _ _ _ hv
    · have hc : ¬ (4 ≤ l2) := hc
      try rw [if_neg hc] at hv
      refine jG.blk (st_M_areRights) 3 (pc1 := 14) (L1 := [(0, (2, ((24 : Nat) : Int))), (1, (0, x3)), (2, (0, l1)), (3, (0, l2))]) (st1 := [(0, x3), (2, ((27 : Nat) : Int))]) (h1 := h) rfl ?_
      obtain ⟨hg, hv⟩ := jgd_some hv
      refine jT.iald (a := 27) (st_M_areRights) rfl rfl (by decide) hg.1 hg.2 ?_
      refine jG.blk (st_M_areRights) 5 (pc1 := 20) (L1 := [(0, (2, ((24 : Nat) : Int))), (1, (0, x3)), (2, (0, l1)), (3, (0, l2))]) (st1 := [(0, 1), (0, jand (jshr (h 27 x3.toNat) l2) 1)]) (h1 := h) rfl ?_
      refine jT.if2 (st_M_areRights) rfl (tgt := 103) (by decide) (fun hc => ?_) (fun hc => ?_)
      · have hc : ¬ (jand (jshr (h 27 x3.toNat) l2) 1 = 1) := hc
        try rw [if_neg hc] at hv
        refine jG.blk (st_M_areRights) 1 (pc1 := 106) (L1 := [(3, (0, jadd l2 1)), (0, (2, ((24 : Nat) : Int))), (1, (0, x3)), (2, (0, l1))]) (st1 := []) (h1 := h) rfl ?_
        refine jT.goto (st_M_areRights) rfl (tgt := 4) (by decide) ?_
        refine jG.subp [1, 2, 3, 0] (L1 := [(0, (2, ((24 : Nat) : Int))), (1, (0, x3)), (2, (0, l1)), (3, (0, jadd l2 1))]) rfl ?_
        exact ih _ _ _ hv
      · have hc : jand (jshr (h 27 x3.toNat) l2) 1 = 1 := Decidable.not_not.mp hc
        try rw [if_pos hc] at hv
        refine jG.blk (st_M_areRights) 2 (pc1 := 25) (L1 := [(0, (2, ((24 : Nat) : Int))), (1, (0, x3)), (2, (0, l1)), (3, (0, l2))]) (st1 := [(0, 2), (0, l2)]) (h1 := h) rfl ?_
        refine jT.if2 (st_M_areRights) rfl (tgt := 32) (by decide) (fun hc => ?_) (fun hc => ?_)
        · have hc : 2 ≤ l2 := hc
          try rw [if_pos hc] at hv
          refine jG.blk (st_M_areRights) 1 (pc1 := 34) (L1 := [(0, (2, ((24 : Nat) : Int))), (1, (0, x3)), (2, (0, l1)), (3, (0, l2))]) (st1 := [(0, 56)]) (h1 := h) rfl ?_
          exact f_M_areRights_j34_4_ok E ih hk hv
        · have hc : ¬ (2 ≤ l2) := hc
          try rw [if_neg hc] at hv
          refine jG.blk (st_M_areRights) 1 (pc1 := 29) (L1 := [(0, (2, ((24 : Nat) : Int))), (1, (0, x3)), (2, (0, l1)), (3, (0, l2))]) (st1 := [(0, 0)]) (h1 := h) rfl ?_
          refine jT.goto (st_M_areRights) rfl (tgt := 34) (by decide) ?_
          exact f_M_areRights_j34_4_ok E ih hk hv
set_option maxRecDepth 100000 in
set_option maxHeartbeats 4000000 in
theorem C_M_areRights {E : jE} {h : jH} {a1 : Int} {res : Int} (hv : f_M_areRights h a1 = some res) : jC E M_M_areRights [(2, ((24 : Nat) : Int)), (0, a1)] h (some (0, res)) h := by
  refine jC.of ok_M_areRights.1 (by rw [jlg]; exact Nat.le_of_ble_eq_true rfl) ?_
  show jG E _ 0 [(0, (2, ((24 : Nat) : Int))), (1, (0, a1))] [] h _ _
  unfold f_M_areRights at hv
  refine jG.blk (st_M_areRights) 4 (pc1 := 4) (L1 := [(3, (0, 0)), (2, (0, 1)), (0, (2, ((24 : Nat) : Int))), (1, (0, a1))]) (st1 := []) (h1 := h) rfl ?_
  refine jG.subp [2, 3, 1, 0] (L1 := [(0, (2, ((24 : Nat) : Int))), (1, (0, a1)), (2, (0, 1)), (3, (0, 0))]) rfl ?_
  refine f_M_areRights_lp4_ok E (fun l18 l19 res hv => ?_) 1000 _ _ _ hv
  · refine jG.blk (st_M_areRights) 1 (pc1 := 110) (L1 := [(2, (0, l18))]) (st1 := [(0, l18)]) (h1 := h) rfl ?_
    obtain ⟨hg, hv⟩ := jgd_some hv
    cases hv
    exact jT.iret (st_M_areRights) rfl hg
def f_M_isFile (h : jH) (a1 : Int) : Option (Int) := jgd (0 ≤ a1 ∧ a1 < 304) (if 0 ≤ h 28 a1.toNat then jgd (0 ≤ a1 ∧ a1 < 304) (if h 26 a1.toNat = 1 then (f_M_piece h a1 (jadd 24 (h 28 a1.toNat))).bind fun v4 => if v4 = 1 then (f_M_piece h a1 (jadd 16 (h 28 a1.toNat))).bind fun v5 => if v5 = 0 then (f_M_piece h a1 (jadd 8 (h 28 a1.toNat))).bind fun v6 => some (if v6 = 0 then 1 else 0) else some 0 else some 0 else (f_M_piece h a1 (jadd 32 (h 28 a1.toNat))).bind fun v1 => if v1 = 7 then (f_M_piece h a1 (jadd 40 (h 28 a1.toNat))).bind fun v2 => if v2 = 0 then (f_M_piece h a1 (jadd 48 (h 28 a1.toNat))).bind fun v3 => some (if v3 = 0 then 1 else 0) else some 0 else some 0) else some 1)
set_option maxRecDepth 100000 in
set_option maxHeartbeats 4000000 in
theorem C_M_isFile {E : jE} {h : jH} {a1 : Int} {res : Int} (hv : f_M_isFile h a1 = some res) : jC E M_M_isFile [(2, ((24 : Nat) : Int)), (0, a1)] h (some (0, res)) h := by
  refine jC.of ok_M_isFile.1 (by rw [jlg]; exact Nat.le_of_ble_eq_true rfl) ?_
  show jG E _ 0 [(0, (2, ((24 : Nat) : Int))), (1, (0, a1))] [] h _ _
  unfold f_M_isFile at hv
  refine jG.blk (st_M_isFile) 3 (pc1 := 5) (L1 := [(0, (2, ((24 : Nat) : Int))), (1, (0, a1))]) (st1 := [(0, a1), (2, ((28 : Nat) : Int))]) (h1 := h) rfl ?_
  obtain ⟨hg, hv⟩ := jgd_some hv
  refine jT.iald (a := 28) (st_M_isFile) rfl rfl (by decide) hg.1 hg.2 ?_
  refine jG.blk (st_M_isFile) 2 (pc1 := 8) (L1 := [(2, (0, h 28 a1.toNat)), (0, (2, ((24 : Nat) : Int))), (1, (0, a1))]) (st1 := [(0, h 28 a1.toNat)]) (h1 := h) rfl ?_
  refine jT.if1 (st_M_isFile) rfl (tgt := 13) (by decide) (fun hc => ?_) (fun hc => ?_)
  · have hc : 0 ≤ h 28 a1.toNat := hc
    try rw [if_pos hc] at hv
    refine jG.blk (st_M_isFile) 3 (pc1 := 18) (L1 := [(2, (0, h 28 a1.toNat)), (0, (2, ((24 : Nat) : Int))), (1, (0, a1))]) (st1 := [(0, a1), (2, ((26 : Nat) : Int))]) (h1 := h) rfl ?_
    obtain ⟨hg, hv⟩ := jgd_some hv
    refine jT.iald (a := 26) (st_M_isFile) rfl rfl (by decide) hg.1 hg.2 ?_
    refine jG.blk (st_M_isFile) 1 (pc1 := 20) (L1 := [(2, (0, h 28 a1.toNat)), (0, (2, ((24 : Nat) : Int))), (1, (0, a1))]) (st1 := [(0, 1), (0, h 26 a1.toNat)]) (h1 := h) rfl ?_
    refine jT.if2 (st_M_isFile) rfl (tgt := 68) (by decide) (fun hc => ?_) (fun hc => ?_)
    · have hc : ¬ (h 26 a1.toNat = 1) := hc
      try rw [if_neg hc] at hv
      refine jG.blk (st_M_isFile) 5 (pc1 := 74) (L1 := [(2, (0, h 28 a1.toNat)), (0, (2, ((24 : Nat) : Int))), (1, (0, a1))]) (st1 := [(0, jadd 32 (h 28 a1.toNat)), (0, a1), (2, ((24 : Nat) : Int))]) (h1 := h) rfl ?_
      obtain ⟨v1, hq, hv⟩ := Option.bind_eq_some_iff.mp hv
      refine jT.cV (M1 := M_M_piece) (2, ((24 : Nat) : Int)) [(0, a1), (0, jadd 32 (h 28 a1.toNat))] [] (st_M_isFile) rfl rfl ok_M_piece rfl (Or.inl ⟨rfl, _, _, _, rfl, rfl⟩) (Nat.le_of_ble_eq_true rfl) (Nat.le_of_ble_eq_true rfl) rfl (Nat.le_of_ble_eq_true rfl) (C_M_piece hq) ?_
      show jG E _ 77 [(2, (0, h 28 a1.toNat)), (0, (2, ((24 : Nat) : Int))), (1, (0, a1))] [(0, v1)] h _ _
      refine jG.blk (st_M_isFile) 1 (pc1 := 79) (L1 := [(2, (0, h 28 a1.toNat)), (0, (2, ((24 : Nat) : Int))), (1, (0, a1))]) (st1 := [(0, 7), (0, v1)]) (h1 := h) rfl ?_
      refine jT.if2 (st_M_isFile) rfl (tgt := 110) (by decide) (fun hc => ?_) (fun hc => ?_)
      · have hc : ¬ (v1 = 7) := hc
        try rw [if_neg hc] at hv
        refine jG.blk (st_M_isFile) 1 (pc1 := 111) (L1 := [(2, (0, h 28 a1.toNat)), (0, (2, ((24 : Nat) : Int))), (1, (0, a1))]) (st1 := [(0, 0)]) (h1 := h) rfl ?_
        cases hv
        exact jT.iret (st_M_isFile) rfl (Or.inl rfl)
      · have hc : v1 = 7 := Decidable.not_not.mp hc
        try rw [if_pos hc] at hv
        refine jG.blk (st_M_isFile) 5 (pc1 := 88) (L1 := [(2, (0, h 28 a1.toNat)), (0, (2, ((24 : Nat) : Int))), (1, (0, a1))]) (st1 := [(0, jadd 40 (h 28 a1.toNat)), (0, a1), (2, ((24 : Nat) : Int))]) (h1 := h) rfl ?_
        obtain ⟨v2, hq, hv⟩ := Option.bind_eq_some_iff.mp hv
        refine jT.cV (M1 := M_M_piece) (2, ((24 : Nat) : Int)) [(0, a1), (0, jadd 40 (h 28 a1.toNat))] [] (st_M_isFile) rfl rfl ok_M_piece rfl (Or.inl ⟨rfl, _, _, _, rfl, rfl⟩) (Nat.le_of_ble_eq_true rfl) (Nat.le_of_ble_eq_true rfl) rfl (Nat.le_of_ble_eq_true rfl) (C_M_piece hq) ?_
        show jG E _ 91 [(2, (0, h 28 a1.toNat)), (0, (2, ((24 : Nat) : Int))), (1, (0, a1))] [(0, v2)] h _ _
        refine jT.if1 (st_M_isFile) rfl (tgt := 110) (by decide) (fun hc => ?_) (fun hc => ?_)
        · have hc : ¬ (v2 = 0) := hc
          try rw [if_neg hc] at hv
          refine jG.blk (st_M_isFile) 1 (pc1 := 111) (L1 := [(2, (0, h 28 a1.toNat)), (0, (2, ((24 : Nat) : Int))), (1, (0, a1))]) (st1 := [(0, 0)]) (h1 := h) rfl ?_
          cases hv
          exact jT.iret (st_M_isFile) rfl (Or.inl rfl)
        · have hc : v2 = 0 := Decidable.not_not.mp hc
          try rw [if_pos hc] at hv
          refine jG.blk (st_M_isFile) 5 (pc1 := 100) (L1 := [(2, (0, h 28 a1.toNat)), (0, (2, ((24 : Nat) : Int))), (1, (0, a1))]) (st1 := [(0, jadd 48 (h 28 a1.toNat)), (0, a1), (2, ((24 : Nat) : Int))]) (h1 := h) rfl ?_
          obtain ⟨v3, hq, hv⟩ := Option.bind_eq_some_iff.mp hv
          refine jT.cV (M1 := M_M_piece) (2, ((24 : Nat) : Int)) [(0, a1), (0, jadd 48 (h 28 a1.toNat))] [] (st_M_isFile) rfl rfl ok_M_piece rfl (Or.inl ⟨rfl, _, _, _, rfl, rfl⟩) (Nat.le_of_ble_eq_true rfl) (Nat.le_of_ble_eq_true rfl) rfl (Nat.le_of_ble_eq_true rfl) (C_M_piece hq) ?_
          show jG E _ 103 [(2, (0, h 28 a1.toNat)), (0, (2, ((24 : Nat) : Int))), (1, (0, a1))] [(0, v3)] h _ _
          refine jT.if1 (st_M_isFile) rfl (tgt := 110) (by decide) (fun hc => ?_) (fun hc => ?_)
          · have hc : ¬ (v3 = 0) := hc
            try rw [if_neg hc] at hv
            refine jG.blk (st_M_isFile) 1 (pc1 := 111) (L1 := [(2, (0, h 28 a1.toNat)), (0, (2, ((24 : Nat) : Int))), (1, (0, a1))]) (st1 := [(0, 0)]) (h1 := h) rfl ?_
            cases hv
            exact jT.iret (st_M_isFile) rfl (Or.inl rfl)
          · have hc : v3 = 0 := Decidable.not_not.mp hc
            try rw [if_pos hc] at hv
            refine jG.blk (st_M_isFile) 1 (pc1 := 107) (L1 := [(2, (0, h 28 a1.toNat)), (0, (2, ((24 : Nat) : Int))), (1, (0, a1))]) (st1 := [(0, 1)]) (h1 := h) rfl ?_
            refine jT.goto (st_M_isFile) rfl (tgt := 111) (by decide) ?_
            cases hv
            exact jT.iret (st_M_isFile) rfl (Or.inr rfl)
    · have hc : h 26 a1.toNat = 1 := Decidable.not_not.mp hc
      try rw [if_pos hc] at hv
      refine jG.blk (st_M_isFile) 5 (pc1 := 29) (L1 := [(2, (0, h 28 a1.toNat)), (0, (2, ((24 : Nat) : Int))), (1, (0, a1))]) (st1 := [(0, jadd 24 (h 28 a1.toNat)), (0, a1), (2, ((24 : Nat) : Int))]) (h1 := h) rfl ?_
      obtain ⟨v4, hq, hv⟩ := Option.bind_eq_some_iff.mp hv
      refine jT.cV (M1 := M_M_piece) (2, ((24 : Nat) : Int)) [(0, a1), (0, jadd 24 (h 28 a1.toNat))] [] (st_M_isFile) rfl rfl ok_M_piece rfl (Or.inl ⟨rfl, _, _, _, rfl, rfl⟩) (Nat.le_of_ble_eq_true rfl) (Nat.le_of_ble_eq_true rfl) rfl (Nat.le_of_ble_eq_true rfl) (C_M_piece hq) ?_
      show jG E _ 32 [(2, (0, h 28 a1.toNat)), (0, (2, ((24 : Nat) : Int))), (1, (0, a1))] [(0, v4)] h _ _
      refine jG.blk (st_M_isFile) 1 (pc1 := 33) (L1 := [(2, (0, h 28 a1.toNat)), (0, (2, ((24 : Nat) : Int))), (1, (0, a1))]) (st1 := [(0, 1), (0, v4)]) (h1 := h) rfl ?_
      refine jT.if2 (st_M_isFile) rfl (tgt := 64) (by decide) (fun hc => ?_) (fun hc => ?_)
      · have hc : ¬ (v4 = 1) := hc
        try rw [if_neg hc] at hv
        refine jG.blk (st_M_isFile) 1 (pc1 := 65) (L1 := [(2, (0, h 28 a1.toNat)), (0, (2, ((24 : Nat) : Int))), (1, (0, a1))]) (st1 := [(0, 0)]) (h1 := h) rfl ?_
        refine jT.goto (st_M_isFile) rfl (tgt := 111) (by decide) ?_
        cases hv
        exact jT.iret (st_M_isFile) rfl (Or.inl rfl)
      · have hc : v4 = 1 := Decidable.not_not.mp hc
        try rw [if_pos hc] at hv
        refine jG.blk (st_M_isFile) 5 (pc1 := 42) (L1 := [(2, (0, h 28 a1.toNat)), (0, (2, ((24 : Nat) : Int))), (1, (0, a1))]) (st1 := [(0, jadd 16 (h 28 a1.toNat)), (0, a1), (2, ((24 : Nat) : Int))]) (h1 := h) rfl ?_
        obtain ⟨v5, hq, hv⟩ := Option.bind_eq_some_iff.mp hv
        refine jT.cV (M1 := M_M_piece) (2, ((24 : Nat) : Int)) [(0, a1), (0, jadd 16 (h 28 a1.toNat))] [] (st_M_isFile) rfl rfl ok_M_piece rfl (Or.inl ⟨rfl, _, _, _, rfl, rfl⟩) (Nat.le_of_ble_eq_true rfl) (Nat.le_of_ble_eq_true rfl) rfl (Nat.le_of_ble_eq_true rfl) (C_M_piece hq) ?_
        show jG E _ 45 [(2, (0, h 28 a1.toNat)), (0, (2, ((24 : Nat) : Int))), (1, (0, a1))] [(0, v5)] h _ _
        refine jT.if1 (st_M_isFile) rfl (tgt := 64) (by decide) (fun hc => ?_) (fun hc => ?_)
        · have hc : ¬ (v5 = 0) := hc
          try rw [if_neg hc] at hv
          refine jG.blk (st_M_isFile) 1 (pc1 := 65) (L1 := [(2, (0, h 28 a1.toNat)), (0, (2, ((24 : Nat) : Int))), (1, (0, a1))]) (st1 := [(0, 0)]) (h1 := h) rfl ?_
          refine jT.goto (st_M_isFile) rfl (tgt := 111) (by decide) ?_
          cases hv
          exact jT.iret (st_M_isFile) rfl (Or.inl rfl)
        · have hc : v5 = 0 := Decidable.not_not.mp hc
          try rw [if_pos hc] at hv
          refine jG.blk (st_M_isFile) 5 (pc1 := 54) (L1 := [(2, (0, h 28 a1.toNat)), (0, (2, ((24 : Nat) : Int))), (1, (0, a1))]) (st1 := [(0, jadd 8 (h 28 a1.toNat)), (0, a1), (2, ((24 : Nat) : Int))]) (h1 := h) rfl ?_
          obtain ⟨v6, hq, hv⟩ := Option.bind_eq_some_iff.mp hv
          refine jT.cV (M1 := M_M_piece) (2, ((24 : Nat) : Int)) [(0, a1), (0, jadd 8 (h 28 a1.toNat))] [] (st_M_isFile) rfl rfl ok_M_piece rfl (Or.inl ⟨rfl, _, _, _, rfl, rfl⟩) (Nat.le_of_ble_eq_true rfl) (Nat.le_of_ble_eq_true rfl) rfl (Nat.le_of_ble_eq_true rfl) (C_M_piece hq) ?_
          show jG E _ 57 [(2, (0, h 28 a1.toNat)), (0, (2, ((24 : Nat) : Int))), (1, (0, a1))] [(0, v6)] h _ _
          refine jT.if1 (st_M_isFile) rfl (tgt := 64) (by decide) (fun hc => ?_) (fun hc => ?_)
          · have hc : ¬ (v6 = 0) := hc
            try rw [if_neg hc] at hv
            refine jG.blk (st_M_isFile) 1 (pc1 := 65) (L1 := [(2, (0, h 28 a1.toNat)), (0, (2, ((24 : Nat) : Int))), (1, (0, a1))]) (st1 := [(0, 0)]) (h1 := h) rfl ?_
            refine jT.goto (st_M_isFile) rfl (tgt := 111) (by decide) ?_
            cases hv
            exact jT.iret (st_M_isFile) rfl (Or.inl rfl)
          · have hc : v6 = 0 := Decidable.not_not.mp hc
            try rw [if_pos hc] at hv
            refine jG.blk (st_M_isFile) 1 (pc1 := 61) (L1 := [(2, (0, h 28 a1.toNat)), (0, (2, ((24 : Nat) : Int))), (1, (0, a1))]) (st1 := [(0, 1)]) (h1 := h) rfl ?_
            refine jT.goto (st_M_isFile) rfl (tgt := 111) (by decide) ?_
            cases hv
            exact jT.iret (st_M_isFile) rfl (Or.inr rfl)
  · have hc : ¬ (0 ≤ h 28 a1.toNat) := hc
    try rw [if_neg hc] at hv
    refine jG.blk (st_M_isFile) 1 (pc1 := 12) (L1 := [(2, (0, h 28 a1.toNat)), (0, (2, ((24 : Nat) : Int))), (1, (0, a1))]) (st1 := [(0, 1)]) (h1 := h) rfl ?_
    cases hv
    exact jT.iret (st_M_isFile) rfl (Or.inr rfl)
def f_M_kingOf_j30_5 (rc : Int → Int → Option (Int)) (k : Int → Int → Option (Int)) (h : jH) (x3 : Int) (x4 : Int) (l6 : Int) (l7 : Int) (s8 : Int) (s9 : Int) : Option (Int) := rc (if s9 = s8 then l7 else l6) (jadd l7 1)
def f_M_kingOf_lp5 (h : jH) (x3 : Int) (x4 : Int) (k : Int → Int → Option (Int)) : Nat → Int → Int → Option (Int)
  | 0, _, _ => none
  | n + 1, l1, l2 => if 64 ≤ l2 then k l1 l2 else (f_M_piece h x3 l2).bind fun v5 => f_M_kingOf_j30_5 (f_M_kingOf_lp5 h x3 x4 k n) k h x3 x4 l1 l2 (if x4 = 0 then 6 else 12) v5
def f_M_kingOf (h : jH) (a1 : Int) (a2 : Int) : Option (Int) := f_M_kingOf_lp5 h a1 a2 (fun l10 l11 => some l10) 1000 (-1) 0
set_option maxRecDepth 100000 in
set_option maxHeartbeats 4000000 in
theorem f_M_kingOf_j30_5_ok (E : jE) {rc : Int → Int → Option (Int)} {k : Int → Int → Option (Int)} {h : jH} {x3 : Int} {x4 : Int} (hrc : ∀ (l1 : Int) (l2 : Int) (res : Int), rc l1 l2 = some res → jG E M_M_kingOf 5 [(0, (2, ((24 : Nat) : Int))), (1, (0, x3)), (2, (0, x4)), (3, (0, l1)), (4, (0, l2))] [] h (some (0, res)) h) (hk : ∀ (l1 : Int) (l2 : Int) (res : Int), k l1 l2 = some res → jG E M_M_kingOf 46 [(3, (0, l1))] [] h (some (0, res)) h) {l6 : Int} {l7 : Int} {s8 : Int} {s9 : Int} {res : Int} (hv : f_M_kingOf_j30_5 rc k h x3 x4 l6 l7 s8 s9 = some res) : jG E M_M_kingOf 30 [(0, (2, ((24 : Nat) : Int))), (1, (0, x3)), (2, (0, x4)), (3, (0, l6)), (4, (0, l7))] [(0, s8), (0, s9)] h (some (0, res)) h := by
  unfold f_M_kingOf_j30_5 at hv
  refine jT.if2 (st_M_kingOf) rfl (tgt := 38) (by decide) (fun hc => ?_) (fun hc => ?_)
  · have hc : ¬ (s9 = s8) := hc
    try rw [if_neg hc] at hv
    refine jG.blk (st_M_kingOf) 3 (pc1 := 43) (L1 := [(4, (0, jadd l7 1)), (3, (0, l6)), (0, (2, ((24 : Nat) : Int))), (1, (0, x3)), (2, (0, x4))]) (st1 := []) (h1 := h) rfl ?_
    refine jT.goto (st_M_kingOf) rfl (tgt := 5) (by decide) ?_
    refine jG.subp [2, 3, 4, 1, 0] (L1 := [(0, (2, ((24 : Nat) : Int))), (1, (0, x3)), (2, (0, x4)), (3, (0, l6)), (4, (0, jadd l7 1))]) rfl ?_
    exact hrc _ _ _ hv
  · have hc : s9 = s8 := Decidable.not_not.mp hc
    try rw [if_pos hc] at hv
    refine jG.blk (st_M_kingOf) 1 (pc1 := 35) (L1 := [(0, (2, ((24 : Nat) : Int))), (1, (0, x3)), (2, (0, x4)), (3, (0, l6)), (4, (0, l7))]) (st1 := [(0, l7)]) (h1 := h) rfl ?_
    refine jT.goto (st_M_kingOf) rfl (tgt := 39) (by decide) ?_
    refine jG.blk (st_M_kingOf) 2 (pc1 := 43) (L1 := [(4, (0, jadd l7 1)), (3, (0, l7)), (0, (2, ((24 : Nat) : Int))), (1, (0, x3)), (2, (0, x4))]) (st1 := []) (h1 := h) rfl ?_
    refine jT.goto (st_M_kingOf) rfl (tgt := 5) (by decide) ?_
    refine jG.subp [2, 3, 4, 1, 0] (L1 := [(0, (2, ((24 : Nat) : Int))), (1, (0, x3)), (2, (0, x4)), (3, (0, l7)), (4, (0, jadd l7 1))]) rfl ?_
    exact hrc _ _ _ hv
set_option maxRecDepth 100000 in
set_option maxHeartbeats 4000000 in
theorem f_M_kingOf_lp5_ok (E : jE) {h : jH} {x3 : Int} {x4 : Int} {k : Int → Int → Option (Int)} (hk : ∀ (l1 : Int) (l2 : Int) (res : Int), k l1 l2 = some res → jG E M_M_kingOf 46 [(3, (0, l1))] [] h (some (0, res)) h) : ∀ (n : Nat) (l1 : Int) (l2 : Int) (res : Int), f_M_kingOf_lp5 h x3 x4 k n l1 l2 = some res → jG E M_M_kingOf 5 [(0, (2, ((24 : Nat) : Int))), (1, (0, x3)), (2, (0, x4)), (3, (0, l1)), (4, (0, l2))] [] h (some (0, res)) h := by
  intro n
  induction n with
  | zero => intro l1 l2 res hv; cases hv
  | succ n ih =>
    intro l1 l2 res hv
    rw [f_M_kingOf_lp5] at hv
    refine jG.blk (st_M_kingOf) 2 (pc1 := 9) (L1 := [(0, (2, ((24 : Nat) : Int))), (1, (0, x3)), (2, (0, x4)), (3, (0, l1)), (4, (0, l2))]) (st1 := [(0, 64), (0, l2)]) (h1 := h) rfl ?_
    refine jT.if2 (st_M_kingOf) rfl (tgt := 46) (by decide) (fun hc => ?_) (fun hc => ?_)
    · have hc : 64 ≤ l2 := hc
      try rw [if_pos hc] at hv
      refine jG.subp [3] (L1 := [(3, (0, l1))]) rfl ?_
      exact hk _ _ _ hv
    · have hc : ¬ (64 ≤ l2) := hc
      try rw [if_neg hc] at hv
      refine jG.blk (st_M_kingOf) 3 (pc1 := 16) (L1 := [(0, (2, ((24 : Nat) : Int))), (1, (0, x3)), (2, (0, x4)), (3, (0, l1)), (4, (0, l2))]) (st1 := [(0, l2), (0, x3), (2, ((24 : Nat) : Int))]) (h1 := h) rfl ?_
      obtain ⟨v5, hq, hv⟩ := Option.bind_eq_some_iff.mp hv
      refine jT.cV (M1 := M_M_piece) (2, ((24 : Nat) : Int)) [(0, x3), (0, l2)] [] (st_M_kingOf) rfl rfl ok_M_piece rfl (Or.inl ⟨rfl, _, _, _, rfl, rfl⟩) (Nat.le_of_ble_eq_true rfl) (Nat.le_of_ble_eq_true rfl) rfl (Nat.le_of_ble_eq_true rfl) (C_M_piece hq) ?_
      show jG E _ 19 [(0, (2, ((24 : Nat) : Int))), (1, (0, x3)), (2, (0, x4)), (3, (0, l1)), (4, (0, l2))] [(0, v5)] h _ _
      refine jG.blk (st_M_kingOf) 1 (pc1 := 20) (L1 := [(0, (2, ((24 : Nat) : Int))), (1, (0, x3)), (2, (0, x4)), (3, (0, l1)), (4, (0, l2))]) (st1 := [(0, x4), (0, v5)]) (h1 := h) rfl ?_
      refine jT.if1 (st_M_kingOf) rfl (tgt := 28) (by decide) (fun hc => ?_) (fun hc => ?_)
      · have hc : ¬ (x4 = 0) := hc
        try rw [if_neg hc] at hv
        refine jG.blk (st_M_kingOf) 1 (pc1 := 30) (L1 := [(0, (2, ((24 : Nat) : Int))), (1, (0, x3)), (2, (0, x4)), (3, (0, l1)), (4, (0, l2))]) (st1 := [(0, 12), (0, v5)]) (h1 := h) rfl ?_
        exact f_M_kingOf_j30_5_ok E ih hk hv
      · have hc : x4 = 0 := Decidable.not_not.mp hc
        try rw [if_pos hc] at hv
        refine jG.blk (st_M_kingOf) 1 (pc1 := 25) (L1 := [(0, (2, ((24 : Nat) : Int))), (1, (0, x3)), (2, (0, x4)), (3, (0, l1)), (4, (0, l2))]) (st1 := [(0, 6), (0, v5)]) (h1 := h) rfl ?_
        refine jT.goto (st_M_kingOf) rfl (tgt := 30) (by decide) ?_
        exact f_M_kingOf_j30_5_ok E ih hk hv
set_option maxRecDepth 100000 in
set_option maxHeartbeats 4000000 in
theorem C_M_kingOf {E : jE} {h : jH} {a1 : Int} {a2 : Int} {res : Int} (hv : f_M_kingOf h a1 a2 = some res) : jC E M_M_kingOf [(2, ((24 : Nat) : Int)), (0, a1), (0, a2)] h (some (0, res)) h := by
  refine jC.of ok_M_kingOf.1 (by rw [jlg]; exact Nat.le_of_ble_eq_true rfl) ?_
  show jG E _ 0 [(0, (2, ((24 : Nat) : Int))), (1, (0, a1)), (2, (0, a2))] [] h _ _
  unfold f_M_kingOf at hv
  refine jG.blk (st_M_kingOf) 4 (pc1 := 5) (L1 := [(4, (0, 0)), (3, (0, (-1))), (0, (2, ((24 : Nat) : Int))), (1, (0, a1)), (2, (0, a2))]) (st1 := []) (h1 := h) rfl ?_
  refine jG.subp [2, 3, 4, 1, 0] (L1 := [(0, (2, ((24 : Nat) : Int))), (1, (0, a1)), (2, (0, a2)), (3, (0, (-1))), (4, (0, 0))]) rfl ?_
  refine f_M_kingOf_lp5_ok E (fun l10 l11 res hv => ?_) 1000 _ _ _ hv
  · refine jG.blk (st_M_kingOf) 1 (pc1 := 47) (L1 := [(3, (0, l10))]) (st1 := [(0, l10)]) (h1 := h) rfl ?_
    cases hv
    exact jT.iret (st_M_kingOf) rfl trivial
def f_M_isOf (h : jH) (a1 : Int) (a2 : Int) (a3 : Int) : Option (Int) := (f_M_piece h a1 a2).bind fun v1 => some (if a3 = 0 then if v1 < 1 then 0 else if 6 < v1 then 0 else 1 else if v1 < 7 then 0 else 1)
set_option maxRecDepth 100000 in
set_option maxHeartbeats 4000000 in
theorem C_M_isOf {E : jE} {h : jH} {a1 : Int} {a2 : Int} {a3 : Int} {res : Int} (hv : f_M_isOf h a1 a2 a3 = some res) : jC E M_M_isOf [(2, ((24 : Nat) : Int)), (0, a1), (0, a2), (0, a3)] h (some (0, res)) h := by
  refine jC.of ok_M_isOf.1 (by rw [jlg]; exact Nat.le_of_ble_eq_true rfl) ?_
  show jG E _ 0 [(0, (2, ((24 : Nat) : Int))), (1, (0, a1)), (2, (0, a2)), (3, (0, a3))] [] h _ _
  unfold f_M_isOf at hv
  refine jG.blk (st_M_isOf) 3 (pc1 := 3) (L1 := [(0, (2, ((24 : Nat) : Int))), (1, (0, a1)), (2, (0, a2)), (3, (0, a3))]) (st1 := [(0, a2), (0, a1), (2, ((24 : Nat) : Int))]) (h1 := h) rfl ?_
  obtain ⟨v1, hq, hv⟩ := Option.bind_eq_some_iff.mp hv
  refine jT.cV (M1 := M_M_piece) (2, ((24 : Nat) : Int)) [(0, a1), (0, a2)] [] (st_M_isOf) rfl rfl ok_M_piece rfl (Or.inl ⟨rfl, _, _, _, rfl, rfl⟩) (Nat.le_of_ble_eq_true rfl) (Nat.le_of_ble_eq_true rfl) rfl (Nat.le_of_ble_eq_true rfl) (C_M_piece hq) ?_
  show jG E _ 6 [(0, (2, ((24 : Nat) : Int))), (1, (0, a1)), (2, (0, a2)), (3, (0, a3))] [(0, v1)] h _ _
  refine jG.blk (st_M_isOf) 2 (pc1 := 9) (L1 := [(4, (0, v1)), (0, (2, ((24 : Nat) : Int))), (1, (0, a1)), (2, (0, a2)), (3, (0, a3))]) (st1 := [(0, a3)]) (h1 := h) rfl ?_
  refine jT.if1 (st_M_isOf) rfl (tgt := 33) (by decide) (fun hc => ?_) (fun hc => ?_)
  · have hc : ¬ (a3 = 0) := hc
    try rw [if_neg hc] at hv
    refine jG.blk (st_M_isOf) 2 (pc1 := 37) (L1 := [(4, (0, v1)), (0, (2, ((24 : Nat) : Int))), (1, (0, a1)), (2, (0, a2)), (3, (0, a3))]) (st1 := [(0, 7), (0, v1)]) (h1 := h) rfl ?_
    refine jT.if2 (st_M_isOf) rfl (tgt := 44) (by decide) (fun hc => ?_) (fun hc => ?_)
    · have hc : v1 < 7 := hc
      try rw [if_pos hc] at hv
      refine jG.blk (st_M_isOf) 1 (pc1 := 45) (L1 := [(4, (0, v1)), (0, (2, ((24 : Nat) : Int))), (1, (0, a1)), (2, (0, a2)), (3, (0, a3))]) (st1 := [(0, 0)]) (h1 := h) rfl ?_
      cases hv
      exact jT.iret (st_M_isOf) rfl (Or.inl rfl)
    · have hc : ¬ (v1 < 7) := hc
      try rw [if_neg hc] at hv
      refine jG.blk (st_M_isOf) 1 (pc1 := 41) (L1 := [(4, (0, v1)), (0, (2, ((24 : Nat) : Int))), (1, (0, a1)), (2, (0, a2)), (3, (0, a3))]) (st1 := [(0, 1)]) (h1 := h) rfl ?_
      refine jT.goto (st_M_isOf) rfl (tgt := 45) (by decide) ?_
      cases hv
      exact jT.iret (st_M_isOf) rfl (Or.inr rfl)
  · have hc : a3 = 0 := Decidable.not_not.mp hc
    try rw [if_pos hc] at hv
    refine jG.blk (st_M_isOf) 2 (pc1 := 15) (L1 := [(4, (0, v1)), (0, (2, ((24 : Nat) : Int))), (1, (0, a1)), (2, (0, a2)), (3, (0, a3))]) (st1 := [(0, 1), (0, v1)]) (h1 := h) rfl ?_
    refine jT.if2 (st_M_isOf) rfl (tgt := 29) (by decide) (fun hc => ?_) (fun hc => ?_)
    · have hc : v1 < 1 := hc
      try rw [if_pos hc] at hv
      refine jG.blk (st_M_isOf) 1 (pc1 := 30) (L1 := [(4, (0, v1)), (0, (2, ((24 : Nat) : Int))), (1, (0, a1)), (2, (0, a2)), (3, (0, a3))]) (st1 := [(0, 0)]) (h1 := h) rfl ?_
      refine jT.goto (st_M_isOf) rfl (tgt := 45) (by decide) ?_
      cases hv
      exact jT.iret (st_M_isOf) rfl (Or.inl rfl)
    · have hc : ¬ (v1 < 1) := hc
      try rw [if_neg hc] at hv
      refine jG.blk (st_M_isOf) 2 (pc1 := 22) (L1 := [(4, (0, v1)), (0, (2, ((24 : Nat) : Int))), (1, (0, a1)), (2, (0, a2)), (3, (0, a3))]) (st1 := [(0, 6), (0, v1)]) (h1 := h) rfl ?_
      refine jT.if2 (st_M_isOf) rfl (tgt := 29) (by decide) (fun hc => ?_) (fun hc => ?_)
      · have hc : 6 < v1 := hc
        try rw [if_pos hc] at hv
        refine jG.blk (st_M_isOf) 1 (pc1 := 30) (L1 := [(4, (0, v1)), (0, (2, ((24 : Nat) : Int))), (1, (0, a1)), (2, (0, a2)), (3, (0, a3))]) (st1 := [(0, 0)]) (h1 := h) rfl ?_
        refine jT.goto (st_M_isOf) rfl (tgt := 45) (by decide) ?_
        cases hv
        exact jT.iret (st_M_isOf) rfl (Or.inl rfl)
      · have hc : ¬ (6 < v1) := hc
        try rw [if_neg hc] at hv
        refine jG.blk (st_M_isOf) 1 (pc1 := 26) (L1 := [(4, (0, v1)), (0, (2, ((24 : Nat) : Int))), (1, (0, a1)), (2, (0, a2)), (3, (0, a3))]) (st1 := [(0, 1)]) (h1 := h) rfl ?_
        refine jT.goto (st_M_isOf) rfl (tgt := 45) (by decide) ?_
        cases hv
        exact jT.iret (st_M_isOf) rfl (Or.inr rfl)
def f_M_size (h : jH) (a0 : Int) : Option (Int) := some (if 0 ≤ a0 then a0 else jneg a0)
set_option maxRecDepth 100000 in
set_option maxHeartbeats 4000000 in
theorem C_M_size {E : jE} {h : jH} {a0 : Int} {res : Int} (hv : f_M_size h a0 = some res) : jC E M_M_size [(0, a0)] h (some (0, res)) h := by
  refine jC.of ok_M_size.1 (by rw [jlg]; exact Nat.le_of_ble_eq_true rfl) ?_
  show jG E _ 0 [(0, (0, a0))] [] h _ _
  unfold f_M_size at hv
  refine jG.blk (st_M_size) 1 (pc1 := 1) (L1 := [(0, (0, a0))]) (st1 := [(0, a0)]) (h1 := h) rfl ?_
  refine jT.if1 (st_M_size) rfl (tgt := 9) (by decide) (fun hc => ?_) (fun hc => ?_)
  · have hc : 0 ≤ a0 := hc
    try rw [if_pos hc] at hv
    refine jG.blk (st_M_size) 1 (pc1 := 10) (L1 := [(0, (0, a0))]) (st1 := [(0, a0)]) (h1 := h) rfl ?_
    cases hv
    exact jT.iret (st_M_size) rfl trivial
  · have hc : ¬ (0 ≤ a0) := hc
    try rw [if_neg hc] at hv
    refine jG.blk (st_M_size) 2 (pc1 := 6) (L1 := [(0, (0, a0))]) (st1 := [(0, jneg a0)]) (h1 := h) rfl ?_
    refine jT.goto (st_M_size) rfl (tgt := 10) (by decide) ?_
    cases hv
    exact jT.iret (st_M_size) rfl trivial
def f_M_signOf (h : jH) (a0 : Int) : Option (Int) := some (if a0 ≤ 0 then if 0 ≤ a0 then 0 else (-1) else 1)
set_option maxRecDepth 100000 in
set_option maxHeartbeats 4000000 in
theorem C_M_signOf {E : jE} {h : jH} {a0 : Int} {res : Int} (hv : f_M_signOf h a0 = some res) : jC E M_M_signOf [(0, a0)] h (some (0, res)) h := by
  refine jC.of ok_M_signOf.1 (by rw [jlg]; exact Nat.le_of_ble_eq_true rfl) ?_
  show jG E _ 0 [(0, (0, a0))] [] h _ _
  unfold f_M_signOf at hv
  refine jG.blk (st_M_signOf) 1 (pc1 := 1) (L1 := [(0, (0, a0))]) (st1 := [(0, a0)]) (h1 := h) rfl ?_
  refine jT.if1 (st_M_signOf) rfl (tgt := 8) (by decide) (fun hc => ?_) (fun hc => ?_)
  · have hc : a0 ≤ 0 := hc
    try rw [if_pos hc] at hv
    refine jG.blk (st_M_signOf) 1 (pc1 := 9) (L1 := [(0, (0, a0))]) (st1 := [(0, a0)]) (h1 := h) rfl ?_
    refine jT.if1 (st_M_signOf) rfl (tgt := 16) (by decide) (fun hc => ?_) (fun hc => ?_)
    · have hc : 0 ≤ a0 := hc
      try rw [if_pos hc] at hv
      refine jG.blk (st_M_signOf) 1 (pc1 := 17) (L1 := [(0, (0, a0))]) (st1 := [(0, 0)]) (h1 := h) rfl ?_
      cases hv
      exact jT.iret (st_M_signOf) rfl trivial
    · have hc : ¬ (0 ≤ a0) := hc
      try rw [if_neg hc] at hv
      refine jG.blk (st_M_signOf) 1 (pc1 := 13) (L1 := [(0, (0, a0))]) (st1 := [(0, (-1))]) (h1 := h) rfl ?_
      refine jT.goto (st_M_signOf) rfl (tgt := 17) (by decide) ?_
      cases hv
      exact jT.iret (st_M_signOf) rfl trivial
  · have hc : ¬ (a0 ≤ 0) := hc
    try rw [if_neg hc] at hv
    refine jG.blk (st_M_signOf) 1 (pc1 := 5) (L1 := [(0, (0, a0))]) (st1 := [(0, 1)]) (h1 := h) rfl ?_
    refine jT.goto (st_M_signOf) rfl (tgt := 17) (by decide) ?_
    cases hv
    exact jT.iret (st_M_signOf) rfl trivial
def f_M_isClear_j65_39 (rc : Int → Int → Option (Int)) (k : Int → Int → Option (Int)) (h : jH) (x5 : Int) (x6 : Int) (x7 : Int) (l9 : Int) (s10 : Int) : Option (Int) := rc s10 (jadd l9 x7)
def f_M_isClear_lp39 (h : jH) (x5 : Int) (x6 : Int) (x7 : Int) (k : Int → Int → Option (Int)) : Nat → Int → Int → Option (Int)
  | 0, _, _ => none
  | n + 1, l3, l4 => if l4 = x6 then k l3 l4 else if l3 = 0 then k l3 l4 else (f_M_piece h x5 l4).bind fun v8 => f_M_isClear_j65_39 (f_M_isClear_lp39 h x5 x6 x7 k n) k h x5 x6 x7 l4 (if v8 = 0 then 1 else 0)
def f_M_isClear (h : jH) (a1 : Int) (a2 : Int) (a3 : Int) : Option (Int) := (f_M_signOf h (jsub (jdiv a3 8) (jdiv a2 8))).bind fun v1 => (f_M_signOf h (jsub (jrem a3 8) (jrem a2 8))).bind fun v2 => f_M_isClear_lp39 h a1 a3 (jadd (jmul 8 v1) v2) (fun l11 l12 => jgd (l11 = 0 ∨ l11 = 1) (some l11)) 1000 1 (jadd a2 (jadd (jmul 8 v1) v2))
set_option maxRecDepth 100000 in
set_option maxHeartbeats 4000000 in
theorem f_M_isClear_j65_39_ok (E : jE) {rc : Int → Int → Option (Int)} {k : Int → Int → Option (Int)} {h : jH} {x5 : Int} {x6 : Int} {x7 : Int} (hrc : ∀ (l3 : Int) (l4 : Int) (res : Int), rc l3 l4 = some res → jG E M_M_isClear 39 [(0, (2, ((24 : Nat) : Int))), (1, (0, x5)), (3, (0, x6)), (4, (0, x7)), (5, (0, l3)), (6, (0, l4))] [] h (some (0, res)) h) (hk : ∀ (l3 : Int) (l4 : Int) (res : Int), k l3 l4 = some res → jG E M_M_isClear 77 [(5, (0, l3))] [] h (some (0, res)) h) {l9 : Int} {s10 : Int} {res : Int} (hv : f_M_isClear_j65_39 rc k h x5 x6 x7 l9 s10 = some res) : jG E M_M_isClear 65 [(0, (2, ((24 : Nat) : Int))), (1, (0, x5)), (3, (0, x6)), (4, (0, x7)), (6, (0, l9))] [(0, s10)] h (some (0, res)) h := by
  unfold f_M_isClear_j65_39 at hv
  refine jG.blk (st_M_isClear) 5 (pc1 := 74) (L1 := [(6, (0, jadd l9 x7)), (5, (0, s10)), (0, (2, ((24 : Nat) : Int))), (1, (0, x5)), (3, (0, x6)), (4, (0, x7))]) (st1 := []) (h1 := h) rfl ?_
  refine jT.goto (st_M_isClear) rfl (tgt := 39) (by decide) ?_
  refine jG.subp [2, 3, 4, 5, 1, 0] (L1 := [(0, (2, ((24 : Nat) : Int))), (1, (0, x5)), (3, (0, x6)), (4, (0, x7)), (5, (0, s10)), (6, (0, jadd l9 x7))]) rfl ?_
  exact hrc _ _ _ hv
set_option maxRecDepth 100000 in
set_option maxHeartbeats 4000000 in
theorem f_M_isClear_lp39_ok (E : jE) {h : jH} {x5 : Int} {x6 : Int} {x7 : Int} {k : Int → Int → Option (Int)} (hk : ∀ (l3 : Int) (l4 : Int) (res : Int), k l3 l4 = some res → jG E M_M_isClear 77 [(5, (0, l3))] [] h (some (0, res)) h) : ∀ (n : Nat) (l3 : Int) (l4 : Int) (res : Int), f_M_isClear_lp39 h x5 x6 x7 k n l3 l4 = some res → jG E M_M_isClear 39 [(0, (2, ((24 : Nat) : Int))), (1, (0, x5)), (3, (0, x6)), (4, (0, x7)), (5, (0, l3)), (6, (0, l4))] [] h (some (0, res)) h := by
  intro n
  induction n with
  | zero => intro l3 l4 res hv; cases hv
  | succ n ih =>
    intro l3 l4 res hv
    rw [f_M_isClear_lp39] at hv
    refine jG.blk (st_M_isClear) 2 (pc1 := 42) (L1 := [(0, (2, ((24 : Nat) : Int))), (1, (0, x5)), (3, (0, x6)), (4, (0, x7)), (5, (0, l3)), (6, (0, l4))]) (st1 := [(0, x6), (0, l4)]) (h1 := h) rfl ?_
    refine jT.if2 (st_M_isClear) rfl (tgt := 77) (by decide) (fun hc => ?_) (fun hc => ?_)
    · have hc : l4 = x6 := hc
      try rw [if_pos hc] at hv
      refine jG.subp [4] (L1 := [(5, (0, l3))]) rfl ?_
      exact hk _ _ _ hv
    · have hc : ¬ (l4 = x6) := hc
      try rw [if_neg hc] at hv
      refine jG.blk (st_M_isClear) 1 (pc1 := 47) (L1 := [(0, (2, ((24 : Nat) : Int))), (1, (0, x5)), (3, (0, x6)), (4, (0, x7)), (5, (0, l3)), (6, (0, l4))]) (st1 := [(0, l3)]) (h1 := h) rfl ?_
      refine jT.if1 (st_M_isClear) rfl (tgt := 77) (by decide) (fun hc => ?_) (fun hc => ?_)
      · have hc : l3 = 0 := hc
        try rw [if_pos hc] at hv
        refine jG.subp [4] (L1 := [(5, (0, l3))]) rfl ?_
        exact hk _ _ _ hv
      · have hc : ¬ (l3 = 0) := hc
        try rw [if_neg hc] at hv
        refine jG.blk (st_M_isClear) 3 (pc1 := 54) (L1 := [(0, (2, ((24 : Nat) : Int))), (1, (0, x5)), (3, (0, x6)), (4, (0, x7)), (5, (0, l3)), (6, (0, l4))]) (st1 := [(0, l4), (0, x5), (2, ((24 : Nat) : Int))]) (h1 := h) rfl ?_
        obtain ⟨v8, hq, hv⟩ := Option.bind_eq_some_iff.mp hv
        refine jT.cV (M1 := M_M_piece) (2, ((24 : Nat) : Int)) [(0, x5), (0, l4)] [] (st_M_isClear) rfl rfl ok_M_piece rfl (Or.inl ⟨rfl, _, _, _, rfl, rfl⟩) (Nat.le_of_ble_eq_true rfl) (Nat.le_of_ble_eq_true rfl) rfl (Nat.le_of_ble_eq_true rfl) (C_M_piece hq) ?_
        show jG E _ 57 [(0, (2, ((24 : Nat) : Int))), (1, (0, x5)), (3, (0, x6)), (4, (0, x7)), (5, (0, l3)), (6, (0, l4))] [(0, v8)] h _ _
        refine jT.if1 (st_M_isClear) rfl (tgt := 64) (by decide) (fun hc => ?_) (fun hc => ?_)
        · have hc : ¬ (v8 = 0) := hc
          try rw [if_neg hc] at hv
          refine jG.blk (st_M_isClear) 1 (pc1 := 65) (L1 := [(0, (2, ((24 : Nat) : Int))), (1, (0, x5)), (3, (0, x6)), (4, (0, x7)), (5, (0, l3)), (6, (0, l4))]) (st1 := [(0, 0)]) (h1 := h) rfl ?_
          refine jG.subp [0, 1, 2, 3, 5] (L1 := [(0, (2, ((24 : Nat) : Int))), (1, (0, x5)), (3, (0, x6)), (4, (0, x7)), (6, (0, l4))]) rfl ?_
          exact f_M_isClear_j65_39_ok E ih hk hv
        · have hc : v8 = 0 := Decidable.not_not.mp hc
          try rw [if_pos hc] at hv
          refine jG.blk (st_M_isClear) 1 (pc1 := 61) (L1 := [(0, (2, ((24 : Nat) : Int))), (1, (0, x5)), (3, (0, x6)), (4, (0, x7)), (5, (0, l3)), (6, (0, l4))]) (st1 := [(0, 1)]) (h1 := h) rfl ?_
          refine jT.goto (st_M_isClear) rfl (tgt := 65) (by decide) ?_
          refine jG.subp [0, 1, 2, 3, 5] (L1 := [(0, (2, ((24 : Nat) : Int))), (1, (0, x5)), (3, (0, x6)), (4, (0, x7)), (6, (0, l4))]) rfl ?_
          exact f_M_isClear_j65_39_ok E ih hk hv
set_option maxRecDepth 100000 in
set_option maxHeartbeats 4000000 in
theorem C_M_isClear {E : jE} {h : jH} {a1 : Int} {a2 : Int} {a3 : Int} {res : Int} (hv : f_M_isClear h a1 a2 a3 = some res) : jC E M_M_isClear [(2, ((24 : Nat) : Int)), (0, a1), (0, a2), (0, a3)] h (some (0, res)) h := by
  refine jC.of ok_M_isClear.1 (by rw [jlg]; exact Nat.le_of_ble_eq_true rfl) ?_
  show jG E _ 0 [(0, (2, ((24 : Nat) : Int))), (1, (0, a1)), (2, (0, a2)), (3, (0, a3))] [] h _ _
  unfold f_M_isClear at hv
  refine jG.blk (st_M_isClear) 8 (pc1 := 11) (L1 := [(0, (2, ((24 : Nat) : Int))), (1, (0, a1)), (2, (0, a2)), (3, (0, a3))]) (st1 := [(0, jsub (jdiv a3 8) (jdiv a2 8)), (0, 8)]) (h1 := h) rfl ?_
  obtain ⟨v1, hq, hv⟩ := Option.bind_eq_some_iff.mp hv
  refine jT.cS (M1 := M_M_signOf) [(0, jsub (jdiv a3 8) (jdiv a2 8))] [(0, 8)] (st_M_isClear) rfl rfl ok_M_signOf rfl (Nat.le_of_ble_eq_true rfl) (Nat.le_of_ble_eq_true rfl) rfl (Nat.le_of_ble_eq_true rfl) (C_M_signOf hq) ?_
  show jG E _ 14 [(0, (2, ((24 : Nat) : Int))), (1, (0, a1)), (2, (0, a2)), (3, (0, a3))] [(0, v1), (0, 8)] h _ _
  refine jG.blk (st_M_isClear) 8 (pc1 := 24) (L1 := [(0, (2, ((24 : Nat) : Int))), (1, (0, a1)), (2, (0, a2)), (3, (0, a3))]) (st1 := [(0, jsub (jrem a3 8) (jrem a2 8)), (0, jmul 8 v1)]) (h1 := h) rfl ?_
  obtain ⟨v2, hq, hv⟩ := Option.bind_eq_some_iff.mp hv
  refine jT.cS (M1 := M_M_signOf) [(0, jsub (jrem a3 8) (jrem a2 8))] [(0, jmul 8 v1)] (st_M_isClear) rfl rfl ok_M_signOf rfl (Nat.le_of_ble_eq_true rfl) (Nat.le_of_ble_eq_true rfl) rfl (Nat.le_of_ble_eq_true rfl) (C_M_signOf hq) ?_
  show jG E _ 27 [(0, (2, ((24 : Nat) : Int))), (1, (0, a1)), (2, (0, a2)), (3, (0, a3))] [(0, v2), (0, jmul 8 v1)] h _ _
  refine jG.blk (st_M_isClear) 8 (pc1 := 39) (L1 := [(6, (0, jadd a2 (jadd (jmul 8 v1) v2))), (5, (0, 1)), (4, (0, jadd (jmul 8 v1) v2)), (0, (2, ((24 : Nat) : Int))), (1, (0, a1)), (2, (0, a2)), (3, (0, a3))]) (st1 := []) (h1 := h) rfl ?_
  refine jG.subp [3, 4, 6, 2, 1, 0] (L1 := [(0, (2, ((24 : Nat) : Int))), (1, (0, a1)), (3, (0, a3)), (4, (0, jadd (jmul 8 v1) v2)), (5, (0, 1)), (6, (0, jadd a2 (jadd (jmul 8 v1) v2)))]) rfl ?_
  refine f_M_isClear_lp39_ok E (fun l11 l12 res hv => ?_) 1000 _ _ _ hv
  · refine jG.blk (st_M_isClear) 1 (pc1 := 79) (L1 := [(5, (0, l11))]) (st1 := [(0, l11)]) (h1 := h) rfl ?_
    obtain ⟨hg, hv⟩ := jgd_some hv
    cases hv
    exact jT.iret (st_M_isClear) rfl hg
def f_M_doesAttack_j154 (h : jH) (s42 : Int) (s43 : Int) : Option (Int) := some (if s43 = s42 then 1 else 0)
def f_M_doesAttack_j230 (h : jH) (l46 : Int) (l47 : Int) (l48 : Int) : Option (Int) := (f_M_isClear h l46 l47 l48).bind fun v49 => some (if v49 = 0 then 0 else 1)
def f_M_doesAttack_j83 (h : jH) (l33 : Int) (l34 : Int) (l35 : Int) (l36 : Int) (l37 : Int) (l38 : Int) (l39 : Int) (s40 : Int) : Option (Int) := (f_M_kindOf h l36).bind fun v41 => if v41 = 1 then if l37 = 1 then f_M_doesAttack_j154 h (if l36 = 1 then 1 else (-1)) (jsub (jdiv l35 8) (jdiv l34 8)) else some 0 else if v41 = 2 then some (if jmul l37 l38 = 2 then 1 else 0) else if v41 = 3 then if s40 = 0 then some 0 else (f_M_isClear h l33 l34 l35).bind fun v44 => some (if v44 = 0 then 0 else 1) else if v41 = 4 then if l39 = 0 then some 0 else (f_M_isClear h l33 l34 l35).bind fun v45 => some (if v45 = 0 then 0 else 1) else if v41 = 5 then if l39 = 0 then if s40 = 0 then some 0 else f_M_doesAttack_j230 h l33 l34 l35 else f_M_doesAttack_j230 h l33 l34 l35 else some (if v41 = 6 then if 1 < l37 then 0 else if 1 < l38 then 0 else if jadd l37 l38 ≤ 0 then 0 else 1 else 0)
def f_M_doesAttack_j82 (h : jH) (l26 : Int) (l27 : Int) (l28 : Int) (l29 : Int) (l30 : Int) (l31 : Int) (l32 : Int) : Option (Int) := f_M_doesAttack_j83 h l26 l27 l28 l29 l30 l31 l32 0
def f_M_doesAttack_j64 (h : jH) (l19 : Int) (l20 : Int) (l21 : Int) (l22 : Int) (l23 : Int) (l24 : Int) (s25 : Int) : Option (Int) := if l23 = l24 then if l23 ≤ 0 then f_M_doesAttack_j82 h l19 l20 l21 l22 l23 l24 s25 else f_M_doesAttack_j83 h l19 l20 l21 l22 l23 l24 s25 1 else f_M_doesAttack_j82 h l19 l20 l21 l22 l23 l24 s25
def f_M_doesAttack_j56 (h : jH) (l11 : Int) (l12 : Int) (l13 : Int) (l14 : Int) (l15 : Int) (l16 : Int) (s17 : Int) (s18 : Int) : Option (Int) := f_M_doesAttack_j64 h l11 l12 l13 l14 l15 l16 (if s18 = s17 then 0 else 1)
def f_M_doesAttack_j46 (h : jH) (l4 : Int) (l5 : Int) (l6 : Int) (l7 : Int) (l8 : Int) (l9 : Int) (s10 : Int) : Option (Int) := f_M_doesAttack_j56 h l4 l5 l6 l7 l8 l9 (if l9 = 0 then 1 else 0) s10
def f_M_doesAttack (h : jH) (a1 : Int) (a2 : Int) (a3 : Int) : Option (Int) := (f_M_piece h a1 a2).bind fun v1 => (f_M_size h (jsub (jrem a3 8) (jrem a2 8))).bind fun v2 => (f_M_size h (jsub (jdiv a3 8) (jdiv a2 8))).bind fun v3 => f_M_doesAttack_j46 h a1 a2 a3 v1 v2 v3 (if v2 = 0 then 1 else 0)
set_option maxRecDepth 100000 in
set_option maxHeartbeats 4000000 in
theorem f_M_doesAttack_j154_ok (E : jE) {h : jH} {s42 : Int} {s43 : Int} {res : Int} (hv : f_M_doesAttack_j154 h s42 s43 = some res) : jG E M_M_doesAttack 154 [] [(0, s42), (0, s43)] h (some (0, res)) h := by
  unfold f_M_doesAttack_j154 at hv
  refine jT.if2 (st_M_doesAttack) rfl (tgt := 161) (by decide) (fun hc => ?_) (fun hc => ?_)
  · have hc : ¬ (s43 = s42) := hc
    try rw [if_neg hc] at hv
    refine jG.blk (st_M_doesAttack) 1 (pc1 := 162) (L1 := []) (st1 := [(0, 0)]) (h1 := h) rfl ?_
    cases hv
    exact jT.iret (st_M_doesAttack) rfl (Or.inl rfl)
  · have hc : s43 = s42 := Decidable.not_not.mp hc
    try rw [if_pos hc] at hv
    refine jG.blk (st_M_doesAttack) 1 (pc1 := 158) (L1 := []) (st1 := [(0, 1)]) (h1 := h) rfl ?_
    refine jT.goto (st_M_doesAttack) rfl (tgt := 162) (by decide) ?_
    cases hv
    exact jT.iret (st_M_doesAttack) rfl (Or.inr rfl)
set_option maxRecDepth 100000 in
set_option maxHeartbeats 4000000 in
theorem f_M_doesAttack_j230_ok (E : jE) {h : jH} {l46 : Int} {l47 : Int} {l48 : Int} {res : Int} (hv : f_M_doesAttack_j230 h l46 l47 l48 = some res) : jG E M_M_doesAttack 230 [(0, (2, ((24 : Nat) : Int))), (1, (0, l46)), (2, (0, l47)), (3, (0, l48))] [] h (some (0, res)) h := by
  unfold f_M_doesAttack_j230 at hv
  refine jG.blk (st_M_doesAttack) 4 (pc1 := 234) (L1 := [(0, (2, ((24 : Nat) : Int))), (1, (0, l46)), (2, (0, l47)), (3, (0, l48))]) (st1 := [(0, l48), (0, l47), (0, l46), (2, ((24 : Nat) : Int))]) (h1 := h) rfl ?_
  obtain ⟨v49, hq, hv⟩ := Option.bind_eq_some_iff.mp hv
  refine jT.cV (M1 := M_M_isClear) (2, ((24 : Nat) : Int)) [(0, l46), (0, l47), (0, l48)] [] (st_M_doesAttack) rfl rfl ok_M_isClear rfl (Or.inl ⟨rfl, _, _, _, rfl, rfl⟩) (Nat.le_of_ble_eq_true rfl) (Nat.le_of_ble_eq_true rfl) rfl (Nat.le_of_ble_eq_true rfl) (C_M_isClear hq) ?_
  show jG E _ 237 [(0, (2, ((24 : Nat) : Int))), (1, (0, l46)), (2, (0, l47)), (3, (0, l48))] [(0, v49)] h _ _
  refine jT.if1 (st_M_doesAttack) rfl (tgt := 244) (by decide) (fun hc => ?_) (fun hc => ?_)
  · have hc : v49 = 0 := hc
    try rw [if_pos hc] at hv
    refine jG.blk (st_M_doesAttack) 1 (pc1 := 245) (L1 := [(0, (2, ((24 : Nat) : Int))), (1, (0, l46)), (2, (0, l47)), (3, (0, l48))]) (st1 := [(0, 0)]) (h1 := h) rfl ?_
    cases hv
    exact jT.iret (st_M_doesAttack) rfl (Or.inl rfl)
  · have hc : ¬ (v49 = 0) := hc
    try rw [if_neg hc] at hv
    refine jG.blk (st_M_doesAttack) 1 (pc1 := 241) (L1 := [(0, (2, ((24 : Nat) : Int))), (1, (0, l46)), (2, (0, l47)), (3, (0, l48))]) (st1 := [(0, 1)]) (h1 := h) rfl ?_
    refine jT.goto (st_M_doesAttack) rfl (tgt := 245) (by decide) ?_
    cases hv
    exact jT.iret (st_M_doesAttack) rfl (Or.inr rfl)
set_option maxRecDepth 100000 in
set_option maxHeartbeats 4000000 in
theorem f_M_doesAttack_j83_ok (E : jE) {h : jH} {l33 : Int} {l34 : Int} {l35 : Int} {l36 : Int} {l37 : Int} {l38 : Int} {l39 : Int} {s40 : Int} {res : Int} (hv : f_M_doesAttack_j83 h l33 l34 l35 l36 l37 l38 l39 s40 = some res) : jG E M_M_doesAttack 83 [(0, (2, ((24 : Nat) : Int))), (1, (0, l33)), (2, (0, l34)), (3, (0, l35)), (4, (0, l36)), (5, (0, l37)), (6, (0, l38)), (7, (0, l39))] [(0, s40)] h (some (0, res)) h := by
  unfold f_M_doesAttack_j83 at hv
  refine jG.blk (st_M_doesAttack) 2 (pc1 := 87) (L1 := [(8, (0, s40)), (0, (2, ((24 : Nat) : Int))), (1, (0, l33)), (2, (0, l34)), (3, (0, l35)), (4, (0, l36)), (5, (0, l37)), (6, (0, l38)), (7, (0, l39))]) (st1 := [(0, l36)]) (h1 := h) rfl ?_
  obtain ⟨v41, hq, hv⟩ := Option.bind_eq_some_iff.mp hv
  refine jT.cS (M1 := M_M_kindOf) [(0, l36)] [] (st_M_doesAttack) rfl rfl ok_M_kindOf rfl (Nat.le_of_ble_eq_true rfl) (Nat.le_of_ble_eq_true rfl) rfl (Nat.le_of_ble_eq_true rfl) (C_M_kindOf hq) ?_
  show jG E _ 90 [(8, (0, s40)), (0, (2, ((24 : Nat) : Int))), (1, (0, l33)), (2, (0, l34)), (3, (0, l35)), (4, (0, l36)), (5, (0, l37)), (6, (0, l38)), (7, (0, l39))] [(0, v41)] h _ _
  by_cases hn0 : v41 = 1
  · try rw [if_pos hn0] at hv
    refine jT.tswI (st_M_doesAttack) rfl (by omega) (by omega) (off := 38) (by rw [hn0]; rfl) (tgt := 128) (by decide) ?_
    refine jG.blk (st_M_doesAttack) 2 (pc1 := 131) (L1 := [(8, (0, s40)), (0, (2, ((24 : Nat) : Int))), (1, (0, l33)), (2, (0, l34)), (3, (0, l35)), (4, (0, l36)), (5, (0, l37)), (6, (0, l38)), (7, (0, l39))]) (st1 := [(0, 1), (0, l37)]) (h1 := h) rfl ?_
    refine jT.if2 (st_M_doesAttack) rfl (tgt := 161) (by decide) (fun hc => ?_) (fun hc => ?_)
    · have hc : ¬ (l37 = 1) := hc
      try rw [if_neg hc] at hv
      refine jG.blk (st_M_doesAttack) 1 (pc1 := 162) (L1 := [(8, (0, s40)), (0, (2, ((24 : Nat) : Int))), (1, (0, l33)), (2, (0, l34)), (3, (0, l35)), (4, (0, l36)), (5, (0, l37)), (6, (0, l38)), (7, (0, l39))]) (st1 := [(0, 0)]) (h1 := h) rfl ?_
      cases hv
      exact jT.iret (st_M_doesAttack) rfl (Or.inl rfl)
    · have hc : l37 = 1 := Decidable.not_not.mp hc
      try rw [if_pos hc] at hv
      refine jG.blk (st_M_doesAttack) 9 (pc1 := 146) (L1 := [(8, (0, s40)), (0, (2, ((24 : Nat) : Int))), (1, (0, l33)), (2, (0, l34)), (3, (0, l35)), (4, (0, l36)), (5, (0, l37)), (6, (0, l38)), (7, (0, l39))]) (st1 := [(0, 1), (0, l36), (0, jsub (jdiv l35 8) (jdiv l34 8))]) (h1 := h) rfl ?_
      refine jT.if2 (st_M_doesAttack) rfl (tgt := 153) (by decide) (fun hc => ?_) (fun hc => ?_)
      · have hc : ¬ (l36 = 1) := hc
        try rw [if_neg hc] at hv
        refine jG.blk (st_M_doesAttack) 1 (pc1 := 154) (L1 := [(8, (0, s40)), (0, (2, ((24 : Nat) : Int))), (1, (0, l33)), (2, (0, l34)), (3, (0, l35)), (4, (0, l36)), (5, (0, l37)), (6, (0, l38)), (7, (0, l39))]) (st1 := [(0, (-1)), (0, jsub (jdiv l35 8) (jdiv l34 8))]) (h1 := h) rfl ?_
        refine jG.subp [] (L1 := []) rfl ?_
        exact f_M_doesAttack_j154_ok E hv
      · have hc : l36 = 1 := Decidable.not_not.mp hc
        try rw [if_pos hc] at hv
        refine jG.blk (st_M_doesAttack) 1 (pc1 := 150) (L1 := [(8, (0, s40)), (0, (2, ((24 : Nat) : Int))), (1, (0, l33)), (2, (0, l34)), (3, (0, l35)), (4, (0, l36)), (5, (0, l37)), (6, (0, l38)), (7, (0, l39))]) (st1 := [(0, 1), (0, jsub (jdiv l35 8) (jdiv l34 8))]) (h1 := h) rfl ?_
        refine jT.goto (st_M_doesAttack) rfl (tgt := 154) (by decide) ?_
        refine jG.subp [] (L1 := []) rfl ?_
        exact f_M_doesAttack_j154_ok E hv
  · try rw [if_neg hn0] at hv
    by_cases hn1 : v41 = 2
    · try rw [if_pos hn1] at hv
      refine jT.tswI (st_M_doesAttack) rfl (by omega) (by omega) (off := 73) (by rw [hn1]; rfl) (tgt := 163) (by decide) ?_
      refine jG.blk (st_M_doesAttack) 4 (pc1 := 169) (L1 := [(8, (0, s40)), (0, (2, ((24 : Nat) : Int))), (1, (0, l33)), (2, (0, l34)), (3, (0, l35)), (4, (0, l36)), (5, (0, l37)), (6, (0, l38)), (7, (0, l39))]) (st1 := [(0, 2), (0, jmul l37 l38)]) (h1 := h) rfl ?_
      refine jT.if2 (st_M_doesAttack) rfl (tgt := 176) (by decide) (fun hc => ?_) (fun hc => ?_)
      · have hc : ¬ (jmul l37 l38 = 2) := hc
        try rw [if_neg hc] at hv
        refine jG.blk (st_M_doesAttack) 1 (pc1 := 177) (L1 := [(8, (0, s40)), (0, (2, ((24 : Nat) : Int))), (1, (0, l33)), (2, (0, l34)), (3, (0, l35)), (4, (0, l36)), (5, (0, l37)), (6, (0, l38)), (7, (0, l39))]) (st1 := [(0, 0)]) (h1 := h) rfl ?_
        cases hv
        exact jT.iret (st_M_doesAttack) rfl (Or.inl rfl)
      · have hc : jmul l37 l38 = 2 := Decidable.not_not.mp hc
        try rw [if_pos hc] at hv
        refine jG.blk (st_M_doesAttack) 1 (pc1 := 173) (L1 := [(8, (0, s40)), (0, (2, ((24 : Nat) : Int))), (1, (0, l33)), (2, (0, l34)), (3, (0, l35)), (4, (0, l36)), (5, (0, l37)), (6, (0, l38)), (7, (0, l39))]) (st1 := [(0, 1)]) (h1 := h) rfl ?_
        refine jT.goto (st_M_doesAttack) rfl (tgt := 177) (by decide) ?_
        cases hv
        exact jT.iret (st_M_doesAttack) rfl (Or.inr rfl)
    · try rw [if_neg hn1] at hv
      by_cases hn2 : v41 = 3
      · try rw [if_pos hn2] at hv
        refine jT.tswI (st_M_doesAttack) rfl (by omega) (by omega) (off := 88) (by rw [hn2]; rfl) (tgt := 178) (by decide) ?_
        refine jG.blk (st_M_doesAttack) 1 (pc1 := 180) (L1 := [(8, (0, s40)), (0, (2, ((24 : Nat) : Int))), (1, (0, l33)), (2, (0, l34)), (3, (0, l35)), (4, (0, l36)), (5, (0, l37)), (6, (0, l38)), (7, (0, l39))]) (st1 := [(0, s40)]) (h1 := h) rfl ?_
        refine jT.if1 (st_M_doesAttack) rfl (tgt := 197) (by decide) (fun hc => ?_) (fun hc => ?_)
        · have hc : s40 = 0 := hc
          try rw [if_pos hc] at hv
          refine jG.blk (st_M_doesAttack) 1 (pc1 := 198) (L1 := [(8, (0, s40)), (0, (2, ((24 : Nat) : Int))), (1, (0, l33)), (2, (0, l34)), (3, (0, l35)), (4, (0, l36)), (5, (0, l37)), (6, (0, l38)), (7, (0, l39))]) (st1 := [(0, 0)]) (h1 := h) rfl ?_
          cases hv
          exact jT.iret (st_M_doesAttack) rfl (Or.inl rfl)
        · have hc : ¬ (s40 = 0) := hc
          try rw [if_neg hc] at hv
          refine jG.blk (st_M_doesAttack) 4 (pc1 := 187) (L1 := [(8, (0, s40)), (0, (2, ((24 : Nat) : Int))), (1, (0, l33)), (2, (0, l34)), (3, (0, l35)), (4, (0, l36)), (5, (0, l37)), (6, (0, l38)), (7, (0, l39))]) (st1 := [(0, l35), (0, l34), (0, l33), (2, ((24 : Nat) : Int))]) (h1 := h) rfl ?_
          obtain ⟨v44, hq, hv⟩ := Option.bind_eq_some_iff.mp hv
          refine jT.cV (M1 := M_M_isClear) (2, ((24 : Nat) : Int)) [(0, l33), (0, l34), (0, l35)] [] (st_M_doesAttack) rfl rfl ok_M_isClear rfl (Or.inl ⟨rfl, _, _, _, rfl, rfl⟩) (Nat.le_of_ble_eq_true rfl) (Nat.le_of_ble_eq_true rfl) rfl (Nat.le_of_ble_eq_true rfl) (C_M_isClear hq) ?_
          show jG E _ 190 [(8, (0, s40)), (0, (2, ((24 : Nat) : Int))), (1, (0, l33)), (2, (0, l34)), (3, (0, l35)), (4, (0, l36)), (5, (0, l37)), (6, (0, l38)), (7, (0, l39))] [(0, v44)] h _ _
          refine jT.if1 (st_M_doesAttack) rfl (tgt := 197) (by decide) (fun hc => ?_) (fun hc => ?_)
          · have hc : v44 = 0 := hc
            try rw [if_pos hc] at hv
            refine jG.blk (st_M_doesAttack) 1 (pc1 := 198) (L1 := [(8, (0, s40)), (0, (2, ((24 : Nat) : Int))), (1, (0, l33)), (2, (0, l34)), (3, (0, l35)), (4, (0, l36)), (5, (0, l37)), (6, (0, l38)), (7, (0, l39))]) (st1 := [(0, 0)]) (h1 := h) rfl ?_
            cases hv
            exact jT.iret (st_M_doesAttack) rfl (Or.inl rfl)
          · have hc : ¬ (v44 = 0) := hc
            try rw [if_neg hc] at hv
            refine jG.blk (st_M_doesAttack) 1 (pc1 := 194) (L1 := [(8, (0, s40)), (0, (2, ((24 : Nat) : Int))), (1, (0, l33)), (2, (0, l34)), (3, (0, l35)), (4, (0, l36)), (5, (0, l37)), (6, (0, l38)), (7, (0, l39))]) (st1 := [(0, 1)]) (h1 := h) rfl ?_
            refine jT.goto (st_M_doesAttack) rfl (tgt := 198) (by decide) ?_
            cases hv
            exact jT.iret (st_M_doesAttack) rfl (Or.inr rfl)
      · try rw [if_neg hn2] at hv
        by_cases hn3 : v41 = 4
        · try rw [if_pos hn3] at hv
          refine jT.tswI (st_M_doesAttack) rfl (by omega) (by omega) (off := 109) (by rw [hn3]; rfl) (tgt := 199) (by decide) ?_
          refine jG.blk (st_M_doesAttack) 1 (pc1 := 201) (L1 := [(8, (0, s40)), (0, (2, ((24 : Nat) : Int))), (1, (0, l33)), (2, (0, l34)), (3, (0, l35)), (4, (0, l36)), (5, (0, l37)), (6, (0, l38)), (7, (0, l39))]) (st1 := [(0, l39)]) (h1 := h) rfl ?_
          refine jT.if1 (st_M_doesAttack) rfl (tgt := 218) (by decide) (fun hc => ?_) (fun hc => ?_)
          · have hc : l39 = 0 := hc
            try rw [if_pos hc] at hv
            refine jG.blk (st_M_doesAttack) 1 (pc1 := 219) (L1 := [(8, (0, s40)), (0, (2, ((24 : Nat) : Int))), (1, (0, l33)), (2, (0, l34)), (3, (0, l35)), (4, (0, l36)), (5, (0, l37)), (6, (0, l38)), (7, (0, l39))]) (st1 := [(0, 0)]) (h1 := h) rfl ?_
            cases hv
            exact jT.iret (st_M_doesAttack) rfl (Or.inl rfl)
          · have hc : ¬ (l39 = 0) := hc
            try rw [if_neg hc] at hv
            refine jG.blk (st_M_doesAttack) 4 (pc1 := 208) (L1 := [(8, (0, s40)), (0, (2, ((24 : Nat) : Int))), (1, (0, l33)), (2, (0, l34)), (3, (0, l35)), (4, (0, l36)), (5, (0, l37)), (6, (0, l38)), (7, (0, l39))]) (st1 := [(0, l35), (0, l34), (0, l33), (2, ((24 : Nat) : Int))]) (h1 := h) rfl ?_
            obtain ⟨v45, hq, hv⟩ := Option.bind_eq_some_iff.mp hv
            refine jT.cV (M1 := M_M_isClear) (2, ((24 : Nat) : Int)) [(0, l33), (0, l34), (0, l35)] [] (st_M_doesAttack) rfl rfl ok_M_isClear rfl (Or.inl ⟨rfl, _, _, _, rfl, rfl⟩) (Nat.le_of_ble_eq_true rfl) (Nat.le_of_ble_eq_true rfl) rfl (Nat.le_of_ble_eq_true rfl) (C_M_isClear hq) ?_
            show jG E _ 211 [(8, (0, s40)), (0, (2, ((24 : Nat) : Int))), (1, (0, l33)), (2, (0, l34)), (3, (0, l35)), (4, (0, l36)), (5, (0, l37)), (6, (0, l38)), (7, (0, l39))] [(0, v45)] h _ _
            refine jT.if1 (st_M_doesAttack) rfl (tgt := 218) (by decide) (fun hc => ?_) (fun hc => ?_)
            · have hc : v45 = 0 := hc
              try rw [if_pos hc] at hv
              refine jG.blk (st_M_doesAttack) 1 (pc1 := 219) (L1 := [(8, (0, s40)), (0, (2, ((24 : Nat) : Int))), (1, (0, l33)), (2, (0, l34)), (3, (0, l35)), (4, (0, l36)), (5, (0, l37)), (6, (0, l38)), (7, (0, l39))]) (st1 := [(0, 0)]) (h1 := h) rfl ?_
              cases hv
              exact jT.iret (st_M_doesAttack) rfl (Or.inl rfl)
            · have hc : ¬ (v45 = 0) := hc
              try rw [if_neg hc] at hv
              refine jG.blk (st_M_doesAttack) 1 (pc1 := 215) (L1 := [(8, (0, s40)), (0, (2, ((24 : Nat) : Int))), (1, (0, l33)), (2, (0, l34)), (3, (0, l35)), (4, (0, l36)), (5, (0, l37)), (6, (0, l38)), (7, (0, l39))]) (st1 := [(0, 1)]) (h1 := h) rfl ?_
              refine jT.goto (st_M_doesAttack) rfl (tgt := 219) (by decide) ?_
              cases hv
              exact jT.iret (st_M_doesAttack) rfl (Or.inr rfl)
        · try rw [if_neg hn3] at hv
          by_cases hn4 : v41 = 5
          · try rw [if_pos hn4] at hv
            refine jT.tswI (st_M_doesAttack) rfl (by omega) (by omega) (off := 130) (by rw [hn4]; rfl) (tgt := 220) (by decide) ?_
            refine jG.blk (st_M_doesAttack) 1 (pc1 := 222) (L1 := [(8, (0, s40)), (0, (2, ((24 : Nat) : Int))), (1, (0, l33)), (2, (0, l34)), (3, (0, l35)), (4, (0, l36)), (5, (0, l37)), (6, (0, l38)), (7, (0, l39))]) (st1 := [(0, l39)]) (h1 := h) rfl ?_
            refine jT.if1 (st_M_doesAttack) rfl (tgt := 230) (by decide) (fun hc => ?_) (fun hc => ?_)
            · have hc : ¬ (l39 = 0) := hc
              try rw [if_neg hc] at hv
              refine jG.subp [1, 2, 3, 4] (L1 := [(0, (2, ((24 : Nat) : Int))), (1, (0, l33)), (2, (0, l34)), (3, (0, l35))]) rfl ?_
              exact f_M_doesAttack_j230_ok E hv
            · have hc : l39 = 0 := Decidable.not_not.mp hc
              try rw [if_pos hc] at hv
              refine jG.blk (st_M_doesAttack) 1 (pc1 := 227) (L1 := [(8, (0, s40)), (0, (2, ((24 : Nat) : Int))), (1, (0, l33)), (2, (0, l34)), (3, (0, l35)), (4, (0, l36)), (5, (0, l37)), (6, (0, l38)), (7, (0, l39))]) (st1 := [(0, s40)]) (h1 := h) rfl ?_
              refine jT.if1 (st_M_doesAttack) rfl (tgt := 244) (by decide) (fun hc => ?_) (fun hc => ?_)
              · have hc : s40 = 0 := hc
                try rw [if_pos hc] at hv
                refine jG.blk (st_M_doesAttack) 1 (pc1 := 245) (L1 := [(8, (0, s40)), (0, (2, ((24 : Nat) : Int))), (1, (0, l33)), (2, (0, l34)), (3, (0, l35)), (4, (0, l36)), (5, (0, l37)), (6, (0, l38)), (7, (0, l39))]) (st1 := [(0, 0)]) (h1 := h) rfl ?_
                cases hv
                exact jT.iret (st_M_doesAttack) rfl (Or.inl rfl)
              · have hc : ¬ (s40 = 0) := hc
                try rw [if_neg hc] at hv
                refine jG.subp [1, 2, 3, 4] (L1 := [(0, (2, ((24 : Nat) : Int))), (1, (0, l33)), (2, (0, l34)), (3, (0, l35))]) rfl ?_
                exact f_M_doesAttack_j230_ok E hv
          · try rw [if_neg hn4] at hv
            by_cases hn5 : v41 = 6
            · try rw [if_pos hn5] at hv
              refine jT.tswI (st_M_doesAttack) rfl (by omega) (by omega) (off := 156) (by rw [hn5]; rfl) (tgt := 246) (by decide) ?_
              refine jG.blk (st_M_doesAttack) 2 (pc1 := 249) (L1 := [(8, (0, s40)), (0, (2, ((24 : Nat) : Int))), (1, (0, l33)), (2, (0, l34)), (3, (0, l35)), (4, (0, l36)), (5, (0, l37)), (6, (0, l38)), (7, (0, l39))]) (st1 := [(0, 1), (0, l37)]) (h1 := h) rfl ?_
              refine jT.if2 (st_M_doesAttack) rfl (tgt := 270) (by decide) (fun hc => ?_) (fun hc => ?_)
              · have hc : 1 < l37 := hc
                try rw [if_pos hc] at hv
                refine jG.blk (st_M_doesAttack) 1 (pc1 := 271) (L1 := [(8, (0, s40)), (0, (2, ((24 : Nat) : Int))), (1, (0, l33)), (2, (0, l34)), (3, (0, l35)), (4, (0, l36)), (5, (0, l37)), (6, (0, l38)), (7, (0, l39))]) (st1 := [(0, 0)]) (h1 := h) rfl ?_
                cases hv
                exact jT.iret (st_M_doesAttack) rfl (Or.inl rfl)
              · have hc : ¬ (1 < l37) := hc
                try rw [if_neg hc] at hv
                refine jG.blk (st_M_doesAttack) 2 (pc1 := 255) (L1 := [(8, (0, s40)), (0, (2, ((24 : Nat) : Int))), (1, (0, l33)), (2, (0, l34)), (3, (0, l35)), (4, (0, l36)), (5, (0, l37)), (6, (0, l38)), (7, (0, l39))]) (st1 := [(0, 1), (0, l38)]) (h1 := h) rfl ?_
                refine jT.if2 (st_M_doesAttack) rfl (tgt := 270) (by decide) (fun hc => ?_) (fun hc => ?_)
                · have hc : 1 < l38 := hc
                  try rw [if_pos hc] at hv
                  refine jG.blk (st_M_doesAttack) 1 (pc1 := 271) (L1 := [(8, (0, s40)), (0, (2, ((24 : Nat) : Int))), (1, (0, l33)), (2, (0, l34)), (3, (0, l35)), (4, (0, l36)), (5, (0, l37)), (6, (0, l38)), (7, (0, l39))]) (st1 := [(0, 0)]) (h1 := h) rfl ?_
                  cases hv
                  exact jT.iret (st_M_doesAttack) rfl (Or.inl rfl)
                · have hc : ¬ (1 < l38) := hc
                  try rw [if_neg hc] at hv
                  refine jG.blk (st_M_doesAttack) 3 (pc1 := 263) (L1 := [(8, (0, s40)), (0, (2, ((24 : Nat) : Int))), (1, (0, l33)), (2, (0, l34)), (3, (0, l35)), (4, (0, l36)), (5, (0, l37)), (6, (0, l38)), (7, (0, l39))]) (st1 := [(0, jadd l37 l38)]) (h1 := h) rfl ?_
                  refine jT.if1 (st_M_doesAttack) rfl (tgt := 270) (by decide) (fun hc => ?_) (fun hc => ?_)
                  · have hc : jadd l37 l38 ≤ 0 := hc
                    try rw [if_pos hc] at hv
                    refine jG.blk (st_M_doesAttack) 1 (pc1 := 271) (L1 := [(8, (0, s40)), (0, (2, ((24 : Nat) : Int))), (1, (0, l33)), (2, (0, l34)), (3, (0, l35)), (4, (0, l36)), (5, (0, l37)), (6, (0, l38)), (7, (0, l39))]) (st1 := [(0, 0)]) (h1 := h) rfl ?_
                    cases hv
                    exact jT.iret (st_M_doesAttack) rfl (Or.inl rfl)
                  · have hc : ¬ (jadd l37 l38 ≤ 0) := hc
                    try rw [if_neg hc] at hv
                    refine jG.blk (st_M_doesAttack) 1 (pc1 := 267) (L1 := [(8, (0, s40)), (0, (2, ((24 : Nat) : Int))), (1, (0, l33)), (2, (0, l34)), (3, (0, l35)), (4, (0, l36)), (5, (0, l37)), (6, (0, l38)), (7, (0, l39))]) (st1 := [(0, 1)]) (h1 := h) rfl ?_
                    refine jT.goto (st_M_doesAttack) rfl (tgt := 271) (by decide) ?_
                    cases hv
                    exact jT.iret (st_M_doesAttack) rfl (Or.inr rfl)
            · try rw [if_neg hn5] at hv
              refine jT.tswO (st_M_doesAttack) rfl (by omega) (tgt := 272) (by decide) ?_
              refine jG.blk (st_M_doesAttack) 1 (pc1 := 273) (L1 := [(8, (0, s40)), (0, (2, ((24 : Nat) : Int))), (1, (0, l33)), (2, (0, l34)), (3, (0, l35)), (4, (0, l36)), (5, (0, l37)), (6, (0, l38)), (7, (0, l39))]) (st1 := [(0, 0)]) (h1 := h) rfl ?_
              cases hv
              exact jT.iret (st_M_doesAttack) rfl (Or.inl rfl)
set_option maxRecDepth 100000 in
set_option maxHeartbeats 4000000 in
theorem f_M_doesAttack_j82_ok (E : jE) {h : jH} {l26 : Int} {l27 : Int} {l28 : Int} {l29 : Int} {l30 : Int} {l31 : Int} {l32 : Int} {res : Int} (hv : f_M_doesAttack_j82 h l26 l27 l28 l29 l30 l31 l32 = some res) : jG E M_M_doesAttack 82 [(0, (2, ((24 : Nat) : Int))), (1, (0, l26)), (2, (0, l27)), (3, (0, l28)), (4, (0, l29)), (5, (0, l30)), (6, (0, l31)), (7, (0, l32))] [] h (some (0, res)) h := by
  unfold f_M_doesAttack_j82 at hv
  refine jG.blk (st_M_doesAttack) 1 (pc1 := 83) (L1 := [(0, (2, ((24 : Nat) : Int))), (1, (0, l26)), (2, (0, l27)), (3, (0, l28)), (4, (0, l29)), (5, (0, l30)), (6, (0, l31)), (7, (0, l32))]) (st1 := [(0, 0)]) (h1 := h) rfl ?_
  exact f_M_doesAttack_j83_ok E hv
set_option maxRecDepth 100000 in
set_option maxHeartbeats 4000000 in
theorem f_M_doesAttack_j64_ok (E : jE) {h : jH} {l19 : Int} {l20 : Int} {l21 : Int} {l22 : Int} {l23 : Int} {l24 : Int} {s25 : Int} {res : Int} (hv : f_M_doesAttack_j64 h l19 l20 l21 l22 l23 l24 s25 = some res) : jG E M_M_doesAttack 64 [(0, (2, ((24 : Nat) : Int))), (1, (0, l19)), (2, (0, l20)), (3, (0, l21)), (4, (0, l22)), (5, (0, l23)), (6, (0, l24))] [(0, s25)] h (some (0, res)) h := by
  unfold f_M_doesAttack_j64 at hv
  refine jG.blk (st_M_doesAttack) 3 (pc1 := 70) (L1 := [(7, (0, s25)), (0, (2, ((24 : Nat) : Int))), (1, (0, l19)), (2, (0, l20)), (3, (0, l21)), (4, (0, l22)), (5, (0, l23)), (6, (0, l24))]) (st1 := [(0, l24), (0, l23)]) (h1 := h) rfl ?_
  refine jT.if2 (st_M_doesAttack) rfl (tgt := 82) (by decide) (fun hc => ?_) (fun hc => ?_)
  · have hc : ¬ (l23 = l24) := hc
    try rw [if_neg hc] at hv
    refine jG.subp [1, 2, 3, 4, 5, 6, 7, 0] (L1 := [(0, (2, ((24 : Nat) : Int))), (1, (0, l19)), (2, (0, l20)), (3, (0, l21)), (4, (0, l22)), (5, (0, l23)), (6, (0, l24)), (7, (0, s25))]) rfl ?_
    exact f_M_doesAttack_j82_ok E hv
  · have hc : l23 = l24 := Decidable.not_not.mp hc
    try rw [if_pos hc] at hv
    refine jG.blk (st_M_doesAttack) 1 (pc1 := 75) (L1 := [(7, (0, s25)), (0, (2, ((24 : Nat) : Int))), (1, (0, l19)), (2, (0, l20)), (3, (0, l21)), (4, (0, l22)), (5, (0, l23)), (6, (0, l24))]) (st1 := [(0, l23)]) (h1 := h) rfl ?_
    refine jT.if1 (st_M_doesAttack) rfl (tgt := 82) (by decide) (fun hc => ?_) (fun hc => ?_)
    · have hc : l23 ≤ 0 := hc
      try rw [if_pos hc] at hv
      refine jG.subp [1, 2, 3, 4, 5, 6, 7, 0] (L1 := [(0, (2, ((24 : Nat) : Int))), (1, (0, l19)), (2, (0, l20)), (3, (0, l21)), (4, (0, l22)), (5, (0, l23)), (6, (0, l24)), (7, (0, s25))]) rfl ?_
      exact f_M_doesAttack_j82_ok E hv
    · have hc : ¬ (l23 ≤ 0) := hc
      try rw [if_neg hc] at hv
      refine jG.blk (st_M_doesAttack) 1 (pc1 := 79) (L1 := [(7, (0, s25)), (0, (2, ((24 : Nat) : Int))), (1, (0, l19)), (2, (0, l20)), (3, (0, l21)), (4, (0, l22)), (5, (0, l23)), (6, (0, l24))]) (st1 := [(0, 1)]) (h1 := h) rfl ?_
      refine jT.goto (st_M_doesAttack) rfl (tgt := 83) (by decide) ?_
      refine jG.subp [1, 2, 3, 4, 5, 6, 7, 0] (L1 := [(0, (2, ((24 : Nat) : Int))), (1, (0, l19)), (2, (0, l20)), (3, (0, l21)), (4, (0, l22)), (5, (0, l23)), (6, (0, l24)), (7, (0, s25))]) rfl ?_
      exact f_M_doesAttack_j83_ok E hv
set_option maxRecDepth 100000 in
set_option maxHeartbeats 4000000 in
theorem f_M_doesAttack_j56_ok (E : jE) {h : jH} {l11 : Int} {l12 : Int} {l13 : Int} {l14 : Int} {l15 : Int} {l16 : Int} {s17 : Int} {s18 : Int} {res : Int} (hv : f_M_doesAttack_j56 h l11 l12 l13 l14 l15 l16 s17 s18 = some res) : jG E M_M_doesAttack 56 [(0, (2, ((24 : Nat) : Int))), (1, (0, l11)), (2, (0, l12)), (3, (0, l13)), (4, (0, l14)), (5, (0, l15)), (6, (0, l16))] [(0, s17), (0, s18)] h (some (0, res)) h := by
  unfold f_M_doesAttack_j56 at hv
  refine jT.if2 (st_M_doesAttack) rfl (tgt := 63) (by decide) (fun hc => ?_) (fun hc => ?_)
  · have hc : s18 = s17 := hc
    try rw [if_pos hc] at hv
    refine jG.blk (st_M_doesAttack) 1 (pc1 := 64) (L1 := [(0, (2, ((24 : Nat) : Int))), (1, (0, l11)), (2, (0, l12)), (3, (0, l13)), (4, (0, l14)), (5, (0, l15)), (6, (0, l16))]) (st1 := [(0, 0)]) (h1 := h) rfl ?_
    exact f_M_doesAttack_j64_ok E hv
  · have hc : ¬ (s18 = s17) := hc
    try rw [if_neg hc] at hv
    refine jG.blk (st_M_doesAttack) 1 (pc1 := 60) (L1 := [(0, (2, ((24 : Nat) : Int))), (1, (0, l11)), (2, (0, l12)), (3, (0, l13)), (4, (0, l14)), (5, (0, l15)), (6, (0, l16))]) (st1 := [(0, 1)]) (h1 := h) rfl ?_
    refine jT.goto (st_M_doesAttack) rfl (tgt := 64) (by decide) ?_
    exact f_M_doesAttack_j64_ok E hv
set_option maxRecDepth 100000 in
set_option maxHeartbeats 4000000 in
theorem f_M_doesAttack_j46_ok (E : jE) {h : jH} {l4 : Int} {l5 : Int} {l6 : Int} {l7 : Int} {l8 : Int} {l9 : Int} {s10 : Int} {res : Int} (hv : f_M_doesAttack_j46 h l4 l5 l6 l7 l8 l9 s10 = some res) : jG E M_M_doesAttack 46 [(0, (2, ((24 : Nat) : Int))), (1, (0, l4)), (2, (0, l5)), (3, (0, l6)), (4, (0, l7)), (5, (0, l8)), (6, (0, l9))] [(0, s10)] h (some (0, res)) h := by
  unfold f_M_doesAttack_j46 at hv
  refine jG.blk (st_M_doesAttack) 1 (pc1 := 48) (L1 := [(0, (2, ((24 : Nat) : Int))), (1, (0, l4)), (2, (0, l5)), (3, (0, l6)), (4, (0, l7)), (5, (0, l8)), (6, (0, l9))]) (st1 := [(0, l9), (0, s10)]) (h1 := h) rfl ?_
  refine jT.if1 (st_M_doesAttack) rfl (tgt := 55) (by decide) (fun hc => ?_) (fun hc => ?_)
  · have hc : ¬ (l9 = 0) := hc
    try rw [if_neg hc] at hv
    refine jG.blk (st_M_doesAttack) 1 (pc1 := 56) (L1 := [(0, (2, ((24 : Nat) : Int))), (1, (0, l4)), (2, (0, l5)), (3, (0, l6)), (4, (0, l7)), (5, (0, l8)), (6, (0, l9))]) (st1 := [(0, 0), (0, s10)]) (h1 := h) rfl ?_
    exact f_M_doesAttack_j56_ok E hv
  · have hc : l9 = 0 := Decidable.not_not.mp hc
    try rw [if_pos hc] at hv
    refine jG.blk (st_M_doesAttack) 1 (pc1 := 52) (L1 := [(0, (2, ((24 : Nat) : Int))), (1, (0, l4)), (2, (0, l5)), (3, (0, l6)), (4, (0, l7)), (5, (0, l8)), (6, (0, l9))]) (st1 := [(0, 1), (0, s10)]) (h1 := h) rfl ?_
    refine jT.goto (st_M_doesAttack) rfl (tgt := 56) (by decide) ?_
    exact f_M_doesAttack_j56_ok E hv
set_option maxRecDepth 100000 in
set_option maxHeartbeats 4000000 in
theorem C_M_doesAttack {E : jE} {h : jH} {a1 : Int} {a2 : Int} {a3 : Int} {res : Int} (hv : f_M_doesAttack h a1 a2 a3 = some res) : jC E M_M_doesAttack [(2, ((24 : Nat) : Int)), (0, a1), (0, a2), (0, a3)] h (some (0, res)) h := by
  refine jC.of ok_M_doesAttack.1 (by rw [jlg]; exact Nat.le_of_ble_eq_true rfl) ?_
  show jG E _ 0 [(0, (2, ((24 : Nat) : Int))), (1, (0, a1)), (2, (0, a2)), (3, (0, a3))] [] h _ _
  unfold f_M_doesAttack at hv
  refine jG.blk (st_M_doesAttack) 3 (pc1 := 3) (L1 := [(0, (2, ((24 : Nat) : Int))), (1, (0, a1)), (2, (0, a2)), (3, (0, a3))]) (st1 := [(0, a2), (0, a1), (2, ((24 : Nat) : Int))]) (h1 := h) rfl ?_
  obtain ⟨v1, hq, hv⟩ := Option.bind_eq_some_iff.mp hv
  refine jT.cV (M1 := M_M_piece) (2, ((24 : Nat) : Int)) [(0, a1), (0, a2)] [] (st_M_doesAttack) rfl rfl ok_M_piece rfl (Or.inl ⟨rfl, _, _, _, rfl, rfl⟩) (Nat.le_of_ble_eq_true rfl) (Nat.le_of_ble_eq_true rfl) rfl (Nat.le_of_ble_eq_true rfl) (C_M_piece hq) ?_
  show jG E _ 6 [(0, (2, ((24 : Nat) : Int))), (1, (0, a1)), (2, (0, a2)), (3, (0, a3))] [(0, v1)] h _ _
  refine jG.blk (st_M_doesAttack) 8 (pc1 := 17) (L1 := [(4, (0, v1)), (0, (2, ((24 : Nat) : Int))), (1, (0, a1)), (2, (0, a2)), (3, (0, a3))]) (st1 := [(0, jsub (jrem a3 8) (jrem a2 8))]) (h1 := h) rfl ?_
  obtain ⟨v2, hq, hv⟩ := Option.bind_eq_some_iff.mp hv
  refine jT.cS (M1 := M_M_size) [(0, jsub (jrem a3 8) (jrem a2 8))] [] (st_M_doesAttack) rfl rfl ok_M_size rfl (Nat.le_of_ble_eq_true rfl) (Nat.le_of_ble_eq_true rfl) rfl (Nat.le_of_ble_eq_true rfl) (C_M_size hq) ?_
  show jG E _ 20 [(4, (0, v1)), (0, (2, ((24 : Nat) : Int))), (1, (0, a1)), (2, (0, a2)), (3, (0, a3))] [(0, v2)] h _ _
  refine jG.blk (st_M_doesAttack) 8 (pc1 := 31) (L1 := [(5, (0, v2)), (4, (0, v1)), (0, (2, ((24 : Nat) : Int))), (1, (0, a1)), (2, (0, a2)), (3, (0, a3))]) (st1 := [(0, jsub (jdiv a3 8) (jdiv a2 8))]) (h1 := h) rfl ?_
  obtain ⟨v3, hq, hv⟩ := Option.bind_eq_some_iff.mp hv
  refine jT.cS (M1 := M_M_size) [(0, jsub (jdiv a3 8) (jdiv a2 8))] [] (st_M_doesAttack) rfl rfl ok_M_size rfl (Nat.le_of_ble_eq_true rfl) (Nat.le_of_ble_eq_true rfl) rfl (Nat.le_of_ble_eq_true rfl) (C_M_size hq) ?_
  show jG E _ 34 [(5, (0, v2)), (4, (0, v1)), (0, (2, ((24 : Nat) : Int))), (1, (0, a1)), (2, (0, a2)), (3, (0, a3))] [(0, v3)] h _ _
  refine jG.blk (st_M_doesAttack) 2 (pc1 := 38) (L1 := [(6, (0, v3)), (5, (0, v2)), (4, (0, v1)), (0, (2, ((24 : Nat) : Int))), (1, (0, a1)), (2, (0, a2)), (3, (0, a3))]) (st1 := [(0, v2)]) (h1 := h) rfl ?_
  refine jT.if1 (st_M_doesAttack) rfl (tgt := 45) (by decide) (fun hc => ?_) (fun hc => ?_)
  · have hc : ¬ (v2 = 0) := hc
    try rw [if_neg hc] at hv
    refine jG.blk (st_M_doesAttack) 1 (pc1 := 46) (L1 := [(6, (0, v3)), (5, (0, v2)), (4, (0, v1)), (0, (2, ((24 : Nat) : Int))), (1, (0, a1)), (2, (0, a2)), (3, (0, a3))]) (st1 := [(0, 0)]) (h1 := h) rfl ?_
    refine jG.subp [3, 4, 5, 6, 2, 1, 0] (L1 := [(0, (2, ((24 : Nat) : Int))), (1, (0, a1)), (2, (0, a2)), (3, (0, a3)), (4, (0, v1)), (5, (0, v2)), (6, (0, v3))]) rfl ?_
    exact f_M_doesAttack_j46_ok E hv
  · have hc : v2 = 0 := Decidable.not_not.mp hc
    try rw [if_pos hc] at hv
    refine jG.blk (st_M_doesAttack) 1 (pc1 := 42) (L1 := [(6, (0, v3)), (5, (0, v2)), (4, (0, v1)), (0, (2, ((24 : Nat) : Int))), (1, (0, a1)), (2, (0, a2)), (3, (0, a3))]) (st1 := [(0, 1)]) (h1 := h) rfl ?_
    refine jT.goto (st_M_doesAttack) rfl (tgt := 46) (by decide) ?_
    refine jG.subp [3, 4, 5, 6, 2, 1, 0] (L1 := [(0, (2, ((24 : Nat) : Int))), (1, (0, a1)), (2, (0, a2)), (3, (0, a3)), (4, (0, v1)), (5, (0, v2)), (6, (0, v3))]) rfl ?_
    exact f_M_doesAttack_j46_ok E hv
def f_M_isSeen_lp18 (h : jH) (x3 : Int) (x4 : Int) (x5 : Int) (x6 : Int) (x7 : Int) (k : Int → Int → Option (Int)) : Nat → Int → Int → Option (Int)
  | 0, _, _ => none
  | n + 1, l1, l2 => if l1 < 0 then k l1 l2 else if 8 ≤ l1 then k l1 l2 else if l2 < 0 then k l1 l2 else if 8 ≤ l2 then k l1 l2 else (f_M_piece h x3 (jadd (jmul 8 l1) l2)).bind fun v8 => if v8 = 0 then f_M_isSeen_lp18 h x3 x4 x5 x6 x7 k n (jadd l1 x6) (jadd l2 x7) else (f_M_isOf h x3 (jadd (jmul 8 l1) l2) x5).bind fun v9 => if v9 = 0 then some 0 else (f_M_doesAttack h x3 (jadd (jmul 8 l1) l2) x4).bind fun v10 => some (if v10 = 0 then 0 else 1)
def f_M_isSeen (h : jH) (a1 : Int) (a2 : Int) (a3 : Int) (a4 : Int) (a5 : Int) : Option (Int) := f_M_isSeen_lp18 h a1 a2 a3 a4 a5 (fun l11 l12 => some 0) 1000 (jadd (jdiv a2 8) a4) (jadd (jrem a2 8) a5)
set_option maxRecDepth 100000 in
set_option maxHeartbeats 4000000 in
theorem f_M_isSeen_lp18_ok (E : jE) {h : jH} {x3 : Int} {x4 : Int} {x5 : Int} {x6 : Int} {x7 : Int} {k : Int → Int → Option (Int)} (hk : ∀ (l1 : Int) (l2 : Int) (res : Int), k l1 l2 = some res → jG E M_M_isSeen 107 [] [] h (some (0, res)) h) : ∀ (n : Nat) (l1 : Int) (l2 : Int) (res : Int), f_M_isSeen_lp18 h x3 x4 x5 x6 x7 k n l1 l2 = some res → jG E M_M_isSeen 18 [(0, (2, ((24 : Nat) : Int))), (1, (0, x3)), (2, (0, x4)), (3, (0, x5)), (4, (0, x6)), (5, (0, x7)), (6, (0, l1)), (7, (0, l2))] [] h (some (0, res)) h := by
  intro n
  induction n with
  | zero => intro l1 l2 res hv; cases hv
  | succ n ih =>
    intro l1 l2 res hv
    rw [f_M_isSeen_lp18] at hv
    refine jG.blk (st_M_isSeen) 1 (pc1 := 20) (L1 := [(0, (2, ((24 : Nat) : Int))), (1, (0, x3)), (2, (0, x4)), (3, (0, x5)), (4, (0, x6)), (5, (0, x7)), (6, (0, l1)), (7, (0, l2))]) (st1 := [(0, l1)]) (h1 := h) rfl ?_
    refine jT.if1 (st_M_isSeen) rfl (tgt := 107) (by decide) (fun hc => ?_) (fun hc => ?_)
    · have hc : l1 < 0 := hc
      try rw [if_pos hc] at hv
      refine jG.subp [] (L1 := []) rfl ?_
      exact hk _ _ _ hv
    · have hc : ¬ (l1 < 0) := hc
      try rw [if_neg hc] at hv
      refine jG.blk (st_M_isSeen) 2 (pc1 := 27) (L1 := [(0, (2, ((24 : Nat) : Int))), (1, (0, x3)), (2, (0, x4)), (3, (0, x5)), (4, (0, x6)), (5, (0, x7)), (6, (0, l1)), (7, (0, l2))]) (st1 := [(0, 8), (0, l1)]) (h1 := h) rfl ?_
      refine jT.if2 (st_M_isSeen) rfl (tgt := 107) (by decide) (fun hc => ?_) (fun hc => ?_)
      · have hc : 8 ≤ l1 := hc
        try rw [if_pos hc] at hv
        refine jG.subp [] (L1 := []) rfl ?_
        exact hk _ _ _ hv
      · have hc : ¬ (8 ≤ l1) := hc
        try rw [if_neg hc] at hv
        refine jG.blk (st_M_isSeen) 1 (pc1 := 32) (L1 := [(0, (2, ((24 : Nat) : Int))), (1, (0, x3)), (2, (0, x4)), (3, (0, x5)), (4, (0, x6)), (5, (0, x7)), (6, (0, l1)), (7, (0, l2))]) (st1 := [(0, l2)]) (h1 := h) rfl ?_
        refine jT.if1 (st_M_isSeen) rfl (tgt := 107) (by decide) (fun hc => ?_) (fun hc => ?_)
        · have hc : l2 < 0 := hc
          try rw [if_pos hc] at hv
          refine jG.subp [] (L1 := []) rfl ?_
          exact hk _ _ _ hv
        · have hc : ¬ (l2 < 0) := hc
          try rw [if_neg hc] at hv
          refine jG.blk (st_M_isSeen) 2 (pc1 := 39) (L1 := [(0, (2, ((24 : Nat) : Int))), (1, (0, x3)), (2, (0, x4)), (3, (0, x5)), (4, (0, x6)), (5, (0, x7)), (6, (0, l1)), (7, (0, l2))]) (st1 := [(0, 8), (0, l2)]) (h1 := h) rfl ?_
          refine jT.if2 (st_M_isSeen) rfl (tgt := 107) (by decide) (fun hc => ?_) (fun hc => ?_)
          · have hc : 8 ≤ l2 := hc
            try rw [if_pos hc] at hv
            refine jG.subp [] (L1 := []) rfl ?_
            exact hk _ _ _ hv
          · have hc : ¬ (8 ≤ l2) := hc
            try rw [if_neg hc] at hv
            refine jG.blk (st_M_isSeen) 9 (pc1 := 56) (L1 := [(8, (0, jadd (jmul 8 l1) l2)), (0, (2, ((24 : Nat) : Int))), (1, (0, x3)), (2, (0, x4)), (3, (0, x5)), (4, (0, x6)), (5, (0, x7)), (6, (0, l1)), (7, (0, l2))]) (st1 := [(0, jadd (jmul 8 l1) l2), (0, x3), (2, ((24 : Nat) : Int))]) (h1 := h) rfl ?_
            obtain ⟨v8, hq, hv⟩ := Option.bind_eq_some_iff.mp hv
            refine jT.cV (M1 := M_M_piece) (2, ((24 : Nat) : Int)) [(0, x3), (0, jadd (jmul 8 l1) l2)] [] (st_M_isSeen) rfl rfl ok_M_piece rfl (Or.inl ⟨rfl, _, _, _, rfl, rfl⟩) (Nat.le_of_ble_eq_true rfl) (Nat.le_of_ble_eq_true rfl) rfl (Nat.le_of_ble_eq_true rfl) (C_M_piece hq) ?_
            show jG E _ 59 [(8, (0, jadd (jmul 8 l1) l2)), (0, (2, ((24 : Nat) : Int))), (1, (0, x3)), (2, (0, x4)), (3, (0, x5)), (4, (0, x6)), (5, (0, x7)), (6, (0, l1)), (7, (0, l2))] [(0, v8)] h _ _
            refine jT.if1 (st_M_isSeen) rfl (tgt := 90) (by decide) (fun hc => ?_) (fun hc => ?_)
            · have hc : v8 = 0 := hc
              try rw [if_pos hc] at hv
              refine jG.blk (st_M_isSeen) 8 (pc1 := 104) (L1 := [(7, (0, jadd l2 x7)), (6, (0, jadd l1 x6)), (8, (0, jadd (jmul 8 l1) l2)), (0, (2, ((24 : Nat) : Int))), (1, (0, x3)), (2, (0, x4)), (3, (0, x5)), (4, (0, x6)), (5, (0, x7))]) (st1 := []) (h1 := h) rfl ?_
              refine jT.goto (st_M_isSeen) rfl (tgt := 18) (by decide) ?_
              refine jG.subp [3, 4, 5, 6, 7, 8, 1, 0] (L1 := [(0, (2, ((24 : Nat) : Int))), (1, (0, x3)), (2, (0, x4)), (3, (0, x5)), (4, (0, x6)), (5, (0, x7)), (6, (0, jadd l1 x6)), (7, (0, jadd l2 x7))]) rfl ?_
              exact ih _ _ _ hv
            · have hc : ¬ (v8 = 0) := hc
              try rw [if_neg hc] at hv
              refine jG.blk (st_M_isSeen) 4 (pc1 := 67) (L1 := [(8, (0, jadd (jmul 8 l1) l2)), (0, (2, ((24 : Nat) : Int))), (1, (0, x3)), (2, (0, x4)), (3, (0, x5)), (4, (0, x6)), (5, (0, x7)), (6, (0, l1)), (7, (0, l2))]) (st1 := [(0, x5), (0, jadd (jmul 8 l1) l2), (0, x3), (2, ((24 : Nat) : Int))]) (h1 := h) rfl ?_
              obtain ⟨v9, hq, hv⟩ := Option.bind_eq_some_iff.mp hv
              refine jT.cV (M1 := M_M_isOf) (2, ((24 : Nat) : Int)) [(0, x3), (0, jadd (jmul 8 l1) l2), (0, x5)] [] (st_M_isSeen) rfl rfl ok_M_isOf rfl (Or.inl ⟨rfl, _, _, _, rfl, rfl⟩) (Nat.le_of_ble_eq_true rfl) (Nat.le_of_ble_eq_true rfl) rfl (Nat.le_of_ble_eq_true rfl) (C_M_isOf hq) ?_
              show jG E _ 70 [(8, (0, jadd (jmul 8 l1) l2)), (0, (2, ((24 : Nat) : Int))), (1, (0, x3)), (2, (0, x4)), (3, (0, x5)), (4, (0, x6)), (5, (0, x7)), (6, (0, l1)), (7, (0, l2))] [(0, v9)] h _ _
              refine jT.if1 (st_M_isSeen) rfl (tgt := 88) (by decide) (fun hc => ?_) (fun hc => ?_)
              · have hc : v9 = 0 := hc
                try rw [if_pos hc] at hv
                refine jG.blk (st_M_isSeen) 1 (pc1 := 89) (L1 := [(8, (0, jadd (jmul 8 l1) l2)), (0, (2, ((24 : Nat) : Int))), (1, (0, x3)), (2, (0, x4)), (3, (0, x5)), (4, (0, x6)), (5, (0, x7)), (6, (0, l1)), (7, (0, l2))]) (st1 := [(0, 0)]) (h1 := h) rfl ?_
                cases hv
                exact jT.iret (st_M_isSeen) rfl (Or.inl rfl)
              · have hc : ¬ (v9 = 0) := hc
                try rw [if_neg hc] at hv
                refine jG.blk (st_M_isSeen) 4 (pc1 := 78) (L1 := [(8, (0, jadd (jmul 8 l1) l2)), (0, (2, ((24 : Nat) : Int))), (1, (0, x3)), (2, (0, x4)), (3, (0, x5)), (4, (0, x6)), (5, (0, x7)), (6, (0, l1)), (7, (0, l2))]) (st1 := [(0, x4), (0, jadd (jmul 8 l1) l2), (0, x3), (2, ((24 : Nat) : Int))]) (h1 := h) rfl ?_
                obtain ⟨v10, hq, hv⟩ := Option.bind_eq_some_iff.mp hv
                refine jT.cV (M1 := M_M_doesAttack) (2, ((24 : Nat) : Int)) [(0, x3), (0, jadd (jmul 8 l1) l2), (0, x4)] [] (st_M_isSeen) rfl rfl ok_M_doesAttack rfl (Or.inl ⟨rfl, _, _, _, rfl, rfl⟩) (Nat.le_of_ble_eq_true rfl) (Nat.le_of_ble_eq_true rfl) rfl (Nat.le_of_ble_eq_true rfl) (C_M_doesAttack hq) ?_
                show jG E _ 81 [(8, (0, jadd (jmul 8 l1) l2)), (0, (2, ((24 : Nat) : Int))), (1, (0, x3)), (2, (0, x4)), (3, (0, x5)), (4, (0, x6)), (5, (0, x7)), (6, (0, l1)), (7, (0, l2))] [(0, v10)] h _ _
                refine jT.if1 (st_M_isSeen) rfl (tgt := 88) (by decide) (fun hc => ?_) (fun hc => ?_)
                · have hc : v10 = 0 := hc
                  try rw [if_pos hc] at hv
                  refine jG.blk (st_M_isSeen) 1 (pc1 := 89) (L1 := [(8, (0, jadd (jmul 8 l1) l2)), (0, (2, ((24 : Nat) : Int))), (1, (0, x3)), (2, (0, x4)), (3, (0, x5)), (4, (0, x6)), (5, (0, x7)), (6, (0, l1)), (7, (0, l2))]) (st1 := [(0, 0)]) (h1 := h) rfl ?_
                  cases hv
                  exact jT.iret (st_M_isSeen) rfl (Or.inl rfl)
                · have hc : ¬ (v10 = 0) := hc
                  try rw [if_neg hc] at hv
                  refine jG.blk (st_M_isSeen) 1 (pc1 := 85) (L1 := [(8, (0, jadd (jmul 8 l1) l2)), (0, (2, ((24 : Nat) : Int))), (1, (0, x3)), (2, (0, x4)), (3, (0, x5)), (4, (0, x6)), (5, (0, x7)), (6, (0, l1)), (7, (0, l2))]) (st1 := [(0, 1)]) (h1 := h) rfl ?_
                  refine jT.goto (st_M_isSeen) rfl (tgt := 89) (by decide) ?_
                  cases hv
                  exact jT.iret (st_M_isSeen) rfl (Or.inr rfl)
set_option maxRecDepth 100000 in
set_option maxHeartbeats 4000000 in
theorem C_M_isSeen {E : jE} {h : jH} {a1 : Int} {a2 : Int} {a3 : Int} {a4 : Int} {a5 : Int} {res : Int} (hv : f_M_isSeen h a1 a2 a3 a4 a5 = some res) : jC E M_M_isSeen [(2, ((24 : Nat) : Int)), (0, a1), (0, a2), (0, a3), (0, a4), (0, a5)] h (some (0, res)) h := by
  refine jC.of ok_M_isSeen.1 (by rw [jlg]; exact Nat.le_of_ble_eq_true rfl) ?_
  show jG E _ 0 [(0, (2, ((24 : Nat) : Int))), (1, (0, a1)), (2, (0, a2)), (3, (0, a3)), (4, (0, a4)), (5, (0, a5))] [] h _ _
  unfold f_M_isSeen at hv
  refine jG.blk (st_M_isSeen) 12 (pc1 := 18) (L1 := [(7, (0, jadd (jrem a2 8) a5)), (6, (0, jadd (jdiv a2 8) a4)), (0, (2, ((24 : Nat) : Int))), (1, (0, a1)), (2, (0, a2)), (3, (0, a3)), (4, (0, a4)), (5, (0, a5))]) (st1 := []) (h1 := h) rfl ?_
  refine jG.subp [2, 3, 4, 5, 6, 7, 1, 0] (L1 := [(0, (2, ((24 : Nat) : Int))), (1, (0, a1)), (2, (0, a2)), (3, (0, a3)), (4, (0, a4)), (5, (0, a5)), (6, (0, jadd (jdiv a2 8) a4)), (7, (0, jadd (jrem a2 8) a5))]) rfl ?_
  refine f_M_isSeen_lp18_ok E (fun l11 l12 res hv => ?_) 1000 _ _ _ hv
  · refine jG.blk (st_M_isSeen) 1 (pc1 := 108) (L1 := []) (st1 := [(0, 0)]) (h1 := h) rfl ?_
    cases hv
    exact jT.iret (st_M_isSeen) rfl (Or.inl rfl)
def f_M_isJumped_j47 (h : jH) (l5 : Int) (l6 : Int) (l7 : Int) (l8 : Int) (s9 : Int) : Option (Int) := if s9 = 0 then some 0 else (f_M_isOf h l5 (jadd (jmul 8 l7) l8) l6).bind fun v10 => if v10 = 0 then some 0 else (f_M_piece h l5 (jadd (jmul 8 l7) l8)).bind fun v11 => (f_M_kindOf h v11).bind fun v12 => some (if v12 = 2 then 1 else 0)
def f_M_isJumped_j46 (h : jH) (l1 : Int) (l2 : Int) (l3 : Int) (l4 : Int) : Option (Int) := f_M_isJumped_j47 h l1 l2 l3 l4 0
def f_M_isJumped (h : jH) (a1 : Int) (a2 : Int) (a3 : Int) (a4 : Int) (a5 : Int) : Option (Int) := if jadd (jdiv a2 8) a4 < 0 then f_M_isJumped_j46 h a1 a3 (jadd (jdiv a2 8) a4) (jadd (jrem a2 8) a5) else if 8 ≤ jadd (jdiv a2 8) a4 then f_M_isJumped_j46 h a1 a3 (jadd (jdiv a2 8) a4) (jadd (jrem a2 8) a5) else if jadd (jrem a2 8) a5 < 0 then f_M_isJumped_j46 h a1 a3 (jadd (jdiv a2 8) a4) (jadd (jrem a2 8) a5) else if 8 ≤ jadd (jrem a2 8) a5 then f_M_isJumped_j46 h a1 a3 (jadd (jdiv a2 8) a4) (jadd (jrem a2 8) a5) else f_M_isJumped_j47 h a1 a3 (jadd (jdiv a2 8) a4) (jadd (jrem a2 8) a5) 1
set_option maxRecDepth 100000 in
set_option maxHeartbeats 4000000 in
theorem f_M_isJumped_j47_ok (E : jE) {h : jH} {l5 : Int} {l6 : Int} {l7 : Int} {l8 : Int} {s9 : Int} {res : Int} (hv : f_M_isJumped_j47 h l5 l6 l7 l8 s9 = some res) : jG E M_M_isJumped 47 [(0, (2, ((24 : Nat) : Int))), (1, (0, l5)), (3, (0, l6)), (6, (0, l7)), (7, (0, l8))] [(0, s9)] h (some (0, res)) h := by
  unfold f_M_isJumped_j47 at hv
  refine jG.blk (st_M_isJumped) 2 (pc1 := 51) (L1 := [(8, (0, s9)), (0, (2, ((24 : Nat) : Int))), (1, (0, l5)), (3, (0, l6)), (6, (0, l7)), (7, (0, l8))]) (st1 := [(0, s9)]) (h1 := h) rfl ?_
  refine jT.if1 (st_M_isJumped) rfl (tgt := 95) (by decide) (fun hc => ?_) (fun hc => ?_)
  · have hc : s9 = 0 := hc
    try rw [if_pos hc] at hv
    refine jG.blk (st_M_isJumped) 1 (pc1 := 96) (L1 := [(8, (0, s9)), (0, (2, ((24 : Nat) : Int))), (1, (0, l5)), (3, (0, l6)), (6, (0, l7)), (7, (0, l8))]) (st1 := [(0, 0)]) (h1 := h) rfl ?_
    cases hv
    exact jT.iret (st_M_isJumped) rfl (Or.inl rfl)
  · have hc : ¬ (s9 = 0) := hc
    try rw [if_neg hc] at hv
    refine jG.blk (st_M_isJumped) 8 (pc1 := 65) (L1 := [(8, (0, s9)), (0, (2, ((24 : Nat) : Int))), (1, (0, l5)), (3, (0, l6)), (6, (0, l7)), (7, (0, l8))]) (st1 := [(0, l6), (0, jadd (jmul 8 l7) l8), (0, l5), (2, ((24 : Nat) : Int))]) (h1 := h) rfl ?_
    obtain ⟨v10, hq, hv⟩ := Option.bind_eq_some_iff.mp hv
    refine jT.cV (M1 := M_M_isOf) (2, ((24 : Nat) : Int)) [(0, l5), (0, jadd (jmul 8 l7) l8), (0, l6)] [] (st_M_isJumped) rfl rfl ok_M_isOf rfl (Or.inl ⟨rfl, _, _, _, rfl, rfl⟩) (Nat.le_of_ble_eq_true rfl) (Nat.le_of_ble_eq_true rfl) rfl (Nat.le_of_ble_eq_true rfl) (C_M_isOf hq) ?_
    show jG E _ 68 [(8, (0, s9)), (0, (2, ((24 : Nat) : Int))), (1, (0, l5)), (3, (0, l6)), (6, (0, l7)), (7, (0, l8))] [(0, v10)] h _ _
    refine jT.if1 (st_M_isJumped) rfl (tgt := 95) (by decide) (fun hc => ?_) (fun hc => ?_)
    · have hc : v10 = 0 := hc
      try rw [if_pos hc] at hv
      refine jG.blk (st_M_isJumped) 1 (pc1 := 96) (L1 := [(8, (0, s9)), (0, (2, ((24 : Nat) : Int))), (1, (0, l5)), (3, (0, l6)), (6, (0, l7)), (7, (0, l8))]) (st1 := [(0, 0)]) (h1 := h) rfl ?_
      cases hv
      exact jT.iret (st_M_isJumped) rfl (Or.inl rfl)
    · have hc : ¬ (v10 = 0) := hc
      try rw [if_neg hc] at hv
      refine jG.blk (st_M_isJumped) 7 (pc1 := 81) (L1 := [(8, (0, s9)), (0, (2, ((24 : Nat) : Int))), (1, (0, l5)), (3, (0, l6)), (6, (0, l7)), (7, (0, l8))]) (st1 := [(0, jadd (jmul 8 l7) l8), (0, l5), (2, ((24 : Nat) : Int))]) (h1 := h) rfl ?_
      obtain ⟨v11, hq, hv⟩ := Option.bind_eq_some_iff.mp hv
      refine jT.cV (M1 := M_M_piece) (2, ((24 : Nat) : Int)) [(0, l5), (0, jadd (jmul 8 l7) l8)] [] (st_M_isJumped) rfl rfl ok_M_piece rfl (Or.inl ⟨rfl, _, _, _, rfl, rfl⟩) (Nat.le_of_ble_eq_true rfl) (Nat.le_of_ble_eq_true rfl) rfl (Nat.le_of_ble_eq_true rfl) (C_M_piece hq) ?_
      show jG E _ 84 [(8, (0, s9)), (0, (2, ((24 : Nat) : Int))), (1, (0, l5)), (3, (0, l6)), (6, (0, l7)), (7, (0, l8))] [(0, v11)] h _ _
      obtain ⟨v12, hq, hv⟩ := Option.bind_eq_some_iff.mp hv
      refine jT.cS (M1 := M_M_kindOf) [(0, v11)] [] (st_M_isJumped) rfl rfl ok_M_kindOf rfl (Nat.le_of_ble_eq_true rfl) (Nat.le_of_ble_eq_true rfl) rfl (Nat.le_of_ble_eq_true rfl) (C_M_kindOf hq) ?_
      show jG E _ 87 [(8, (0, s9)), (0, (2, ((24 : Nat) : Int))), (1, (0, l5)), (3, (0, l6)), (6, (0, l7)), (7, (0, l8))] [(0, v12)] h _ _
      refine jG.blk (st_M_isJumped) 1 (pc1 := 88) (L1 := [(8, (0, s9)), (0, (2, ((24 : Nat) : Int))), (1, (0, l5)), (3, (0, l6)), (6, (0, l7)), (7, (0, l8))]) (st1 := [(0, 2), (0, v12)]) (h1 := h) rfl ?_
      refine jT.if2 (st_M_isJumped) rfl (tgt := 95) (by decide) (fun hc => ?_) (fun hc => ?_)
      · have hc : ¬ (v12 = 2) := hc
        try rw [if_neg hc] at hv
        refine jG.blk (st_M_isJumped) 1 (pc1 := 96) (L1 := [(8, (0, s9)), (0, (2, ((24 : Nat) : Int))), (1, (0, l5)), (3, (0, l6)), (6, (0, l7)), (7, (0, l8))]) (st1 := [(0, 0)]) (h1 := h) rfl ?_
        cases hv
        exact jT.iret (st_M_isJumped) rfl (Or.inl rfl)
      · have hc : v12 = 2 := Decidable.not_not.mp hc
        try rw [if_pos hc] at hv
        refine jG.blk (st_M_isJumped) 1 (pc1 := 92) (L1 := [(8, (0, s9)), (0, (2, ((24 : Nat) : Int))), (1, (0, l5)), (3, (0, l6)), (6, (0, l7)), (7, (0, l8))]) (st1 := [(0, 1)]) (h1 := h) rfl ?_
        refine jT.goto (st_M_isJumped) rfl (tgt := 96) (by decide) ?_
        cases hv
        exact jT.iret (st_M_isJumped) rfl (Or.inr rfl)
set_option maxRecDepth 100000 in
set_option maxHeartbeats 4000000 in
theorem f_M_isJumped_j46_ok (E : jE) {h : jH} {l1 : Int} {l2 : Int} {l3 : Int} {l4 : Int} {res : Int} (hv : f_M_isJumped_j46 h l1 l2 l3 l4 = some res) : jG E M_M_isJumped 46 [(0, (2, ((24 : Nat) : Int))), (1, (0, l1)), (3, (0, l2)), (6, (0, l3)), (7, (0, l4))] [] h (some (0, res)) h := by
  unfold f_M_isJumped_j46 at hv
  refine jG.blk (st_M_isJumped) 1 (pc1 := 47) (L1 := [(0, (2, ((24 : Nat) : Int))), (1, (0, l1)), (3, (0, l2)), (6, (0, l3)), (7, (0, l4))]) (st1 := [(0, 0)]) (h1 := h) rfl ?_
  exact f_M_isJumped_j47_ok E hv
set_option maxRecDepth 100000 in
set_option maxHeartbeats 4000000 in
theorem C_M_isJumped {E : jE} {h : jH} {a1 : Int} {a2 : Int} {a3 : Int} {a4 : Int} {a5 : Int} {res : Int} (hv : f_M_isJumped h a1 a2 a3 a4 a5 = some res) : jC E M_M_isJumped [(2, ((24 : Nat) : Int)), (0, a1), (0, a2), (0, a3), (0, a4), (0, a5)] h (some (0, res)) h := by
  refine jC.of ok_M_isJumped.1 (by rw [jlg]; exact Nat.le_of_ble_eq_true rfl) ?_
  show jG E _ 0 [(0, (2, ((24 : Nat) : Int))), (1, (0, a1)), (2, (0, a2)), (3, (0, a3)), (4, (0, a4)), (5, (0, a5))] [] h _ _
  unfold f_M_isJumped at hv
  refine jG.blk (st_M_isJumped) 13 (pc1 := 20) (L1 := [(7, (0, jadd (jrem a2 8) a5)), (6, (0, jadd (jdiv a2 8) a4)), (0, (2, ((24 : Nat) : Int))), (1, (0, a1)), (2, (0, a2)), (3, (0, a3)), (4, (0, a4)), (5, (0, a5))]) (st1 := [(0, jadd (jdiv a2 8) a4)]) (h1 := h) rfl ?_
  refine jT.if1 (st_M_isJumped) rfl (tgt := 46) (by decide) (fun hc => ?_) (fun hc => ?_)
  · have hc : jadd (jdiv a2 8) a4 < 0 := hc
    try rw [if_pos hc] at hv
    refine jG.subp [2, 3, 5, 1, 0] (L1 := [(0, (2, ((24 : Nat) : Int))), (1, (0, a1)), (3, (0, a3)), (6, (0, jadd (jdiv a2 8) a4)), (7, (0, jadd (jrem a2 8) a5))]) rfl ?_
    exact f_M_isJumped_j46_ok E hv
  · have hc : ¬ (jadd (jdiv a2 8) a4 < 0) := hc
    try rw [if_neg hc] at hv
    refine jG.blk (st_M_isJumped) 2 (pc1 := 27) (L1 := [(7, (0, jadd (jrem a2 8) a5)), (6, (0, jadd (jdiv a2 8) a4)), (0, (2, ((24 : Nat) : Int))), (1, (0, a1)), (2, (0, a2)), (3, (0, a3)), (4, (0, a4)), (5, (0, a5))]) (st1 := [(0, 8), (0, jadd (jdiv a2 8) a4)]) (h1 := h) rfl ?_
    refine jT.if2 (st_M_isJumped) rfl (tgt := 46) (by decide) (fun hc => ?_) (fun hc => ?_)
    · have hc : 8 ≤ jadd (jdiv a2 8) a4 := hc
      try rw [if_pos hc] at hv
      refine jG.subp [2, 3, 5, 1, 0] (L1 := [(0, (2, ((24 : Nat) : Int))), (1, (0, a1)), (3, (0, a3)), (6, (0, jadd (jdiv a2 8) a4)), (7, (0, jadd (jrem a2 8) a5))]) rfl ?_
      exact f_M_isJumped_j46_ok E hv
    · have hc : ¬ (8 ≤ jadd (jdiv a2 8) a4) := hc
      try rw [if_neg hc] at hv
      refine jG.blk (st_M_isJumped) 1 (pc1 := 32) (L1 := [(7, (0, jadd (jrem a2 8) a5)), (6, (0, jadd (jdiv a2 8) a4)), (0, (2, ((24 : Nat) : Int))), (1, (0, a1)), (2, (0, a2)), (3, (0, a3)), (4, (0, a4)), (5, (0, a5))]) (st1 := [(0, jadd (jrem a2 8) a5)]) (h1 := h) rfl ?_
      refine jT.if1 (st_M_isJumped) rfl (tgt := 46) (by decide) (fun hc => ?_) (fun hc => ?_)
      · have hc : jadd (jrem a2 8) a5 < 0 := hc
        try rw [if_pos hc] at hv
        refine jG.subp [2, 3, 5, 1, 0] (L1 := [(0, (2, ((24 : Nat) : Int))), (1, (0, a1)), (3, (0, a3)), (6, (0, jadd (jdiv a2 8) a4)), (7, (0, jadd (jrem a2 8) a5))]) rfl ?_
        exact f_M_isJumped_j46_ok E hv
      · have hc : ¬ (jadd (jrem a2 8) a5 < 0) := hc
        try rw [if_neg hc] at hv
        refine jG.blk (st_M_isJumped) 2 (pc1 := 39) (L1 := [(7, (0, jadd (jrem a2 8) a5)), (6, (0, jadd (jdiv a2 8) a4)), (0, (2, ((24 : Nat) : Int))), (1, (0, a1)), (2, (0, a2)), (3, (0, a3)), (4, (0, a4)), (5, (0, a5))]) (st1 := [(0, 8), (0, jadd (jrem a2 8) a5)]) (h1 := h) rfl ?_
        refine jT.if2 (st_M_isJumped) rfl (tgt := 46) (by decide) (fun hc => ?_) (fun hc => ?_)
        · have hc : 8 ≤ jadd (jrem a2 8) a5 := hc
          try rw [if_pos hc] at hv
          refine jG.subp [2, 3, 5, 1, 0] (L1 := [(0, (2, ((24 : Nat) : Int))), (1, (0, a1)), (3, (0, a3)), (6, (0, jadd (jdiv a2 8) a4)), (7, (0, jadd (jrem a2 8) a5))]) rfl ?_
          exact f_M_isJumped_j46_ok E hv
        · have hc : ¬ (8 ≤ jadd (jrem a2 8) a5) := hc
          try rw [if_neg hc] at hv
          refine jG.blk (st_M_isJumped) 1 (pc1 := 43) (L1 := [(7, (0, jadd (jrem a2 8) a5)), (6, (0, jadd (jdiv a2 8) a4)), (0, (2, ((24 : Nat) : Int))), (1, (0, a1)), (2, (0, a2)), (3, (0, a3)), (4, (0, a4)), (5, (0, a5))]) (st1 := [(0, 1)]) (h1 := h) rfl ?_
          refine jT.goto (st_M_isJumped) rfl (tgt := 47) (by decide) ?_
          refine jG.subp [2, 3, 5, 1, 0] (L1 := [(0, (2, ((24 : Nat) : Int))), (1, (0, a1)), (3, (0, a3)), (6, (0, jadd (jdiv a2 8) a4)), (7, (0, jadd (jrem a2 8) a5))]) rfl ?_
          exact f_M_isJumped_j47_ok E hv
def f_M_isAttacked_lp6 (h : jH) (x3 : Int) (x4 : Int) (x5 : Int) (k : Int → Int → Option (Int)) : Nat → Int → Int → Option (Int)
  | 0, _, _ => none
  | n + 1, l1, l2 => if 9 ≤ l2 then k l1 l2 else if l1 = 0 then if l2 = 4 then f_M_isAttacked_lp6 h x3 x4 x5 k n 0 (jadd l2 1) else (f_M_isSeen h x3 x4 x5 (jsub (jdiv l2 3) 1) (jsub (jrem l2 3) 1)).bind fun v6 => f_M_isAttacked_lp6 h x3 x4 x5 k n (if v6 = 0 then 0 else 1) (jadd l2 1) else k l1 l2
def f_M_isAttacked_j120_62 (rc : Int → Int → Option (Int)) (k : Int → Int → Option (Int)) (h : jH) (x15 : Int) (x16 : Int) (x17 : Int) (l24 : Int) (s25 : Int) (s26 : Int) (s27 : Int) (s28 : Int) (s29 : Int) : Option (Int) := (f_M_isJumped h s29 s28 s27 s26 s25).bind fun v30 => rc v30 (jadd l24 1)
def f_M_isAttacked_j100_62 (rc : Int → Int → Option (Int)) (k : Int → Int → Option (Int)) (h : jH) (x15 : Int) (x16 : Int) (x17 : Int) (l18 : Int) (l19 : Int) (s20 : Int) (s21 : Int) (s22 : Int) (s23 : Int) : Option (Int) := f_M_isAttacked_j120_62 rc k h x15 x16 x17 l18 (if jrem (jdiv l18 2) 2 = 0 then jsub 3 l19 else jsub l19 3) s20 s21 s22 s23
def f_M_isAttacked_lp62 (h : jH) (x15 : Int) (x16 : Int) (x17 : Int) (k : Int → Int → Option (Int)) : Nat → Int → Int → Option (Int)
  | 0, _, _ => none
  | n + 1, l13, l14 => if 8 ≤ l14 then k l13 l14 else if l13 = 0 then f_M_isAttacked_j100_62 (f_M_isAttacked_lp62 h x15 x16 x17 k n) k h x15 x16 x17 l14 (jadd (jrem l14 2) 1) (if 4 ≤ l14 then jneg (jadd (jrem l14 2) 1) else jadd (jrem l14 2) 1) x17 x16 x15 else k l13 l14
def f_M_isAttacked_j59 (h : jH) (l9 : Int) (l10 : Int) (l11 : Int) (l12 : Int) : Option (Int) := f_M_isAttacked_lp62 h l9 l10 l11 (fun l31 l32 => jgd (l31 = 0 ∨ l31 = 1) (some l31)) 1000 l12 0
def f_M_isAttacked (h : jH) (a1 : Int) (a2 : Int) (a3 : Int) : Option (Int) := f_M_isAttacked_lp6 h a1 a2 a3 (fun l7 l8 => f_M_isAttacked_j59 h a1 a2 a3 l7) 1000 0 0
set_option maxRecDepth 100000 in
set_option maxHeartbeats 4000000 in
theorem f_M_isAttacked_lp6_ok (E : jE) {h : jH} {x3 : Int} {x4 : Int} {x5 : Int} {k : Int → Int → Option (Int)} (hk : ∀ (l1 : Int) (l2 : Int) (res : Int), k l1 l2 = some res → jG E M_M_isAttacked 59 [(0, (2, ((24 : Nat) : Int))), (1, (0, x3)), (2, (0, x4)), (3, (0, x5)), (4, (0, l1))] [] h (some (0, res)) h) : ∀ (n : Nat) (l1 : Int) (l2 : Int) (res : Int), f_M_isAttacked_lp6 h x3 x4 x5 k n l1 l2 = some res → jG E M_M_isAttacked 6 [(0, (2, ((24 : Nat) : Int))), (1, (0, x3)), (2, (0, x4)), (3, (0, x5)), (4, (0, l1)), (5, (0, l2))] [] h (some (0, res)) h := by
  intro n
  induction n with
  | zero => intro l1 l2 res hv; cases hv
  | succ n ih =>
    intro l1 l2 res hv
    rw [f_M_isAttacked_lp6] at hv
    refine jG.blk (st_M_isAttacked) 2 (pc1 := 10) (L1 := [(0, (2, ((24 : Nat) : Int))), (1, (0, x3)), (2, (0, x4)), (3, (0, x5)), (4, (0, l1)), (5, (0, l2))]) (st1 := [(0, 9), (0, l2)]) (h1 := h) rfl ?_
    refine jT.if2 (st_M_isAttacked) rfl (tgt := 59) (by decide) (fun hc => ?_) (fun hc => ?_)
    · have hc : 9 ≤ l2 := hc
      try rw [if_pos hc] at hv
      refine jG.subp [0, 1, 2, 3, 4] (L1 := [(0, (2, ((24 : Nat) : Int))), (1, (0, x3)), (2, (0, x4)), (3, (0, x5)), (4, (0, l1))]) rfl ?_
      exact hk _ _ _ hv
    · have hc : ¬ (9 ≤ l2) := hc
      try rw [if_neg hc] at hv
      refine jG.blk (st_M_isAttacked) 1 (pc1 := 15) (L1 := [(0, (2, ((24 : Nat) : Int))), (1, (0, x3)), (2, (0, x4)), (3, (0, x5)), (4, (0, l1)), (5, (0, l2))]) (st1 := [(0, l1)]) (h1 := h) rfl ?_
      refine jT.if1 (st_M_isAttacked) rfl (tgt := 59) (by decide) (fun hc => ?_) (fun hc => ?_)
      · have hc : ¬ (l1 = 0) := hc
        try rw [if_neg hc] at hv
        refine jG.subp [0, 1, 2, 3, 4] (L1 := [(0, (2, ((24 : Nat) : Int))), (1, (0, x3)), (2, (0, x4)), (3, (0, x5)), (4, (0, l1))]) rfl ?_
        exact hk _ _ _ hv
      · have hc : l1 = 0 := Decidable.not_not.mp hc
        try rw [if_pos hc] at hv
        refine jG.blk (st_M_isAttacked) 2 (pc1 := 21) (L1 := [(0, (2, ((24 : Nat) : Int))), (1, (0, x3)), (2, (0, x4)), (3, (0, x5)), (4, (0, l1)), (5, (0, l2))]) (st1 := [(0, 4), (0, l2)]) (h1 := h) rfl ?_
        refine jT.if2 (st_M_isAttacked) rfl (tgt := 50) (by decide) (fun hc => ?_) (fun hc => ?_)
        · have hc : l2 = 4 := hc
          try rw [if_pos hc] at hv
          refine jG.blk (st_M_isAttacked) 3 (pc1 := 56) (L1 := [(5, (0, jadd l2 1)), (4, (0, 0)), (0, (2, ((24 : Nat) : Int))), (1, (0, x3)), (2, (0, x4)), (3, (0, x5))]) (st1 := []) (h1 := h) rfl ?_
          refine jT.goto (st_M_isAttacked) rfl (tgt := 6) (by decide) ?_
          refine jG.subp [2, 3, 4, 5, 1, 0] (L1 := [(0, (2, ((24 : Nat) : Int))), (1, (0, x3)), (2, (0, x4)), (3, (0, x5)), (4, (0, 0)), (5, (0, jadd l2 1))]) rfl ?_
          exact ih _ _ _ hv
        · have hc : ¬ (l2 = 4) := hc
          try rw [if_neg hc] at hv
          refine jG.blk (st_M_isAttacked) 14 (pc1 := 40) (L1 := [(0, (2, ((24 : Nat) : Int))), (1, (0, x3)), (2, (0, x4)), (3, (0, x5)), (4, (0, l1)), (5, (0, l2))]) (st1 := [(0, jsub (jrem l2 3) 1), (0, jsub (jdiv l2 3) 1), (0, x5), (0, x4), (0, x3), (2, ((24 : Nat) : Int))]) (h1 := h) rfl ?_
          obtain ⟨v6, hq, hv⟩ := Option.bind_eq_some_iff.mp hv
          refine jT.cV (M1 := M_M_isSeen) (2, ((24 : Nat) : Int)) [(0, x3), (0, x4), (0, x5), (0, jsub (jdiv l2 3) 1), (0, jsub (jrem l2 3) 1)] [] (st_M_isAttacked) rfl rfl ok_M_isSeen rfl (Or.inl ⟨rfl, _, _, _, rfl, rfl⟩) (Nat.le_of_ble_eq_true rfl) (Nat.le_of_ble_eq_true rfl) rfl (Nat.le_of_ble_eq_true rfl) (C_M_isSeen hq) ?_
          show jG E _ 43 [(0, (2, ((24 : Nat) : Int))), (1, (0, x3)), (2, (0, x4)), (3, (0, x5)), (4, (0, l1)), (5, (0, l2))] [(0, v6)] h _ _
          refine jT.if1 (st_M_isAttacked) rfl (tgt := 50) (by decide) (fun hc => ?_) (fun hc => ?_)
          · have hc : v6 = 0 := hc
            try rw [if_pos hc] at hv
            refine jG.blk (st_M_isAttacked) 3 (pc1 := 56) (L1 := [(5, (0, jadd l2 1)), (4, (0, 0)), (0, (2, ((24 : Nat) : Int))), (1, (0, x3)), (2, (0, x4)), (3, (0, x5))]) (st1 := []) (h1 := h) rfl ?_
            refine jT.goto (st_M_isAttacked) rfl (tgt := 6) (by decide) ?_
            refine jG.subp [2, 3, 4, 5, 1, 0] (L1 := [(0, (2, ((24 : Nat) : Int))), (1, (0, x3)), (2, (0, x4)), (3, (0, x5)), (4, (0, 0)), (5, (0, jadd l2 1))]) rfl ?_
            exact ih _ _ _ hv
          · have hc : ¬ (v6 = 0) := hc
            try rw [if_neg hc] at hv
            refine jG.blk (st_M_isAttacked) 1 (pc1 := 47) (L1 := [(0, (2, ((24 : Nat) : Int))), (1, (0, x3)), (2, (0, x4)), (3, (0, x5)), (4, (0, l1)), (5, (0, l2))]) (st1 := [(0, 1)]) (h1 := h) rfl ?_
            refine jT.goto (st_M_isAttacked) rfl (tgt := 51) (by decide) ?_
            refine jG.blk (st_M_isAttacked) 2 (pc1 := 56) (L1 := [(5, (0, jadd l2 1)), (4, (0, 1)), (0, (2, ((24 : Nat) : Int))), (1, (0, x3)), (2, (0, x4)), (3, (0, x5))]) (st1 := []) (h1 := h) rfl ?_
            refine jT.goto (st_M_isAttacked) rfl (tgt := 6) (by decide) ?_
            refine jG.subp [2, 3, 4, 5, 1, 0] (L1 := [(0, (2, ((24 : Nat) : Int))), (1, (0, x3)), (2, (0, x4)), (3, (0, x5)), (4, (0, 1)), (5, (0, jadd l2 1))]) rfl ?_
            exact ih _ _ _ hv
set_option maxRecDepth 100000 in
set_option maxHeartbeats 4000000 in
theorem f_M_isAttacked_j120_62_ok (E : jE) {rc : Int → Int → Option (Int)} {k : Int → Int → Option (Int)} {h : jH} {x15 : Int} {x16 : Int} {x17 : Int} (hrc : ∀ (l13 : Int) (l14 : Int) (res : Int), rc l13 l14 = some res → jG E M_M_isAttacked 62 [(0, (2, ((24 : Nat) : Int))), (1, (0, x15)), (2, (0, x16)), (3, (0, x17)), (4, (0, l13)), (5, (0, l14))] [] h (some (0, res)) h) (hk : ∀ (l13 : Int) (l14 : Int) (res : Int), k l13 l14 = some res → jG E M_M_isAttacked 131 [(4, (0, l13))] [] h (some (0, res)) h) {l24 : Int} {s25 : Int} {s26 : Int} {s27 : Int} {s28 : Int} {s29 : Int} {res : Int} (hv : f_M_isAttacked_j120_62 rc k h x15 x16 x17 l24 s25 s26 s27 s28 s29 = some res) : jG E M_M_isAttacked 120 [(0, (2, ((24 : Nat) : Int))), (1, (0, x15)), (2, (0, x16)), (3, (0, x17)), (5, (0, l24))] [(0, s25), (0, s26), (0, s27), (0, s28), (0, s29), (2, ((24 : Nat) : Int))] h (some (0, res)) h := by
  unfold f_M_isAttacked_j120_62 at hv
  obtain ⟨v30, hq, hv⟩ := Option.bind_eq_some_iff.mp hv
  refine jT.cV (M1 := M_M_isJumped) (2, ((24 : Nat) : Int)) [(0, s29), (0, s28), (0, s27), (0, s26), (0, s25)] [] (st_M_isAttacked) rfl rfl ok_M_isJumped rfl (Or.inl ⟨rfl, _, _, _, rfl, rfl⟩) (Nat.le_of_ble_eq_true rfl) (Nat.le_of_ble_eq_true rfl) rfl (Nat.le_of_ble_eq_true rfl) (C_M_isJumped hq) ?_
  show jG E _ 123 [(0, (2, ((24 : Nat) : Int))), (1, (0, x15)), (2, (0, x16)), (3, (0, x17)), (5, (0, l24))] [(0, v30)] h _ _
  refine jG.blk (st_M_isAttacked) 2 (pc1 := 128) (L1 := [(5, (0, jadd l24 1)), (4, (0, v30)), (0, (2, ((24 : Nat) : Int))), (1, (0, x15)), (2, (0, x16)), (3, (0, x17))]) (st1 := []) (h1 := h) rfl ?_
  refine jT.goto (st_M_isAttacked) rfl (tgt := 62) (by decide) ?_
  refine jG.subp [2, 3, 4, 5, 1, 0] (L1 := [(0, (2, ((24 : Nat) : Int))), (1, (0, x15)), (2, (0, x16)), (3, (0, x17)), (4, (0, v30)), (5, (0, jadd l24 1))]) rfl ?_
  exact hrc _ _ _ hv
set_option maxRecDepth 100000 in
set_option maxHeartbeats 4000000 in
theorem f_M_isAttacked_j100_62_ok (E : jE) {rc : Int → Int → Option (Int)} {k : Int → Int → Option (Int)} {h : jH} {x15 : Int} {x16 : Int} {x17 : Int} (hrc : ∀ (l13 : Int) (l14 : Int) (res : Int), rc l13 l14 = some res → jG E M_M_isAttacked 62 [(0, (2, ((24 : Nat) : Int))), (1, (0, x15)), (2, (0, x16)), (3, (0, x17)), (4, (0, l13)), (5, (0, l14))] [] h (some (0, res)) h) (hk : ∀ (l13 : Int) (l14 : Int) (res : Int), k l13 l14 = some res → jG E M_M_isAttacked 131 [(4, (0, l13))] [] h (some (0, res)) h) {l18 : Int} {l19 : Int} {s20 : Int} {s21 : Int} {s22 : Int} {s23 : Int} {res : Int} (hv : f_M_isAttacked_j100_62 rc k h x15 x16 x17 l18 l19 s20 s21 s22 s23 = some res) : jG E M_M_isAttacked 100 [(0, (2, ((24 : Nat) : Int))), (1, (0, x15)), (2, (0, x16)), (3, (0, x17)), (5, (0, l18)), (6, (0, l19))] [(0, s20), (0, s21), (0, s22), (0, s23), (2, ((24 : Nat) : Int))] h (some (0, res)) h := by
  unfold f_M_isAttacked_j100_62 at hv
  refine jG.blk (st_M_isAttacked) 5 (pc1 := 106) (L1 := [(0, (2, ((24 : Nat) : Int))), (1, (0, x15)), (2, (0, x16)), (3, (0, x17)), (5, (0, l18)), (6, (0, l19))]) (st1 := [(0, jrem (jdiv l18 2) 2), (0, s20), (0, s21), (0, s22), (0, s23), (2, ((24 : Nat) : Int))]) (h1 := h) rfl ?_
  refine jT.if1 (st_M_isAttacked) rfl (tgt := 116) (by decide) (fun hc => ?_) (fun hc => ?_)
  · have hc : ¬ (jrem (jdiv l18 2) 2 = 0) := hc
    try rw [if_neg hc] at hv
    refine jG.blk (st_M_isAttacked) 3 (pc1 := 120) (L1 := [(0, (2, ((24 : Nat) : Int))), (1, (0, x15)), (2, (0, x16)), (3, (0, x17)), (5, (0, l18)), (6, (0, l19))]) (st1 := [(0, jsub l19 3), (0, s20), (0, s21), (0, s22), (0, s23), (2, ((24 : Nat) : Int))]) (h1 := h) rfl ?_
    refine jG.subp [0, 1, 2, 3, 4] (L1 := [(0, (2, ((24 : Nat) : Int))), (1, (0, x15)), (2, (0, x16)), (3, (0, x17)), (5, (0, l18))]) rfl ?_
    exact f_M_isAttacked_j120_62_ok E hrc hk hv
  · have hc : jrem (jdiv l18 2) 2 = 0 := Decidable.not_not.mp hc
    try rw [if_pos hc] at hv
    refine jG.blk (st_M_isAttacked) 3 (pc1 := 113) (L1 := [(0, (2, ((24 : Nat) : Int))), (1, (0, x15)), (2, (0, x16)), (3, (0, x17)), (5, (0, l18)), (6, (0, l19))]) (st1 := [(0, jsub 3 l19), (0, s20), (0, s21), (0, s22), (0, s23), (2, ((24 : Nat) : Int))]) (h1 := h) rfl ?_
    refine jT.goto (st_M_isAttacked) rfl (tgt := 120) (by decide) ?_
    refine jG.subp [0, 1, 2, 3, 4] (L1 := [(0, (2, ((24 : Nat) : Int))), (1, (0, x15)), (2, (0, x16)), (3, (0, x17)), (5, (0, l18))]) rfl ?_
    exact f_M_isAttacked_j120_62_ok E hrc hk hv
set_option maxRecDepth 100000 in
set_option maxHeartbeats 4000000 in
theorem f_M_isAttacked_lp62_ok (E : jE) {h : jH} {x15 : Int} {x16 : Int} {x17 : Int} {k : Int → Int → Option (Int)} (hk : ∀ (l13 : Int) (l14 : Int) (res : Int), k l13 l14 = some res → jG E M_M_isAttacked 131 [(4, (0, l13))] [] h (some (0, res)) h) : ∀ (n : Nat) (l13 : Int) (l14 : Int) (res : Int), f_M_isAttacked_lp62 h x15 x16 x17 k n l13 l14 = some res → jG E M_M_isAttacked 62 [(0, (2, ((24 : Nat) : Int))), (1, (0, x15)), (2, (0, x16)), (3, (0, x17)), (4, (0, l13)), (5, (0, l14))] [] h (some (0, res)) h := by
  intro n
  induction n with
  | zero => intro l13 l14 res hv; cases hv
  | succ n ih =>
    intro l13 l14 res hv
    rw [f_M_isAttacked_lp62] at hv
    refine jG.blk (st_M_isAttacked) 2 (pc1 := 66) (L1 := [(0, (2, ((24 : Nat) : Int))), (1, (0, x15)), (2, (0, x16)), (3, (0, x17)), (4, (0, l13)), (5, (0, l14))]) (st1 := [(0, 8), (0, l14)]) (h1 := h) rfl ?_
    refine jT.if2 (st_M_isAttacked) rfl (tgt := 131) (by decide) (fun hc => ?_) (fun hc => ?_)
    · have hc : 8 ≤ l14 := hc
      try rw [if_pos hc] at hv
      refine jG.subp [4] (L1 := [(4, (0, l13))]) rfl ?_
      exact hk _ _ _ hv
    · have hc : ¬ (8 ≤ l14) := hc
      try rw [if_neg hc] at hv
      refine jG.blk (st_M_isAttacked) 1 (pc1 := 71) (L1 := [(0, (2, ((24 : Nat) : Int))), (1, (0, x15)), (2, (0, x16)), (3, (0, x17)), (4, (0, l13)), (5, (0, l14))]) (st1 := [(0, l13)]) (h1 := h) rfl ?_
      refine jT.if1 (st_M_isAttacked) rfl (tgt := 131) (by decide) (fun hc => ?_) (fun hc => ?_)
      · have hc : ¬ (l13 = 0) := hc
        try rw [if_neg hc] at hv
        refine jG.subp [4] (L1 := [(4, (0, l13))]) rfl ?_
        exact hk _ _ _ hv
      · have hc : l13 = 0 := Decidable.not_not.mp hc
        try rw [if_pos hc] at hv
        refine jG.blk (st_M_isAttacked) 12 (pc1 := 89) (L1 := [(6, (0, jadd (jrem l14 2) 1)), (0, (2, ((24 : Nat) : Int))), (1, (0, x15)), (2, (0, x16)), (3, (0, x17)), (4, (0, l13)), (5, (0, l14))]) (st1 := [(0, 4), (0, l14), (0, x17), (0, x16), (0, x15), (2, ((24 : Nat) : Int))]) (h1 := h) rfl ?_
        refine jT.if2 (st_M_isAttacked) rfl (tgt := 97) (by decide) (fun hc => ?_) (fun hc => ?_)
        · have hc : 4 ≤ l14 := hc
          try rw [if_pos hc] at hv
          refine jG.blk (st_M_isAttacked) 2 (pc1 := 100) (L1 := [(6, (0, jadd (jrem l14 2) 1)), (0, (2, ((24 : Nat) : Int))), (1, (0, x15)), (2, (0, x16)), (3, (0, x17)), (4, (0, l13)), (5, (0, l14))]) (st1 := [(0, jneg (jadd (jrem l14 2) 1)), (0, x17), (0, x16), (0, x15), (2, ((24 : Nat) : Int))]) (h1 := h) rfl ?_
          refine jG.subp [1, 2, 3, 4, 6, 0] (L1 := [(0, (2, ((24 : Nat) : Int))), (1, (0, x15)), (2, (0, x16)), (3, (0, x17)), (5, (0, l14)), (6, (0, jadd (jrem l14 2) 1))]) rfl ?_
          exact f_M_isAttacked_j100_62_ok E ih hk hv
        · have hc : ¬ (4 ≤ l14) := hc
          try rw [if_neg hc] at hv
          refine jG.blk (st_M_isAttacked) 1 (pc1 := 94) (L1 := [(6, (0, jadd (jrem l14 2) 1)), (0, (2, ((24 : Nat) : Int))), (1, (0, x15)), (2, (0, x16)), (3, (0, x17)), (4, (0, l13)), (5, (0, l14))]) (st1 := [(0, jadd (jrem l14 2) 1), (0, x17), (0, x16), (0, x15), (2, ((24 : Nat) : Int))]) (h1 := h) rfl ?_
          refine jT.goto (st_M_isAttacked) rfl (tgt := 100) (by decide) ?_
          refine jG.subp [1, 2, 3, 4, 6, 0] (L1 := [(0, (2, ((24 : Nat) : Int))), (1, (0, x15)), (2, (0, x16)), (3, (0, x17)), (5, (0, l14)), (6, (0, jadd (jrem l14 2) 1))]) rfl ?_
          exact f_M_isAttacked_j100_62_ok E ih hk hv
set_option maxRecDepth 100000 in
set_option maxHeartbeats 4000000 in
theorem f_M_isAttacked_j59_ok (E : jE) {h : jH} {l9 : Int} {l10 : Int} {l11 : Int} {l12 : Int} {res : Int} (hv : f_M_isAttacked_j59 h l9 l10 l11 l12 = some res) : jG E M_M_isAttacked 59 [(0, (2, ((24 : Nat) : Int))), (1, (0, l9)), (2, (0, l10)), (3, (0, l11)), (4, (0, l12))] [] h (some (0, res)) h := by
  unfold f_M_isAttacked_j59 at hv
  refine jG.blk (st_M_isAttacked) 2 (pc1 := 62) (L1 := [(5, (0, 0)), (0, (2, ((24 : Nat) : Int))), (1, (0, l9)), (2, (0, l10)), (3, (0, l11)), (4, (0, l12))]) (st1 := []) (h1 := h) rfl ?_
  refine jG.subp [1, 2, 3, 4, 5, 0] (L1 := [(0, (2, ((24 : Nat) : Int))), (1, (0, l9)), (2, (0, l10)), (3, (0, l11)), (4, (0, l12)), (5, (0, 0))]) rfl ?_
  refine f_M_isAttacked_lp62_ok E (fun l31 l32 res hv => ?_) 1000 _ _ _ hv
  · refine jG.blk (st_M_isAttacked) 1 (pc1 := 133) (L1 := [(4, (0, l31))]) (st1 := [(0, l31)]) (h1 := h) rfl ?_
    obtain ⟨hg, hv⟩ := jgd_some hv
    cases hv
    exact jT.iret (st_M_isAttacked) rfl hg
set_option maxRecDepth 100000 in
set_option maxHeartbeats 4000000 in
theorem C_M_isAttacked {E : jE} {h : jH} {a1 : Int} {a2 : Int} {a3 : Int} {res : Int} (hv : f_M_isAttacked h a1 a2 a3 = some res) : jC E M_M_isAttacked [(2, ((24 : Nat) : Int)), (0, a1), (0, a2), (0, a3)] h (some (0, res)) h := by
  refine jC.of ok_M_isAttacked.1 (by rw [jlg]; exact Nat.le_of_ble_eq_true rfl) ?_
  show jG E _ 0 [(0, (2, ((24 : Nat) : Int))), (1, (0, a1)), (2, (0, a2)), (3, (0, a3))] [] h _ _
  unfold f_M_isAttacked at hv
  refine jG.blk (st_M_isAttacked) 4 (pc1 := 6) (L1 := [(5, (0, 0)), (4, (0, 0)), (0, (2, ((24 : Nat) : Int))), (1, (0, a1)), (2, (0, a2)), (3, (0, a3))]) (st1 := []) (h1 := h) rfl ?_
  refine jG.subp [2, 3, 4, 5, 1, 0] (L1 := [(0, (2, ((24 : Nat) : Int))), (1, (0, a1)), (2, (0, a2)), (3, (0, a3)), (4, (0, 0)), (5, (0, 0))]) rfl ?_
  refine f_M_isAttacked_lp6_ok E (fun l7 l8 res hv => ?_) 1000 _ _ _ hv
  · exact f_M_isAttacked_j59_ok E hv
def f_M_isGood (h : jH) (a1 : Int) : Option (Int) := (f_M_hasKings h a1).bind fun v1 => if v1 = 0 then some 0 else (f_M_areRights h a1).bind fun v2 => if v2 = 0 then some 0 else (f_M_isFile h a1).bind fun v3 => if v3 = 0 then some 0 else jgd (0 ≤ a1 ∧ a1 < 304) ((f_M_kingOf h a1 (jsub 1 (h 26 a1.toNat))).bind fun v4 => jgd (0 ≤ a1 ∧ a1 < 304) ((f_M_isAttacked h a1 v4 (h 26 a1.toNat)).bind fun v5 => some (if v5 = 0 then 1 else 0)))
set_option maxRecDepth 100000 in
set_option maxHeartbeats 4000000 in
theorem C_M_isGood {E : jE} {h : jH} {a1 : Int} {res : Int} (hv : f_M_isGood h a1 = some res) : jC E M_M_isGood [(2, ((24 : Nat) : Int)), (0, a1)] h (some (0, res)) h := by
  refine jC.of ok_M_isGood.1 (by rw [jlg]; exact Nat.le_of_ble_eq_true rfl) ?_
  show jG E _ 0 [(0, (2, ((24 : Nat) : Int))), (1, (0, a1))] [] h _ _
  unfold f_M_isGood at hv
  refine jG.blk (st_M_isGood) 2 (pc1 := 2) (L1 := [(0, (2, ((24 : Nat) : Int))), (1, (0, a1))]) (st1 := [(0, a1), (2, ((24 : Nat) : Int))]) (h1 := h) rfl ?_
  obtain ⟨v1, hq, hv⟩ := Option.bind_eq_some_iff.mp hv
  refine jT.cV (M1 := M_M_hasKings) (2, ((24 : Nat) : Int)) [(0, a1)] [] (st_M_isGood) rfl rfl ok_M_hasKings rfl (Or.inl ⟨rfl, _, _, _, rfl, rfl⟩) (Nat.le_of_ble_eq_true rfl) (Nat.le_of_ble_eq_true rfl) rfl (Nat.le_of_ble_eq_true rfl) (C_M_hasKings hq) ?_
  show jG E _ 5 [(0, (2, ((24 : Nat) : Int))), (1, (0, a1))] [(0, v1)] h _ _
  refine jT.if1 (st_M_isGood) rfl (tgt := 55) (by decide) (fun hc => ?_) (fun hc => ?_)
  · have hc : v1 = 0 := hc
    try rw [if_pos hc] at hv
    refine jG.blk (st_M_isGood) 1 (pc1 := 56) (L1 := [(0, (2, ((24 : Nat) : Int))), (1, (0, a1))]) (st1 := [(0, 0)]) (h1 := h) rfl ?_
    cases hv
    exact jT.iret (st_M_isGood) rfl (Or.inl rfl)
  · have hc : ¬ (v1 = 0) := hc
    try rw [if_neg hc] at hv
    refine jG.blk (st_M_isGood) 2 (pc1 := 10) (L1 := [(0, (2, ((24 : Nat) : Int))), (1, (0, a1))]) (st1 := [(0, a1), (2, ((24 : Nat) : Int))]) (h1 := h) rfl ?_
    obtain ⟨v2, hq, hv⟩ := Option.bind_eq_some_iff.mp hv
    refine jT.cV (M1 := M_M_areRights) (2, ((24 : Nat) : Int)) [(0, a1)] [] (st_M_isGood) rfl rfl ok_M_areRights rfl (Or.inl ⟨rfl, _, _, _, rfl, rfl⟩) (Nat.le_of_ble_eq_true rfl) (Nat.le_of_ble_eq_true rfl) rfl (Nat.le_of_ble_eq_true rfl) (C_M_areRights hq) ?_
    show jG E _ 13 [(0, (2, ((24 : Nat) : Int))), (1, (0, a1))] [(0, v2)] h _ _
    refine jT.if1 (st_M_isGood) rfl (tgt := 55) (by decide) (fun hc => ?_) (fun hc => ?_)
    · have hc : v2 = 0 := hc
      try rw [if_pos hc] at hv
      refine jG.blk (st_M_isGood) 1 (pc1 := 56) (L1 := [(0, (2, ((24 : Nat) : Int))), (1, (0, a1))]) (st1 := [(0, 0)]) (h1 := h) rfl ?_
      cases hv
      exact jT.iret (st_M_isGood) rfl (Or.inl rfl)
    · have hc : ¬ (v2 = 0) := hc
      try rw [if_neg hc] at hv
      refine jG.blk (st_M_isGood) 2 (pc1 := 18) (L1 := [(0, (2, ((24 : Nat) : Int))), (1, (0, a1))]) (st1 := [(0, a1), (2, ((24 : Nat) : Int))]) (h1 := h) rfl ?_
      obtain ⟨v3, hq, hv⟩ := Option.bind_eq_some_iff.mp hv
      refine jT.cV (M1 := M_M_isFile) (2, ((24 : Nat) : Int)) [(0, a1)] [] (st_M_isGood) rfl rfl ok_M_isFile rfl (Or.inl ⟨rfl, _, _, _, rfl, rfl⟩) (Nat.le_of_ble_eq_true rfl) (Nat.le_of_ble_eq_true rfl) rfl (Nat.le_of_ble_eq_true rfl) (C_M_isFile hq) ?_
      show jG E _ 21 [(0, (2, ((24 : Nat) : Int))), (1, (0, a1))] [(0, v3)] h _ _
      refine jT.if1 (st_M_isGood) rfl (tgt := 55) (by decide) (fun hc => ?_) (fun hc => ?_)
      · have hc : v3 = 0 := hc
        try rw [if_pos hc] at hv
        refine jG.blk (st_M_isGood) 1 (pc1 := 56) (L1 := [(0, (2, ((24 : Nat) : Int))), (1, (0, a1))]) (st1 := [(0, 0)]) (h1 := h) rfl ?_
        cases hv
        exact jT.iret (st_M_isGood) rfl (Or.inl rfl)
      · have hc : ¬ (v3 = 0) := hc
        try rw [if_neg hc] at hv
        refine jG.blk (st_M_isGood) 8 (pc1 := 34) (L1 := [(0, (2, ((24 : Nat) : Int))), (1, (0, a1))]) (st1 := [(0, a1), (2, ((26 : Nat) : Int)), (0, 1), (0, a1), (2, ((24 : Nat) : Int)), (0, a1), (2, ((24 : Nat) : Int))]) (h1 := h) rfl ?_
        obtain ⟨hg, hv⟩ := jgd_some hv
        refine jT.iald (a := 26) (st_M_isGood) rfl rfl (by decide) hg.1 hg.2 ?_
        refine jG.blk (st_M_isGood) 1 (pc1 := 36) (L1 := [(0, (2, ((24 : Nat) : Int))), (1, (0, a1))]) (st1 := [(0, jsub 1 (h 26 a1.toNat)), (0, a1), (2, ((24 : Nat) : Int)), (0, a1), (2, ((24 : Nat) : Int))]) (h1 := h) rfl ?_
        obtain ⟨v4, hq, hv⟩ := Option.bind_eq_some_iff.mp hv
        refine jT.cV (M1 := M_M_kingOf) (2, ((24 : Nat) : Int)) [(0, a1), (0, jsub 1 (h 26 a1.toNat))] [(0, a1), (2, ((24 : Nat) : Int))] (st_M_isGood) rfl rfl ok_M_kingOf rfl (Or.inl ⟨rfl, _, _, _, rfl, rfl⟩) (Nat.le_of_ble_eq_true rfl) (Nat.le_of_ble_eq_true rfl) rfl (Nat.le_of_ble_eq_true rfl) (C_M_kingOf hq) ?_
        show jG E _ 39 [(0, (2, ((24 : Nat) : Int))), (1, (0, a1))] [(0, v4), (0, a1), (2, ((24 : Nat) : Int))] h _ _
        refine jG.blk (st_M_isGood) 3 (pc1 := 44) (L1 := [(0, (2, ((24 : Nat) : Int))), (1, (0, a1))]) (st1 := [(0, a1), (2, ((26 : Nat) : Int)), (0, v4), (0, a1), (2, ((24 : Nat) : Int))]) (h1 := h) rfl ?_
        obtain ⟨hg, hv⟩ := jgd_some hv
        refine jT.iald (a := 26) (st_M_isGood) rfl rfl (by decide) hg.1 hg.2 ?_
        obtain ⟨v5, hq, hv⟩ := Option.bind_eq_some_iff.mp hv
        refine jT.cV (M1 := M_M_isAttacked) (2, ((24 : Nat) : Int)) [(0, a1), (0, v4), (0, h 26 a1.toNat)] [] (st_M_isGood) rfl rfl ok_M_isAttacked rfl (Or.inl ⟨rfl, _, _, _, rfl, rfl⟩) (Nat.le_of_ble_eq_true rfl) (Nat.le_of_ble_eq_true rfl) rfl (Nat.le_of_ble_eq_true rfl) (C_M_isAttacked hq) ?_
        show jG E _ 48 [(0, (2, ((24 : Nat) : Int))), (1, (0, a1))] [(0, v5)] h _ _
        refine jT.if1 (st_M_isGood) rfl (tgt := 55) (by decide) (fun hc => ?_) (fun hc => ?_)
        · have hc : ¬ (v5 = 0) := hc
          try rw [if_neg hc] at hv
          refine jG.blk (st_M_isGood) 1 (pc1 := 56) (L1 := [(0, (2, ((24 : Nat) : Int))), (1, (0, a1))]) (st1 := [(0, 0)]) (h1 := h) rfl ?_
          cases hv
          exact jT.iret (st_M_isGood) rfl (Or.inl rfl)
        · have hc : v5 = 0 := Decidable.not_not.mp hc
          try rw [if_pos hc] at hv
          refine jG.blk (st_M_isGood) 1 (pc1 := 52) (L1 := [(0, (2, ((24 : Nat) : Int))), (1, (0, a1))]) (st1 := [(0, 1)]) (h1 := h) rfl ?_
          refine jT.goto (st_M_isGood) rfl (tgt := 56) (by decide) ?_
          cases hv
          exact jT.iret (st_M_isGood) rfl (Or.inr rfl)
